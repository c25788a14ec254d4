/-! contracts of the law's helpers; laid by a program -/
theorem mt_ofWH {l : Launch} {y : MethodName} {ws ws' : List Cond} {rm : Room} {Pc : Array Value → State → Prop} {Qc : Array Value → State → Outcome → State → Prop} {mc ms : Nat} {free : Addr → Prop} {cc : ByteArray} {maxL : Nat} {ret : Option FieldType} {hh : List (Nat × Nat × Nat × Nat)}
    (hy : plainName y.cls = true) (hw : ws = Cond.codeWith y cc maxL ret hh :: ws')
    (body : ∀ p e s m args below meth c s₁, BodyLoose p l y (headSpec ws rm) cc maxL ret e s m args below meth c s₁ → c.maxLocals = maxL → c.exceptionTable.toList = tableOf hh → Pc args s →
      W p l e (headSpec ws rm).room s m args below meth c s.heap [] 0 0 (MQ below Qc args s mc ms free) (entryFrame m args maxL)) : Met l y ws rm Pc Qc mc ms free := by
  refine MetFree.of_bodyS (code := cc) (maxLocals := maxL) (ret := ret) hy ?_ ?_
  · intro args s m h hn
    obtain ⟨m9, meth, c, hn9, h1, h2, h3, h4, -, h5, h6, -⟩ := Cond.codeWith_spec (atoms_spec (ws := ws) h _ (by rw [hw]; exact List.mem_cons_self))
    cases hn.symm.trans hn9
    exact ⟨meth, c, h1, h2, h3, h4, h5, h6⟩
  · intro p e s m args below meth c s₁ B hml hP _
    have hh0 : s₁.heap = s.heap := by rw [B.state]; rfl
    have ht : c.exceptionTable.toList = tableOf hh := vx_table (x := y) B (atoms_spec (ws := ws) B.pre _ (by rw [hw]; exact List.mem_cons_self))
    obtain ⟨t, a1, o, b1, b2, b3⟩ := body p e s m args below meth c s₁ B hml ht hP s₁ hh0 (Stand.of_body B)
    exact ⟨t, o, a1, b1, b2, b3⟩
theorem xw_IA : (.castable "java/lang/IllegalArgumentException" "java/lang/IllegalArgumentException" : Cond) ∈ xw_l := List.mem_of_getElem? (i := 3) rfl
theorem xw_IS : (.castable "java/lang/IllegalStateException" "java/lang/IllegalStateException" : Cond) ∈ xw_l := List.mem_of_getElem? (i := 4) rfl
theorem xw_IO : (.castable "java/lang/IndexOutOfBoundsException" "java/lang/IndexOutOfBoundsException" : Cond) ∈ xw_l := List.mem_of_getElem? (i := 5) rfl
def xn_l : List (String × String) := [("java/lang/IllegalStateException", "java/lang/IllegalArgumentException"), ("java/lang/IndexOutOfBoundsException", "java/lang/IllegalArgumentException"), ("java/lang/IllegalStateException", "java/lang/IndexOutOfBoundsException"), ("java/lang/IllegalArgumentException", "java/lang/IndexOutOfBoundsException")]
def xn_ok (U : State) : Prop := ∀ q ∈ xn_l, va_Nc q.1 q.2 U
theorem xn_ok.moved {u U : State} (h : xn_ok u) (hvm : u.vm.Alike U.vm) : xn_ok U := fun q hq => (h q hq).moved hvm
theorem xn_use {U : State} {q : String × String} (h : xn_ok U) (hq : q ∈ xn_l) : va_Nc q.1 q.2 U := h q hq
theorem xn_IS_IA : (("java/lang/IllegalStateException", "java/lang/IllegalArgumentException") : String × String) ∈ xn_l := List.mem_of_getElem? (i := 0) rfl
theorem xn_IO_IA : (("java/lang/IndexOutOfBoundsException", "java/lang/IllegalArgumentException") : String × String) ∈ xn_l := List.mem_of_getElem? (i := 1) rfl
theorem xn_IS_IO : (("java/lang/IllegalStateException", "java/lang/IndexOutOfBoundsException") : String × String) ∈ xn_l := List.mem_of_getElem? (i := 2) rfl
theorem xn_IA_IO : (("java/lang/IllegalArgumentException", "java/lang/IndexOutOfBoundsException") : String × String) ∈ xn_l := List.mem_of_getElem? (i := 3) rfl
def wq_E (D : va_G) (cl : List vw_C) (ws : va_W) (tys : List (ClassId × FieldType)) (sz : Nat) (U : State) : Prop := wq_W D cl ws tys sz U ∧ xe_ok U ∧ xz sz U U.heap ∧ xn_ok U
section XK
variable {p : Program} {l : Launch} {e : Env} {R : Room} {s : State} {m : MethodId} {args : Array Value} {below : List Frame} {meth : Method} {c : Code} {cells slots mc ms pc : Nat} {Q : State → Prop}
variable {ls : Array Slot} {rest st0 : List Value} {a : Array Value} {X : String} {A : Nat → Prop} {own name : String}
theorem xk_i (hr : vx_Run p l e R s m args below meth c s.heap [] cells slots mc ms (F0 m pc ls st0) rest (xq_i s.heap.size a) (xq X s.heap.size) (fun q => s.heap.size ≤ q)) (hA : ∀ q, s.heap.size ≤ q → A q) (hown : s.vm.findClass own = some m.cls) (pre : List ExceptionTableEntry) (x : ExceptionTableEntry) (suf : List ExceptionTableEntry) (hsplit : c.exceptionTable.toList = pre ++ x :: suf)
    (hpass : ∀ z ∈ pre, covers z pc = false ∨ (z.catchType ≠ 0 ∧ ∃ nm : String, (Cond.classLink own z.catchType nm).before args s = true ∧ va_Nc X nm s)) (hx : covers x pc = true) (h0 : x.catchType ≠ 0)
    (hlink : (Cond.classLink own x.catchType name).before args s = true) (hcast : (Cond.castable X name).before args s = true)
    (kk : ∀ (q9 : Nat) (H1 : Heap) (locs1 : List Loc), va_S A s.heap H1 locs1 → (∀ q : Nat, q < s.heap.size → H1[q]? = s.heap[q]?) → W p l e R s m args below meth c H1 locs1 (cells + mc) (slots + ms) Q (F0 m x.handlerPc ls [.ref q9])) : W p l e R s m args below meth c s.heap [] cells slots Q (F0 m pc ls st0) :=
  vx_calli hr (va_S.rf (A := A)) (fun q _ h => hA q h) (fun q h => hA q h) (fun q _ h => hA q h) (fun E ce q9 u t H1 locs1 _ _ _ hE hz hk hS h1 h2 h3 => by
    subst hE
    exact vx_catch hown pre x suf hsplit hpass hx h0 hlink hcast h1 h2 h3 (kk q9 H1 locs1 hS (fun q hq => hk q hq (by show ¬ s.heap.size ≤ q; omega)))) (fun _ _ _ _ _ _ _ hp => hp.elim)
theorem xk_l (hr : vx_Run p l e R s m args below meth c s.heap [] cells slots mc ms (F0 m pc ls st0) rest (xq_l s.heap.size a) (xq X s.heap.size) (fun q => s.heap.size ≤ q)) (hA : ∀ q, s.heap.size ≤ q → A q) (hown : s.vm.findClass own = some m.cls) (pre : List ExceptionTableEntry) (x : ExceptionTableEntry) (suf : List ExceptionTableEntry) (hsplit : c.exceptionTable.toList = pre ++ x :: suf)
    (hpass : ∀ z ∈ pre, covers z pc = false ∨ (z.catchType ≠ 0 ∧ ∃ nm : String, (Cond.classLink own z.catchType nm).before args s = true ∧ va_Nc X nm s)) (hx : covers x pc = true) (h0 : x.catchType ≠ 0)
    (hlink : (Cond.classLink own x.catchType name).before args s = true) (hcast : (Cond.castable X name).before args s = true)
    (kk : ∀ (q9 : Nat) (H1 : Heap) (locs1 : List Loc), va_S A s.heap H1 locs1 → (∀ q : Nat, q < s.heap.size → H1[q]? = s.heap[q]?) → W p l e R s m args below meth c H1 locs1 (cells + mc) (slots + ms) Q (F0 m x.handlerPc ls [.ref q9])) : W p l e R s m args below meth c s.heap [] cells slots Q (F0 m pc ls st0) :=
  vx_calll hr (va_S.rf (A := A)) (fun q _ h => hA q h) (fun q h => hA q h) (fun q _ h => hA q h) (fun E ce q9 u t H1 locs1 _ _ _ hE hz hk hS h1 h2 h3 => by
    subst hE
    exact vx_catch hown pre x suf hsplit hpass hx h0 hlink hcast h1 h2 h3 (kk q9 H1 locs1 hS (fun q hq => hk q hq (by show ¬ s.heap.size ≤ q; omega)))) (fun _ _ _ _ _ _ _ hp => hp.elim)
end XK
set_option maxHeartbeats 4000000 in
set_option maxRecDepth 100000 in
theorem c_L_polynomialY (l : Launch) (dC : Nat → ClassId) (dI : Nat → Nat → Nat) (cI cL : ClassId) (sz : Nat) (s0 m0 c0 e0 q1 : Nat) (vr : Nat) (p0 n0 : Nat) (k1 k2 k3 k4 k5 : Nat) (cc gc oc : Nat) (p n : Nat) (hm : md p n) (x0 : Nat) (ou : Nat → Nat) : Met l y_L_polynomial w_L_polynomial ({ frames := 7, cells := 0, slots := 0, locals := 158 } : Room) (va_Pc [.ref s0, .long (lN p), .ref x0] (wq_W (dC, dI) classes [(s0, .inr (0, [.ref m0, .ref c0, .ref e0, .ref q1, .long (lN vr)])), (m0, .inr (1, [.long (lN p0), .int (nI n0), .long (lN (px_r p0 2))])), (c0, .inr (2, [.ref k1, .ref k2, .ref k3, .ref k4, .ref k5, .int (nI cc), .int (nI gc), .int (nI oc)])), (x0, .inl (cL, 1, .inr (.inl (fun c => lN (ou c)))))] [(cI, .int), (cL, .long)] sz)) (va_Qi (fun (r : Int32) (u : Unit) => r = nI 0) (fun (u : Unit) t => wq_B (dC, dI) classes [(cI, .int), (cL, .long)] (va_A [(s0, .inr (0, [.ref m0, .ref c0, .ref e0, .ref q1, .long (lN vr)])), (m0, .inr (1, [.long (lN p0), .int (nI n0), .long (lN (px_r p0 2))])), (c0, .inr (2, [.ref k1, .ref k2, .ref k3, .ref k4, .ref k5, .int (nI cc), .int (nI gc), .int (nI oc)])), (x0, .inl (cL, 1, .inr (.inl (fun c => lN (ou c)))))] sz) [(s0, .inr (0, [.ref m0, .ref c0, .ref e0, .ref q1, .long (lN 1)])), (m0, .inr (1, [.long (lN p), .int (nI n), .long (lN (px_r p 2))])), (c0, .inr (2, [.ref k1, .ref k2, .ref k3, .ref k4, .ref k5, .int (nI 0), .int (nI 0), .int (nI 0)])), (x0, .inl (cL, 1, .inr (.inl (fun c => lN ((va_up ou 0 n) c)))))] t) (va_A [(s0, .inr (0, [.ref m0, .ref c0, .ref e0, .ref q1, .long (lN vr)])), (m0, .inr (1, [.long (lN p0), .int (nI n0), .long (lN (px_r p0 2))])), (c0, .inr (2, [.ref k1, .ref k2, .ref k3, .ref k4, .ref k5, .int (nI cc), .int (nI gc), .int (nI oc)])), (x0, .inl (cL, 1, .inr (.inl (fun c => lN (ou c)))))] sz)) 0 0 (va_A [(s0, .inr (0, [.ref m0, .ref c0, .ref e0, .ref q1, .long (lN vr)])), (m0, .inr (1, [.long (lN p0), .int (nI n0), .long (lN (px_r p0 2))])), (c0, .inr (2, [.ref k1, .ref k2, .ref k3, .ref k4, .ref k5, .int (nI cc), .int (nI gc), .int (nI oc)])), (x0, .inl (cL, 1, .inr (.inl (fun c => lN (ou c)))))] sz) := by
  refine mt_ofWH (cc := b_L_polynomial) (maxL := 5) (ret := (Option.some Jvm.ClassFile.FieldType.int)) (hh := [((0 : Nat), (9 : Nat), (12 : Nat), (13 : Nat))]) (by decide) rfl ?_
  intro pg en st mm ar bw me co s₁ B hml htab hv
  obtain ⟨rfl, hsz, hP, hK, hD0, hN⟩ := hv
  have hx := B.exec
  have hb := B.bytes
  have hr := B.returns
  have hlocks := B.notSynchronized
  have hts0 := atoms_spec (ws := w_L_polynomial) B.pre
  have hts : ∀ w ∈ gw, w.before _ st = true := fun w h => hts0 w (List.mem_cons_of_mem _ h)
  have hown : st.vm.findClass R_L = some mm.cls := findClass_of_methodNamed B.named
  subst hsz
  have hD := hD0.self (sz := st.heap.size)
  generalize hAe : va_A [(s0, .inr (0, [.ref m0, .ref c0, .ref e0, .ref q1, .long (lN vr)])), (m0, .inr (1, [.long (lN p0), .int (nI n0), .long (lN (px_r p0 2))])), (c0, .inr (2, [.ref k1, .ref k2, .ref k3, .ref k4, .ref k5, .int (nI cc), .int (nI gc), .int (nI oc)])), (x0, .inl (cL, 1, .inr (.inl (fun c => lN (ou c)))))] st.heap.size = A at hD ⊢
  have hA : ∀ q : Nat, st.heap.size ≤ q → A q := fun q h => by rw [← hAe]; exact Or.inr h
  have hS : va_S A st.heap st.heap [] := va_S.rf
  have hl := lv_entry ([.ref s0, .long (lN p), .ref x0]) (n := 5) (Nat.le_of_ble_eq_true rfl)
  rw [lg_entry_eq]
  generalize (lg_sl ([.ref s0, .long (lN p), .ref x0]) ++ List.replicate (5 - (lg_sl ([.ref s0, .long (lN p), .ref x0])).length) Slot.unset).toArray = ls at hl ⊢
  have hl : lv_has ls 5 [(0, .ref s0), (1, .long (lN p)), (3, .ref x0)] := hl
  refine lv_aload_n hx hb d_L_polynomial_0 rfl (lv_at hl 2 rfl) ?_
  refine lv_iconst (v := nI 0) hx hb d_L_polynomial_1 (by decide) ?_
  refine lv_aload_n hx hb d_L_polynomial_2 rfl (lv_at hl 0 rfl) ?_
  refine lv_lload_n hx hb d_L_polynomial_3 rfl (lv_at hl 1 rfl) ?_
  refine wq_i (wr := [(x0, .inl (cL, 1, .inr (.inl (fun c => lN (ou c)))))]) (va_runV (As := [.long (lN p)]) (rest := [.int (nI 0), .ref x0]) ⟨hx, hb, hml, hown, hts⟩ (c_S_polynomial l dC dI cI cL st.heap.size s0 m0 c0 e0 q1 vr p0 n0 k1 k2 k3 k4 k5 cc gc oc p n hm) (cwV 1 hts (gi_V kw_207 kw_208 kw_209 kw_1 gi_S_polynomial) rfl rfl rfl ⟨rfl, by decide, by decide, by decide⟩ ⟨Nat.le_of_ble_eq_true rfl, Nat.le_of_ble_eq_true rfl⟩) (wq_preVW hP hD hK hN [0, 1, 2] rfl rfl (q0 := 0) (ci := 0) rfl rfl rfl) rfl rfl hl.1 rfl (lv_room (Nat.le_of_ble_eq_true rfl)) d_L_polynomial_4 ⟨Nat.le_of_ble_eq_true rfl, Nat.le_of_ble_eq_true rfl⟩) hP hD hS hA [0, 1, 2] [3] rfl rfl rfl (by decide) (fun r u H locs hq hP hD hS hz => ?_)
  have hP : va_P (dC, dI) classes [(x0, .inl (cL, 1, .inr (.inl (fun c => lN (ou c))))), (s0, .inr (0, [.ref m0, .ref c0, .ref e0, .ref q1, .long (lN 1)])), (m0, .inr (1, [.long (lN p), .int (nI n), .long (lN (px_r p 2))])), (c0, .inr (2, [.ref k1, .ref k2, .ref k3, .ref k4, .ref k5, .int (nI 0), .int (nI 0), .int (nI 0)]))] H := hP
  have hD : va_D A [(x0, .inl (cL, 1, .inr (.inl (fun c => lN (ou c))))), (s0, .inr (0, [.ref m0, .ref c0, .ref e0, .ref q1, .long (lN 1)])), (m0, .inr (1, [.long (lN p), .int (nI n), .long (lN (px_r p 2))])), (c0, .inr (2, [.ref k1, .ref k2, .ref k3, .ref k4, .ref k5, .int (nI 0), .int (nI 0), .int (nI 0)]))] := hD
  subst hq
  refine lv_i2l (v := lN n) hx hb d_L_polynomial_7 (nI_l (by have := hm.2.1; omega)) ?_
  refine va_last (D := (dC, dI)) (i := (nI 0)) (x := (lN n)) hx hb hK hP hD hS 0 1 rfl rfl (vp_in_nI (by decide) (by decide)) d_L_polynomial_8 (fun H locs hP hD hS => ?_)
  rw [nI_clamp (by decide), updL_lN] at hP hD
  have hP : va_P (dC, dI) classes [(x0, .inl (cL, 1, .inr (.inl (fun c => lN ((va_up ou 0 n) c))))), (s0, .inr (0, [.ref m0, .ref c0, .ref e0, .ref q1, .long (lN 1)])), (m0, .inr (1, [.long (lN p), .int (nI n), .long (lN (px_r p 2))])), (c0, .inr (2, [.ref k1, .ref k2, .ref k3, .ref k4, .ref k5, .int (nI 0), .int (nI 0), .int (nI 0)]))] H := hP
  have hD : va_D A [(x0, .inl (cL, 1, .inr (.inl (fun c => lN ((va_up ou 0 n) c))))), (s0, .inr (0, [.ref m0, .ref c0, .ref e0, .ref q1, .long (lN 1)])), (m0, .inr (1, [.long (lN p), .int (nI n), .long (lN (px_r p 2))])), (c0, .inr (2, [.ref k1, .ref k2, .ref k3, .ref k4, .ref k5, .int (nI 0), .int (nI 0), .int (nI 0)]))] := hD
  refine lv_goto (tgt := 16) hx hb d_L_polynomial_9 (by decide) ?_
  refine lv_iconst (v := nI 0) hx hb d_L_polynomial_16 (by decide) ?_
  have hP := hP.sub (ws' := [(s0, .inr (0, [.ref m0, .ref c0, .ref e0, .ref q1, .long (lN 1)])), (m0, .inr (1, [.long (lN p), .int (nI n), .long (lN (px_r p 2))])), (c0, .inr (2, [.ref k1, .ref k2, .ref k3, .ref k4, .ref k5, .int (nI 0), .int (nI 0), .int (nI 0)])), (x0, .inl (cL, 1, .inr (.inl (fun c => lN ((va_up ou 0 n) c)))))]) [1, 2, 3, 0] rfl
  have hD := hD.sub (ws' := [(s0, .inr (0, [.ref m0, .ref c0, .ref e0, .ref q1, .long (lN 1)])), (m0, .inr (1, [.long (lN p), .int (nI n), .long (lN (px_r p 2))])), (c0, .inr (2, [.ref k1, .ref k2, .ref k3, .ref k4, .ref k5, .int (nI 0), .int (nI 0), .int (nI 0)])), (x0, .inl (cL, 1, .inr (.inl (fun c => lN ((va_up ou 0 n) c)))))]) [1, 2, 3, 0] (by decide) rfl
  exact W.iret (v := nI 0) hx hb hr (fun t9 ht hW => ⟨⟨nI 0, (), rfl, rfl, by rw [ht]; exact hP, va_K.moved hW.alike hK, hD⟩, hS.F ht⟩) hS.2.2 d_L_polynomial_17
set_option maxHeartbeats 4000000 in
set_option maxRecDepth 100000 in
theorem c_L_timesY (l : Launch) (dC : Nat → ClassId) (dI : Nat → Nat → Nat) (cI cL : ClassId) (sz : Nat) (s0 m0 c0 e0 q1 : Nat) (vr : Nat) (p n : Nat) (hm : md p n) (a b : Nat) (ha : a < 2 ^ n) (hb2 : b < 2 ^ n) (x0 : Nat) (ou : Nat → Nat) : Met l y_L_times w_L_times ({ frames := 3, cells := 0, slots := 0, locals := 75 } : Room) (va_Pc [.ref s0, .long (lN a), .long (lN b), .ref x0] (wq_W (dC, dI) classes [(s0, .inr (0, [.ref m0, .ref c0, .ref e0, .ref q1, .long (lN vr)])), (m0, .inr (1, [.long (lN p), .int (nI n), .long (lN (px_r p 2))])), (x0, .inl (cL, 1, .inr (.inl (fun c => lN (ou c)))))] [(cI, .int), (cL, .long)] sz)) (va_Qi (fun (r : Int32) (u : Unit) => r = nI 0) (fun (u : Unit) t => wq_B (dC, dI) classes [(cI, .int), (cL, .long)] (va_A [(s0, .inr (0, [.ref m0, .ref c0, .ref e0, .ref q1, .long (lN vr)])), (m0, .inr (1, [.long (lN p), .int (nI n), .long (lN (px_r p 2))])), (x0, .inl (cL, 1, .inr (.inl (fun c => lN (ou c)))))] sz) [(s0, .inr (0, [.ref m0, .ref c0, .ref e0, .ref q1, .long (lN vr)])), (m0, .inr (1, [.long (lN p), .int (nI n), .long (lN (px_r p 2))])), (x0, .inl (cL, 1, .inr (.inl (fun c => lN ((va_up ou 0 (px_r p (px_m a b))) c)))))] t) (va_A [(s0, .inr (0, [.ref m0, .ref c0, .ref e0, .ref q1, .long (lN vr)])), (m0, .inr (1, [.long (lN p), .int (nI n), .long (lN (px_r p 2))])), (x0, .inl (cL, 1, .inr (.inl (fun c => lN (ou c)))))] sz)) 0 0 (va_A [(s0, .inr (0, [.ref m0, .ref c0, .ref e0, .ref q1, .long (lN vr)])), (m0, .inr (1, [.long (lN p), .int (nI n), .long (lN (px_r p 2))])), (x0, .inl (cL, 1, .inr (.inl (fun c => lN (ou c)))))] sz) := by
  refine mt_ofWH (cc := b_L_times) (maxL := 7) (ret := (Option.some Jvm.ClassFile.FieldType.int)) (hh := [((0 : Nat), (10 : Nat), (13 : Nat), (13 : Nat))]) (by decide) rfl ?_
  intro pg en st mm ar bw me co s₁ B hml htab hv
  obtain ⟨rfl, hsz, hP, hK, hD0, hN⟩ := hv
  have hx := B.exec
  have hb := B.bytes
  have hr := B.returns
  have hlocks := B.notSynchronized
  have hts0 := atoms_spec (ws := w_L_times) B.pre
  have hts : ∀ w ∈ gw, w.before _ st = true := fun w h => hts0 w (List.mem_cons_of_mem _ h)
  have hown : st.vm.findClass R_L = some mm.cls := findClass_of_methodNamed B.named
  subst hsz
  have hD := hD0.self (sz := st.heap.size)
  generalize hAe : va_A [(s0, .inr (0, [.ref m0, .ref c0, .ref e0, .ref q1, .long (lN vr)])), (m0, .inr (1, [.long (lN p), .int (nI n), .long (lN (px_r p 2))])), (x0, .inl (cL, 1, .inr (.inl (fun c => lN (ou c)))))] st.heap.size = A at hD ⊢
  have hA : ∀ q : Nat, st.heap.size ≤ q → A q := fun q h => by rw [← hAe]; exact Or.inr h
  have hS : va_S A st.heap st.heap [] := va_S.rf
  have hl := lv_entry ([.ref s0, .long (lN a), .long (lN b), .ref x0]) (n := 7) (Nat.le_of_ble_eq_true rfl)
  rw [lg_entry_eq]
  generalize (lg_sl ([.ref s0, .long (lN a), .long (lN b), .ref x0]) ++ List.replicate (7 - (lg_sl ([.ref s0, .long (lN a), .long (lN b), .ref x0])).length) Slot.unset).toArray = ls at hl ⊢
  have hl : lv_has ls 7 [(0, .ref s0), (1, .long (lN a)), (3, .long (lN b)), (5, .ref x0)] := hl
  refine lv_aload hx hb d_L_times_0 (lv_at hl 3 rfl) ?_
  refine lv_iconst (v := nI 0) hx hb d_L_times_2 (by decide) ?_
  refine lv_aload_n hx hb d_L_times_3 rfl (lv_at hl 0 rfl) ?_
  refine lv_lload_n hx hb d_L_times_4 rfl (lv_at hl 1 rfl) ?_
  refine lv_lload_n hx hb d_L_times_5 rfl (lv_at hl 2 rfl) ?_
  refine vp_callSl (va_Run.run (va_runV (As := [.long (lN a), .long (lN b)]) (rest := [.int (nI 0), .ref x0]) ⟨hx, hb, hml, hown, hts⟩ (c_S_times l dC dI cI cL s0 m0 c0 e0 q1 vr p n hm a b ha hb2) (cwV 2 hts (gi_V kw_293 kw_294 kw_295 kw_1 gi_S_times) rfl rfl rfl ⟨rfl, by decide, by decide, by decide⟩ ⟨Nat.le_of_ble_eq_true rfl, Nat.le_of_ble_eq_true rfl⟩) (wq_preVR hP hK hN [0, 1] rfl (q0 := 0) (ci := 0) rfl rfl rfl) rfl rfl hl.1 rfl (lv_room (Nat.le_of_ble_eq_true rfl)) d_L_times_6 ⟨Nat.le_of_ble_eq_true rfl, Nat.le_of_ble_eq_true rfl⟩)) (fun r hq => ?_)
  subst hq
  refine va_last (D := (dC, dI)) (i := (nI 0)) (x := (lN (px_r p (px_m a b)))) hx hb hK hP hD hS 2 1 rfl rfl (vp_in_nI (by decide) (by decide)) d_L_times_9 (fun H locs hP hD hS => ?_)
  rw [nI_clamp (by decide), updL_lN] at hP hD
  have hP : va_P (dC, dI) classes [(s0, .inr (0, [.ref m0, .ref c0, .ref e0, .ref q1, .long (lN vr)])), (m0, .inr (1, [.long (lN p), .int (nI n), .long (lN (px_r p 2))])), (x0, .inl (cL, 1, .inr (.inl (fun c => lN ((va_up ou 0 (px_r p (px_m a b))) c)))))] H := hP
  have hD : va_D A [(s0, .inr (0, [.ref m0, .ref c0, .ref e0, .ref q1, .long (lN vr)])), (m0, .inr (1, [.long (lN p), .int (nI n), .long (lN (px_r p 2))])), (x0, .inl (cL, 1, .inr (.inl (fun c => lN ((va_up ou 0 (px_r p (px_m a b))) c)))))] := hD
  refine lv_goto (tgt := 17) hx hb d_L_times_10 (by decide) ?_
  refine lv_iconst (v := nI 0) hx hb d_L_times_17 (by decide) ?_
  have hP := hP.sub (ws' := [(s0, .inr (0, [.ref m0, .ref c0, .ref e0, .ref q1, .long (lN vr)])), (m0, .inr (1, [.long (lN p), .int (nI n), .long (lN (px_r p 2))])), (x0, .inl (cL, 1, .inr (.inl (fun c => lN ((va_up ou 0 (px_r p (px_m a b))) c)))))]) [0, 1, 2] rfl
  have hD := hD.sub (ws' := [(s0, .inr (0, [.ref m0, .ref c0, .ref e0, .ref q1, .long (lN vr)])), (m0, .inr (1, [.long (lN p), .int (nI n), .long (lN (px_r p 2))])), (x0, .inl (cL, 1, .inr (.inl (fun c => lN ((va_up ou 0 (px_r p (px_m a b))) c)))))]) [0, 1, 2] (by decide) rfl
  exact W.iret (v := nI 0) hx hb hr (fun t9 ht hW => ⟨⟨nI 0, (), rfl, rfl, by rw [ht]; exact hP, va_K.moved hW.alike hK, hD⟩, hS.F ht⟩) hS.2.2 d_L_times_18
set_option maxHeartbeats 4000000 in
set_option maxRecDepth 100000 in
theorem c_L_powerY (l : Launch) (dC : Nat → ClassId) (dI : Nat → Nat → Nat) (cI cL : ClassId) (sz : Nat) (s0 m0 c0 e0 q1 : Nat) (vr : Nat) (p n : Nat) (hm : md p n) (a e : Nat) (ha : a < 2 ^ n) (he : e < 2 ^ 63) (x0 : Nat) (ou : Nat → Nat) : Met l y_L_power w_L_power ({ frames := 4, cells := 0, slots := 0, locals := 104 } : Room) (va_Pc [.ref s0, .long (lN a), .long (lN e), .ref x0] (wq_W (dC, dI) classes [(s0, .inr (0, [.ref m0, .ref c0, .ref e0, .ref q1, .long (lN vr)])), (m0, .inr (1, [.long (lN p), .int (nI n), .long (lN (px_r p 2))])), (x0, .inl (cL, 1, .inr (.inl (fun c => lN (ou c)))))] [(cI, .int), (cL, .long)] sz)) (va_Qi (fun (r : Int32) (u : Unit) => r = nI 0) (fun (u : Unit) t => wq_B (dC, dI) classes [(cI, .int), (cL, .long)] (va_A [(s0, .inr (0, [.ref m0, .ref c0, .ref e0, .ref q1, .long (lN vr)])), (m0, .inr (1, [.long (lN p), .int (nI n), .long (lN (px_r p 2))])), (x0, .inl (cL, 1, .inr (.inl (fun c => lN (ou c)))))] sz) [(s0, .inr (0, [.ref m0, .ref c0, .ref e0, .ref q1, .long (lN vr)])), (m0, .inr (1, [.long (lN p), .int (nI n), .long (lN (px_r p 2))])), (x0, .inl (cL, 1, .inr (.inl (fun c => lN ((va_up ou 0 (px_r p (px_pw a e))) c)))))] t) (va_A [(s0, .inr (0, [.ref m0, .ref c0, .ref e0, .ref q1, .long (lN vr)])), (m0, .inr (1, [.long (lN p), .int (nI n), .long (lN (px_r p 2))])), (x0, .inl (cL, 1, .inr (.inl (fun c => lN (ou c)))))] sz)) 0 0 (va_A [(s0, .inr (0, [.ref m0, .ref c0, .ref e0, .ref q1, .long (lN vr)])), (m0, .inr (1, [.long (lN p), .int (nI n), .long (lN (px_r p 2))])), (x0, .inl (cL, 1, .inr (.inl (fun c => lN (ou c)))))] sz) := by
  refine mt_ofWH (cc := b_L_power) (maxL := 7) (ret := (Option.some Jvm.ClassFile.FieldType.int)) (hh := [((0 : Nat), (10 : Nat), (13 : Nat), (13 : Nat))]) (by decide) rfl ?_
  intro pg en st mm ar bw me co s₁ B hml htab hv
  obtain ⟨rfl, hsz, hP, hK, hD0, hN⟩ := hv
  have hx := B.exec
  have hb := B.bytes
  have hr := B.returns
  have hlocks := B.notSynchronized
  have hts0 := atoms_spec (ws := w_L_power) B.pre
  have hts : ∀ w ∈ gw, w.before _ st = true := fun w h => hts0 w (List.mem_cons_of_mem _ h)
  have hown : st.vm.findClass R_L = some mm.cls := findClass_of_methodNamed B.named
  subst hsz
  have hD := hD0.self (sz := st.heap.size)
  generalize hAe : va_A [(s0, .inr (0, [.ref m0, .ref c0, .ref e0, .ref q1, .long (lN vr)])), (m0, .inr (1, [.long (lN p), .int (nI n), .long (lN (px_r p 2))])), (x0, .inl (cL, 1, .inr (.inl (fun c => lN (ou c)))))] st.heap.size = A at hD ⊢
  have hA : ∀ q : Nat, st.heap.size ≤ q → A q := fun q h => by rw [← hAe]; exact Or.inr h
  have hS : va_S A st.heap st.heap [] := va_S.rf
  have hl := lv_entry ([.ref s0, .long (lN a), .long (lN e), .ref x0]) (n := 7) (Nat.le_of_ble_eq_true rfl)
  rw [lg_entry_eq]
  generalize (lg_sl ([.ref s0, .long (lN a), .long (lN e), .ref x0]) ++ List.replicate (7 - (lg_sl ([.ref s0, .long (lN a), .long (lN e), .ref x0])).length) Slot.unset).toArray = ls at hl ⊢
  have hl : lv_has ls 7 [(0, .ref s0), (1, .long (lN a)), (3, .long (lN e)), (5, .ref x0)] := hl
  refine lv_aload hx hb d_L_power_0 (lv_at hl 3 rfl) ?_
  refine lv_iconst (v := nI 0) hx hb d_L_power_2 (by decide) ?_
  refine lv_aload_n hx hb d_L_power_3 rfl (lv_at hl 0 rfl) ?_
  refine lv_lload_n hx hb d_L_power_4 rfl (lv_at hl 1 rfl) ?_
  refine lv_lload_n hx hb d_L_power_5 rfl (lv_at hl 2 rfl) ?_
  refine vp_callSl (va_Run.run (va_runV (As := [.long (lN a), .long (lN e)]) (rest := [.int (nI 0), .ref x0]) ⟨hx, hb, hml, hown, hts⟩ (c_S_power l dC dI cI cL s0 m0 c0 e0 q1 vr p n hm a e ha he) (cwV 2 hts (gi_V kw_310 kw_311 kw_312 kw_1 gi_S_power) rfl rfl rfl ⟨rfl, by decide, by decide, by decide⟩ ⟨Nat.le_of_ble_eq_true rfl, Nat.le_of_ble_eq_true rfl⟩) (wq_preVR hP hK hN [0, 1] rfl (q0 := 0) (ci := 0) rfl rfl rfl) rfl rfl hl.1 rfl (lv_room (Nat.le_of_ble_eq_true rfl)) d_L_power_6 ⟨Nat.le_of_ble_eq_true rfl, Nat.le_of_ble_eq_true rfl⟩)) (fun r hq => ?_)
  subst hq
  refine va_last (D := (dC, dI)) (i := (nI 0)) (x := (lN (px_r p (px_pw a e)))) hx hb hK hP hD hS 2 1 rfl rfl (vp_in_nI (by decide) (by decide)) d_L_power_9 (fun H locs hP hD hS => ?_)
  rw [nI_clamp (by decide), updL_lN] at hP hD
  have hP : va_P (dC, dI) classes [(s0, .inr (0, [.ref m0, .ref c0, .ref e0, .ref q1, .long (lN vr)])), (m0, .inr (1, [.long (lN p), .int (nI n), .long (lN (px_r p 2))])), (x0, .inl (cL, 1, .inr (.inl (fun c => lN ((va_up ou 0 (px_r p (px_pw a e))) c)))))] H := hP
  have hD : va_D A [(s0, .inr (0, [.ref m0, .ref c0, .ref e0, .ref q1, .long (lN vr)])), (m0, .inr (1, [.long (lN p), .int (nI n), .long (lN (px_r p 2))])), (x0, .inl (cL, 1, .inr (.inl (fun c => lN ((va_up ou 0 (px_r p (px_pw a e))) c)))))] := hD
  refine lv_goto (tgt := 17) hx hb d_L_power_10 (by decide) ?_
  refine lv_iconst (v := nI 0) hx hb d_L_power_17 (by decide) ?_
  have hP := hP.sub (ws' := [(s0, .inr (0, [.ref m0, .ref c0, .ref e0, .ref q1, .long (lN vr)])), (m0, .inr (1, [.long (lN p), .int (nI n), .long (lN (px_r p 2))])), (x0, .inl (cL, 1, .inr (.inl (fun c => lN ((va_up ou 0 (px_r p (px_pw a e))) c)))))]) [0, 1, 2] rfl
  have hD := hD.sub (ws' := [(s0, .inr (0, [.ref m0, .ref c0, .ref e0, .ref q1, .long (lN vr)])), (m0, .inr (1, [.long (lN p), .int (nI n), .long (lN (px_r p 2))])), (x0, .inl (cL, 1, .inr (.inl (fun c => lN ((va_up ou 0 (px_r p (px_pw a e))) c)))))]) [0, 1, 2] (by decide) rfl
  exact W.iret (v := nI 0) hx hb hr (fun t9 ht hW => ⟨⟨nI 0, (), rfl, rfl, by rw [ht]; exact hP, va_K.moved hW.alike hK, hD⟩, hS.F ht⟩) hS.2.2 d_L_power_18
set_option maxHeartbeats 4000000 in
set_option maxRecDepth 100000 in
theorem c_L_loadY (l : Launch) (dC : Nat → ClassId) (dI : Nat → Nat → Nat) (cI cL : ClassId) (sz : Nat) (s0 m0 c0 e0 q1 : Nat) (vr : Nat) (p n : Nat) (hm : md p n) (a : Nat) (ha : a < 2 ^ n) (x0 : Nat) (ou : Nat → Nat) : Met l y_L_load w_L_load ({ frames := 3, cells := 0, slots := 0, locals := 68 } : Room) (va_Pc [.ref s0, .long (lN a), .ref x0] (wq_W (dC, dI) classes [(s0, .inr (0, [.ref m0, .ref c0, .ref e0, .ref q1, .long (lN vr)])), (m0, .inr (1, [.long (lN p), .int (nI n), .long (lN (px_r p 2))])), (x0, .inl (cL, 1, .inr (.inl (fun c => lN (ou c)))))] [(cI, .int), (cL, .long)] sz)) (va_Qi (fun (r : Int32) (u : Unit) => r = nI 0) (fun (u : Unit) t => wq_B (dC, dI) classes [(cI, .int), (cL, .long)] (va_A [(s0, .inr (0, [.ref m0, .ref c0, .ref e0, .ref q1, .long (lN vr)])), (m0, .inr (1, [.long (lN p), .int (nI n), .long (lN (px_r p 2))])), (x0, .inl (cL, 1, .inr (.inl (fun c => lN (ou c)))))] sz) [(s0, .inr (0, [.ref m0, .ref c0, .ref e0, .ref q1, .long (lN a)])), (m0, .inr (1, [.long (lN p), .int (nI n), .long (lN (px_r p 2))])), (x0, .inl (cL, 1, .inr (.inl (fun c => lN ((va_up ou 0 vr) c)))))] t) (va_A [(s0, .inr (0, [.ref m0, .ref c0, .ref e0, .ref q1, .long (lN vr)])), (m0, .inr (1, [.long (lN p), .int (nI n), .long (lN (px_r p 2))])), (x0, .inl (cL, 1, .inr (.inl (fun c => lN (ou c)))))] sz)) 0 0 (va_A [(s0, .inr (0, [.ref m0, .ref c0, .ref e0, .ref q1, .long (lN vr)])), (m0, .inr (1, [.long (lN p), .int (nI n), .long (lN (px_r p 2))])), (x0, .inl (cL, 1, .inr (.inl (fun c => lN (ou c)))))] sz) := by
  refine mt_ofWH (cc := b_L_load) (maxL := 5) (ret := (Option.some Jvm.ClassFile.FieldType.int)) (hh := [((0 : Nat), (8 : Nat), (11 : Nat), (13 : Nat))]) (by decide) rfl ?_
  intro pg en st mm ar bw me co s₁ B hml htab hv
  obtain ⟨rfl, hsz, hP, hK, hD0, hN⟩ := hv
  have hx := B.exec
  have hb := B.bytes
  have hr := B.returns
  have hlocks := B.notSynchronized
  have hts0 := atoms_spec (ws := w_L_load) B.pre
  have hts : ∀ w ∈ gw, w.before _ st = true := fun w h => hts0 w (List.mem_cons_of_mem _ h)
  have hown : st.vm.findClass R_L = some mm.cls := findClass_of_methodNamed B.named
  subst hsz
  have hD := hD0.self (sz := st.heap.size)
  generalize hAe : va_A [(s0, .inr (0, [.ref m0, .ref c0, .ref e0, .ref q1, .long (lN vr)])), (m0, .inr (1, [.long (lN p), .int (nI n), .long (lN (px_r p 2))])), (x0, .inl (cL, 1, .inr (.inl (fun c => lN (ou c)))))] st.heap.size = A at hD ⊢
  have hA : ∀ q : Nat, st.heap.size ≤ q → A q := fun q h => by rw [← hAe]; exact Or.inr h
  have hS : va_S A st.heap st.heap [] := va_S.rf
  have hl := lv_entry ([.ref s0, .long (lN a), .ref x0]) (n := 5) (Nat.le_of_ble_eq_true rfl)
  rw [lg_entry_eq]
  generalize (lg_sl ([.ref s0, .long (lN a), .ref x0]) ++ List.replicate (5 - (lg_sl ([.ref s0, .long (lN a), .ref x0])).length) Slot.unset).toArray = ls at hl ⊢
  have hl : lv_has ls 5 [(0, .ref s0), (1, .long (lN a)), (3, .ref x0)] := hl
  refine lv_aload_n hx hb d_L_load_0 rfl (lv_at hl 2 rfl) ?_
  refine lv_iconst (v := nI 0) hx hb d_L_load_1 (by decide) ?_
  refine lv_aload_n hx hb d_L_load_2 rfl (lv_at hl 0 rfl) ?_
  refine lv_lload_n hx hb d_L_load_3 rfl (lv_at hl 1 rfl) ?_
  refine wq_l (wr := [(x0, .inl (cL, 1, .inr (.inl (fun c => lN (ou c)))))]) (va_runV (As := [.long (lN a)]) (rest := [.int (nI 0), .ref x0]) ⟨hx, hb, hml, hown, hts⟩ (c_S_load l dC dI cI cL st.heap.size s0 m0 c0 e0 q1 vr p n hm a ha) (cwV 1 hts (gi_V kw_323 kw_324 kw_325 kw_1 gi_S_load) rfl rfl rfl ⟨rfl, by decide, by decide, by decide⟩ ⟨Nat.le_of_ble_eq_true rfl, Nat.le_of_ble_eq_true rfl⟩) (wq_preVW hP hD hK hN [0, 1] rfl rfl (q0 := 0) (ci := 0) rfl rfl rfl) rfl rfl hl.1 rfl (lv_room (Nat.le_of_ble_eq_true rfl)) d_L_load_4 ⟨Nat.le_of_ble_eq_true rfl, Nat.le_of_ble_eq_true rfl⟩) hP hD hS hA [0, 1] [2] rfl rfl rfl (by decide) (fun r u H locs hq hP hD hS hz => ?_)
  have hP : va_P (dC, dI) classes [(x0, .inl (cL, 1, .inr (.inl (fun c => lN (ou c))))), (s0, .inr (0, [.ref m0, .ref c0, .ref e0, .ref q1, .long (lN a)])), (m0, .inr (1, [.long (lN p), .int (nI n), .long (lN (px_r p 2))]))] H := hP
  have hD : va_D A [(x0, .inl (cL, 1, .inr (.inl (fun c => lN (ou c))))), (s0, .inr (0, [.ref m0, .ref c0, .ref e0, .ref q1, .long (lN a)])), (m0, .inr (1, [.long (lN p), .int (nI n), .long (lN (px_r p 2))]))] := hD
  subst hq
  refine va_last (D := (dC, dI)) (i := (nI 0)) (x := (lN vr)) hx hb hK hP hD hS 0 1 rfl rfl (vp_in_nI (by decide) (by decide)) d_L_load_7 (fun H locs hP hD hS => ?_)
  rw [nI_clamp (by decide), updL_lN] at hP hD
  have hP : va_P (dC, dI) classes [(x0, .inl (cL, 1, .inr (.inl (fun c => lN ((va_up ou 0 vr) c))))), (s0, .inr (0, [.ref m0, .ref c0, .ref e0, .ref q1, .long (lN a)])), (m0, .inr (1, [.long (lN p), .int (nI n), .long (lN (px_r p 2))]))] H := hP
  have hD : va_D A [(x0, .inl (cL, 1, .inr (.inl (fun c => lN ((va_up ou 0 vr) c))))), (s0, .inr (0, [.ref m0, .ref c0, .ref e0, .ref q1, .long (lN a)])), (m0, .inr (1, [.long (lN p), .int (nI n), .long (lN (px_r p 2))]))] := hD
  refine lv_goto (tgt := 15) hx hb d_L_load_8 (by decide) ?_
  refine lv_iconst (v := nI 0) hx hb d_L_load_15 (by decide) ?_
  have hP := hP.sub (ws' := [(s0, .inr (0, [.ref m0, .ref c0, .ref e0, .ref q1, .long (lN a)])), (m0, .inr (1, [.long (lN p), .int (nI n), .long (lN (px_r p 2))])), (x0, .inl (cL, 1, .inr (.inl (fun c => lN ((va_up ou 0 vr) c)))))]) [1, 2, 0] rfl
  have hD := hD.sub (ws' := [(s0, .inr (0, [.ref m0, .ref c0, .ref e0, .ref q1, .long (lN a)])), (m0, .inr (1, [.long (lN p), .int (nI n), .long (lN (px_r p 2))])), (x0, .inl (cL, 1, .inr (.inl (fun c => lN ((va_up ou 0 vr) c)))))]) [1, 2, 0] (by decide) rfl
  exact W.iret (v := nI 0) hx hb hr (fun t9 ht hW => ⟨⟨nI 0, (), rfl, rfl, by rw [ht]; exact hP, va_K.moved hW.alike hK, hD⟩, hS.F ht⟩) hS.2.2 d_L_load_16
set_option maxHeartbeats 4000000 in
set_option maxRecDepth 100000 in
theorem c_L_stepsY (l : Launch) (dC : Nat → ClassId) (dI : Nat → Nat → Nat) (cI cL : ClassId) (sz : Nat) (s0 m0 c0 e0 q1 : Nat) (vr : Nat) (p n : Nat) (hm : md p n) (e : Nat) (he : e < 2 ^ 63) (hvr : vr < 2 ^ n) (x0 : Nat) (ou : Nat → Nat) : Met l y_L_steps w_L_steps ({ frames := 4, cells := 0, slots := 0, locals := 102 } : Room) (va_Pc [.ref s0, .long (lN e), .ref x0] (wq_W (dC, dI) classes [(s0, .inr (0, [.ref m0, .ref c0, .ref e0, .ref q1, .long (lN vr)])), (m0, .inr (1, [.long (lN p), .int (nI n), .long (lN (px_r p 2))])), (x0, .inl (cL, 1, .inr (.inl (fun c => lN (ou c)))))] [(cI, .int), (cL, .long)] sz)) (va_Qi (fun (r : Int32) (u : Unit) => r = nI 0) (fun (u : Unit) t => wq_B (dC, dI) classes [(cI, .int), (cL, .long)] (va_A [(s0, .inr (0, [.ref m0, .ref c0, .ref e0, .ref q1, .long (lN vr)])), (m0, .inr (1, [.long (lN p), .int (nI n), .long (lN (px_r p 2))])), (x0, .inl (cL, 1, .inr (.inl (fun c => lN (ou c)))))] sz) [(s0, .inr (0, [.ref m0, .ref c0, .ref e0, .ref q1, .long (lN (px_r p (px_m vr (px_r p (px_pw (px_r p 2) e)))))])), (m0, .inr (1, [.long (lN p), .int (nI n), .long (lN (px_r p 2))])), (x0, .inl (cL, 1, .inr (.inl (fun c => lN ((va_up ou 0 (px_r p (px_m vr (px_r p (px_pw (px_r p 2) e))))) c)))))] t) (va_A [(s0, .inr (0, [.ref m0, .ref c0, .ref e0, .ref q1, .long (lN vr)])), (m0, .inr (1, [.long (lN p), .int (nI n), .long (lN (px_r p 2))])), (x0, .inl (cL, 1, .inr (.inl (fun c => lN (ou c)))))] sz)) 0 0 (va_A [(s0, .inr (0, [.ref m0, .ref c0, .ref e0, .ref q1, .long (lN vr)])), (m0, .inr (1, [.long (lN p), .int (nI n), .long (lN (px_r p 2))])), (x0, .inl (cL, 1, .inr (.inl (fun c => lN (ou c)))))] sz) := by
  refine mt_ofWH (cc := b_L_steps) (maxL := 5) (ret := (Option.some Jvm.ClassFile.FieldType.int)) (hh := [((0 : Nat), (8 : Nat), (11 : Nat), (13 : Nat))]) (by decide) rfl ?_
  intro pg en st mm ar bw me co s₁ B hml htab hv
  obtain ⟨rfl, hsz, hP, hK, hD0, hN⟩ := hv
  have hx := B.exec
  have hb := B.bytes
  have hr := B.returns
  have hlocks := B.notSynchronized
  have hts0 := atoms_spec (ws := w_L_steps) B.pre
  have hts : ∀ w ∈ gw, w.before _ st = true := fun w h => hts0 w (List.mem_cons_of_mem _ h)
  have hown : st.vm.findClass R_L = some mm.cls := findClass_of_methodNamed B.named
  subst hsz
  have hD := hD0.self (sz := st.heap.size)
  generalize hAe : va_A [(s0, .inr (0, [.ref m0, .ref c0, .ref e0, .ref q1, .long (lN vr)])), (m0, .inr (1, [.long (lN p), .int (nI n), .long (lN (px_r p 2))])), (x0, .inl (cL, 1, .inr (.inl (fun c => lN (ou c)))))] st.heap.size = A at hD ⊢
  have hA : ∀ q : Nat, st.heap.size ≤ q → A q := fun q h => by rw [← hAe]; exact Or.inr h
  have hS : va_S A st.heap st.heap [] := va_S.rf
  have hl := lv_entry ([.ref s0, .long (lN e), .ref x0]) (n := 5) (Nat.le_of_ble_eq_true rfl)
  rw [lg_entry_eq]
  generalize (lg_sl ([.ref s0, .long (lN e), .ref x0]) ++ List.replicate (5 - (lg_sl ([.ref s0, .long (lN e), .ref x0])).length) Slot.unset).toArray = ls at hl ⊢
  have hl : lv_has ls 5 [(0, .ref s0), (1, .long (lN e)), (3, .ref x0)] := hl
  refine lv_aload_n hx hb d_L_steps_0 rfl (lv_at hl 2 rfl) ?_
  refine lv_iconst (v := nI 0) hx hb d_L_steps_1 (by decide) ?_
  refine lv_aload_n hx hb d_L_steps_2 rfl (lv_at hl 0 rfl) ?_
  refine lv_lload_n hx hb d_L_steps_3 rfl (lv_at hl 1 rfl) ?_
  refine wq_l (wr := [(x0, .inl (cL, 1, .inr (.inl (fun c => lN (ou c)))))]) (va_runV (As := [.long (lN e)]) (rest := [.int (nI 0), .ref x0]) ⟨hx, hb, hml, hown, hts⟩ (c_S_steps l dC dI cI cL st.heap.size s0 m0 c0 e0 q1 vr p n hm e he hvr) (cwV 1 hts (gi_V kw_330 kw_331 kw_332 kw_1 gi_S_steps) rfl rfl rfl ⟨rfl, by decide, by decide, by decide⟩ ⟨Nat.le_of_ble_eq_true rfl, Nat.le_of_ble_eq_true rfl⟩) (wq_preVW hP hD hK hN [0, 1] rfl rfl (q0 := 0) (ci := 0) rfl rfl rfl) rfl rfl hl.1 rfl (lv_room (Nat.le_of_ble_eq_true rfl)) d_L_steps_4 ⟨Nat.le_of_ble_eq_true rfl, Nat.le_of_ble_eq_true rfl⟩) hP hD hS hA [0, 1] [2] rfl rfl rfl (by decide) (fun r u H locs hq hP hD hS hz => ?_)
  have hP : va_P (dC, dI) classes [(x0, .inl (cL, 1, .inr (.inl (fun c => lN (ou c))))), (s0, .inr (0, [.ref m0, .ref c0, .ref e0, .ref q1, .long (lN (px_r p (px_m vr (px_r p (px_pw (px_r p 2) e)))))])), (m0, .inr (1, [.long (lN p), .int (nI n), .long (lN (px_r p 2))]))] H := hP
  have hD : va_D A [(x0, .inl (cL, 1, .inr (.inl (fun c => lN (ou c))))), (s0, .inr (0, [.ref m0, .ref c0, .ref e0, .ref q1, .long (lN (px_r p (px_m vr (px_r p (px_pw (px_r p 2) e)))))])), (m0, .inr (1, [.long (lN p), .int (nI n), .long (lN (px_r p 2))]))] := hD
  subst hq
  refine va_last (D := (dC, dI)) (i := (nI 0)) (x := (lN (px_r p (px_m vr (px_r p (px_pw (px_r p 2) e)))))) hx hb hK hP hD hS 0 1 rfl rfl (vp_in_nI (by decide) (by decide)) d_L_steps_7 (fun H locs hP hD hS => ?_)
  rw [nI_clamp (by decide), updL_lN] at hP hD
  have hP : va_P (dC, dI) classes [(x0, .inl (cL, 1, .inr (.inl (fun c => lN ((va_up ou 0 (px_r p (px_m vr (px_r p (px_pw (px_r p 2) e))))) c))))), (s0, .inr (0, [.ref m0, .ref c0, .ref e0, .ref q1, .long (lN (px_r p (px_m vr (px_r p (px_pw (px_r p 2) e)))))])), (m0, .inr (1, [.long (lN p), .int (nI n), .long (lN (px_r p 2))]))] H := hP
  have hD : va_D A [(x0, .inl (cL, 1, .inr (.inl (fun c => lN ((va_up ou 0 (px_r p (px_m vr (px_r p (px_pw (px_r p 2) e))))) c))))), (s0, .inr (0, [.ref m0, .ref c0, .ref e0, .ref q1, .long (lN (px_r p (px_m vr (px_r p (px_pw (px_r p 2) e)))))])), (m0, .inr (1, [.long (lN p), .int (nI n), .long (lN (px_r p 2))]))] := hD
  refine lv_goto (tgt := 15) hx hb d_L_steps_8 (by decide) ?_
  refine lv_iconst (v := nI 0) hx hb d_L_steps_15 (by decide) ?_
  have hP := hP.sub (ws' := [(s0, .inr (0, [.ref m0, .ref c0, .ref e0, .ref q1, .long (lN (px_r p (px_m vr (px_r p (px_pw (px_r p 2) e)))))])), (m0, .inr (1, [.long (lN p), .int (nI n), .long (lN (px_r p 2))])), (x0, .inl (cL, 1, .inr (.inl (fun c => lN ((va_up ou 0 (px_r p (px_m vr (px_r p (px_pw (px_r p 2) e))))) c)))))]) [1, 2, 0] rfl
  have hD := hD.sub (ws' := [(s0, .inr (0, [.ref m0, .ref c0, .ref e0, .ref q1, .long (lN (px_r p (px_m vr (px_r p (px_pw (px_r p 2) e)))))])), (m0, .inr (1, [.long (lN p), .int (nI n), .long (lN (px_r p 2))])), (x0, .inl (cL, 1, .inr (.inl (fun c => lN ((va_up ou 0 (px_r p (px_m vr (px_r p (px_pw (px_r p 2) e))))) c)))))]) [1, 2, 0] (by decide) rfl
  exact W.iret (v := nI 0) hx hb hr (fun t9 ht hW => ⟨⟨nI 0, (), rfl, rfl, by rw [ht]; exact hP, va_K.moved hW.alike hK, hD⟩, hS.F ht⟩) hS.2.2 d_L_steps_16
set_option maxHeartbeats 4000000 in
set_option maxRecDepth 100000 in
theorem c_L_channelY (l : Launch) (dC : Nat → ClassId) (dI : Nat → Nat → Nat) (cI cL : ClassId) (sz : Nat) (s0 m0 c0 e0 q1 : Nat) (vr : Nat) (p n : Nat) (hm : md p n) (k1 k2 k3 k4 k5 : Nat) (cc gc oc : Nat) (mk : Nat → Nat) (a : Nat) (ha : a < 2 ^ n) (hcc : cc < 8) (x0 : Nat) (ou : Nat → Nat) : Met l y_L_channel w_L_channel ({ frames := 3, cells := 0, slots := 0, locals := 67 } : Room) (va_Pc [.ref s0, .long (lN a), .ref x0] (wq_W (dC, dI) classes [(s0, .inr (0, [.ref m0, .ref c0, .ref e0, .ref q1, .long (lN vr)])), (m0, .inr (1, [.long (lN p), .int (nI n), .long (lN (px_r p 2))])), (c0, .inr (2, [.ref k1, .ref k2, .ref k3, .ref k4, .ref k5, .int (nI cc), .int (nI gc), .int (nI oc)])), (q1, .inl (cL, 8, .inr (.inl (fun c => lN (mk c))))), (x0, .inl (cL, 1, .inr (.inl (fun c => lN (ou c)))))] [(cI, .int), (cL, .long)] sz)) (va_Qi (fun (r : Int32) (u : Unit) => r = nI 0) (fun (u : Unit) t => wq_B (dC, dI) classes [(cI, .int), (cL, .long)] (va_A [(s0, .inr (0, [.ref m0, .ref c0, .ref e0, .ref q1, .long (lN vr)])), (m0, .inr (1, [.long (lN p), .int (nI n), .long (lN (px_r p 2))])), (c0, .inr (2, [.ref k1, .ref k2, .ref k3, .ref k4, .ref k5, .int (nI cc), .int (nI gc), .int (nI oc)])), (q1, .inl (cL, 8, .inr (.inl (fun c => lN (mk c))))), (x0, .inl (cL, 1, .inr (.inl (fun c => lN (ou c)))))] sz) [(s0, .inr (0, [.ref m0, .ref c0, .ref e0, .ref q1, .long (lN vr)])), (m0, .inr (1, [.long (lN p), .int (nI n), .long (lN (px_r p 2))])), (c0, .inr (2, [.ref k1, .ref k2, .ref k3, .ref k4, .ref k5, .int (nI (cc + 1)), .int (nI 0), .int (nI 0)])), (q1, .inl (cL, 8, .inr (.inl (fun c => lN ((va_up mk cc a) c))))), (x0, .inl (cL, 1, .inr (.inl (fun c => lN ((va_up ou 0 cc) c)))))] t) (va_A [(s0, .inr (0, [.ref m0, .ref c0, .ref e0, .ref q1, .long (lN vr)])), (m0, .inr (1, [.long (lN p), .int (nI n), .long (lN (px_r p 2))])), (c0, .inr (2, [.ref k1, .ref k2, .ref k3, .ref k4, .ref k5, .int (nI cc), .int (nI gc), .int (nI oc)])), (q1, .inl (cL, 8, .inr (.inl (fun c => lN (mk c))))), (x0, .inl (cL, 1, .inr (.inl (fun c => lN (ou c)))))] sz)) 0 0 (va_A [(s0, .inr (0, [.ref m0, .ref c0, .ref e0, .ref q1, .long (lN vr)])), (m0, .inr (1, [.long (lN p), .int (nI n), .long (lN (px_r p 2))])), (c0, .inr (2, [.ref k1, .ref k2, .ref k3, .ref k4, .ref k5, .int (nI cc), .int (nI gc), .int (nI oc)])), (q1, .inl (cL, 8, .inr (.inl (fun c => lN (mk c))))), (x0, .inl (cL, 1, .inr (.inl (fun c => lN (ou c)))))] sz) := by
  refine mt_ofWH (cc := b_L_channel) (maxL := 5) (ret := (Option.some Jvm.ClassFile.FieldType.int)) (hh := [((0 : Nat), (9 : Nat), (12 : Nat), (13 : Nat)), ((0 : Nat), (9 : Nat), (16 : Nat), (32 : Nat))]) (by decide) rfl ?_
  intro pg en st mm ar bw me co s₁ B hml htab hv
  obtain ⟨rfl, hsz, hP, hK, hD0, hN⟩ := hv
  have hx := B.exec
  have hb := B.bytes
  have hr := B.returns
  have hlocks := B.notSynchronized
  have hts0 := atoms_spec (ws := w_L_channel) B.pre
  have hts : ∀ w ∈ gw, w.before _ st = true := fun w h => hts0 w (List.mem_cons_of_mem _ h)
  have hown : st.vm.findClass R_L = some mm.cls := findClass_of_methodNamed B.named
  subst hsz
  have hD := hD0.self (sz := st.heap.size)
  generalize hAe : va_A [(s0, .inr (0, [.ref m0, .ref c0, .ref e0, .ref q1, .long (lN vr)])), (m0, .inr (1, [.long (lN p), .int (nI n), .long (lN (px_r p 2))])), (c0, .inr (2, [.ref k1, .ref k2, .ref k3, .ref k4, .ref k5, .int (nI cc), .int (nI gc), .int (nI oc)])), (q1, .inl (cL, 8, .inr (.inl (fun c => lN (mk c))))), (x0, .inl (cL, 1, .inr (.inl (fun c => lN (ou c)))))] st.heap.size = A at hD ⊢
  have hA : ∀ q : Nat, st.heap.size ≤ q → A q := fun q h => by rw [← hAe]; exact Or.inr h
  have hS : va_S A st.heap st.heap [] := va_S.rf
  have hl := lv_entry ([.ref s0, .long (lN a), .ref x0]) (n := 5) (Nat.le_of_ble_eq_true rfl)
  rw [lg_entry_eq]
  generalize (lg_sl ([.ref s0, .long (lN a), .ref x0]) ++ List.replicate (5 - (lg_sl ([.ref s0, .long (lN a), .ref x0])).length) Slot.unset).toArray = ls at hl ⊢
  have hl : lv_has ls 5 [(0, .ref s0), (1, .long (lN a)), (3, .ref x0)] := hl
  refine lv_aload_n hx hb d_L_channel_0 rfl (lv_at hl 2 rfl) ?_
  refine lv_iconst (v := nI 0) hx hb d_L_channel_1 (by decide) ?_
  refine lv_aload_n hx hb d_L_channel_2 rfl (lv_at hl 0 rfl) ?_
  refine lv_lload_n hx hb d_L_channel_3 rfl (lv_at hl 1 rfl) ?_
  refine wq_i (wr := [(x0, .inl (cL, 1, .inr (.inl (fun c => lN (ou c)))))]) (va_runV (As := [.long (lN a)]) (rest := [.int (nI 0), .ref x0]) ⟨hx, hb, hml, hown, hts⟩ (c_S_channel l dC dI cI cL st.heap.size s0 m0 c0 e0 q1 vr p n hm k1 k2 k3 k4 k5 cc gc oc mk a ha hcc) (cwV 1 hts (gi_V kw_338 kw_339 kw_340 kw_1 gi_S_channel) rfl rfl rfl ⟨rfl, by decide, by decide, by decide⟩ ⟨Nat.le_of_ble_eq_true rfl, Nat.le_of_ble_eq_true rfl⟩) (wq_preVW hP hD hK hN [0, 1, 2, 3] rfl rfl (q0 := 0) (ci := 0) rfl rfl rfl) rfl rfl hl.1 rfl (lv_room (Nat.le_of_ble_eq_true rfl)) d_L_channel_4 ⟨Nat.le_of_ble_eq_true rfl, Nat.le_of_ble_eq_true rfl⟩) hP hD hS hA [0, 1, 2, 3] [4] rfl rfl rfl (by decide) (fun r u H locs hq hP hD hS hz => ?_)
  have hP : va_P (dC, dI) classes [(x0, .inl (cL, 1, .inr (.inl (fun c => lN (ou c))))), (s0, .inr (0, [.ref m0, .ref c0, .ref e0, .ref q1, .long (lN vr)])), (m0, .inr (1, [.long (lN p), .int (nI n), .long (lN (px_r p 2))])), (c0, .inr (2, [.ref k1, .ref k2, .ref k3, .ref k4, .ref k5, .int (nI (cc + 1)), .int (nI 0), .int (nI 0)])), (q1, .inl (cL, 8, .inr (.inl (fun c => lN ((va_up mk cc a) c)))))] H := hP
  have hD : va_D A [(x0, .inl (cL, 1, .inr (.inl (fun c => lN (ou c))))), (s0, .inr (0, [.ref m0, .ref c0, .ref e0, .ref q1, .long (lN vr)])), (m0, .inr (1, [.long (lN p), .int (nI n), .long (lN (px_r p 2))])), (c0, .inr (2, [.ref k1, .ref k2, .ref k3, .ref k4, .ref k5, .int (nI (cc + 1)), .int (nI 0), .int (nI 0)])), (q1, .inl (cL, 8, .inr (.inl (fun c => lN ((va_up mk cc a) c)))))] := hD
  subst hq
  refine lv_i2l (v := lN cc) hx hb d_L_channel_7 (nI_l (by omega)) ?_
  refine va_last (D := (dC, dI)) (i := (nI 0)) (x := (lN cc)) hx hb hK hP hD hS 0 1 rfl rfl (vp_in_nI (by decide) (by decide)) d_L_channel_8 (fun H locs hP hD hS => ?_)
  rw [nI_clamp (by decide), updL_lN] at hP hD
  have hP : va_P (dC, dI) classes [(x0, .inl (cL, 1, .inr (.inl (fun c => lN ((va_up ou 0 cc) c))))), (s0, .inr (0, [.ref m0, .ref c0, .ref e0, .ref q1, .long (lN vr)])), (m0, .inr (1, [.long (lN p), .int (nI n), .long (lN (px_r p 2))])), (c0, .inr (2, [.ref k1, .ref k2, .ref k3, .ref k4, .ref k5, .int (nI (cc + 1)), .int (nI 0), .int (nI 0)])), (q1, .inl (cL, 8, .inr (.inl (fun c => lN ((va_up mk cc a) c)))))] H := hP
  have hD : va_D A [(x0, .inl (cL, 1, .inr (.inl (fun c => lN ((va_up ou 0 cc) c))))), (s0, .inr (0, [.ref m0, .ref c0, .ref e0, .ref q1, .long (lN vr)])), (m0, .inr (1, [.long (lN p), .int (nI n), .long (lN (px_r p 2))])), (c0, .inr (2, [.ref k1, .ref k2, .ref k3, .ref k4, .ref k5, .int (nI (cc + 1)), .int (nI 0), .int (nI 0)])), (q1, .inl (cL, 8, .inr (.inl (fun c => lN ((va_up mk cc a) c)))))] := hD
  refine lv_goto (tgt := 20) hx hb d_L_channel_9 (by decide) ?_
  refine lv_iconst (v := nI 0) hx hb d_L_channel_20 (by decide) ?_
  have hP := hP.sub (ws' := [(s0, .inr (0, [.ref m0, .ref c0, .ref e0, .ref q1, .long (lN vr)])), (m0, .inr (1, [.long (lN p), .int (nI n), .long (lN (px_r p 2))])), (c0, .inr (2, [.ref k1, .ref k2, .ref k3, .ref k4, .ref k5, .int (nI (cc + 1)), .int (nI 0), .int (nI 0)])), (q1, .inl (cL, 8, .inr (.inl (fun c => lN ((va_up mk cc a) c))))), (x0, .inl (cL, 1, .inr (.inl (fun c => lN ((va_up ou 0 cc) c)))))]) [1, 2, 3, 4, 0] rfl
  have hD := hD.sub (ws' := [(s0, .inr (0, [.ref m0, .ref c0, .ref e0, .ref q1, .long (lN vr)])), (m0, .inr (1, [.long (lN p), .int (nI n), .long (lN (px_r p 2))])), (c0, .inr (2, [.ref k1, .ref k2, .ref k3, .ref k4, .ref k5, .int (nI (cc + 1)), .int (nI 0), .int (nI 0)])), (q1, .inl (cL, 8, .inr (.inl (fun c => lN ((va_up mk cc a) c))))), (x0, .inl (cL, 1, .inr (.inl (fun c => lN ((va_up ou 0 cc) c)))))]) [1, 2, 3, 4, 0] (by decide) rfl
  exact W.iret (v := nI 0) hx hb hr (fun t9 ht hW => ⟨⟨nI 0, (), rfl, rfl, by rw [ht]; exact hP, va_K.moved hW.alike hK, hD⟩, hS.F ht⟩) hS.2.2 d_L_channel_21
set_option maxHeartbeats 4000000 in
set_option maxRecDepth 100000 in
theorem c_L_gateY5 (l : Launch) (dC : Nat → ClassId) (dI : Nat → Nat → Nat) (cI cL : ClassId) (sz : Nat) (s0 m0 c0 e0 q1 : Nat) (vr : Nat) (k1 k2 k3 k4 k5 : Nat) (cc gc oc : Nat) (kd lf rg ol : Nat → Nat) (hk : ck cc gc oc kd lf rg ol) (a : Nat) (y : Int32) (ha : a < cc + gc) (hgc : gc < 24) (x0 : Nat) (ou : Nat → Nat) : Met l y_L_gate w_L_gate ({ frames := 3, cells := 0, slots := 0, locals := 68 } : Room) (va_Pc [.ref s0, .int (nI 5), .int (nI a), .int y, .ref x0] (wq_W (dC, dI) classes [(s0, .inr (0, [.ref m0, .ref c0, .ref e0, .ref q1, .long (lN vr)])), (c0, .inr (2, [.ref k1, .ref k2, .ref k3, .ref k4, .ref k5, .int (nI cc), .int (nI gc), .int (nI oc)])), (k1, .inl (cI, 24, .inl (fun c => nI (kd c)))), (k2, .inl (cI, 24, .inl (fun c => nI (lf c)))), (k3, .inl (cI, 24, .inl (fun c => nI (rg c)))), (x0, .inl (cL, 1, .inr (.inl (fun c => lN (ou c)))))] [(cI, .int), (cL, .long)] sz)) (va_Qi (fun (r : Int32) (u : Unit) => r = nI 0) (fun (u : Unit) t => wq_B (dC, dI) classes [(cI, .int), (cL, .long)] (va_A [(s0, .inr (0, [.ref m0, .ref c0, .ref e0, .ref q1, .long (lN vr)])), (c0, .inr (2, [.ref k1, .ref k2, .ref k3, .ref k4, .ref k5, .int (nI cc), .int (nI gc), .int (nI oc)])), (k1, .inl (cI, 24, .inl (fun c => nI (kd c)))), (k2, .inl (cI, 24, .inl (fun c => nI (lf c)))), (k3, .inl (cI, 24, .inl (fun c => nI (rg c)))), (x0, .inl (cL, 1, .inr (.inl (fun c => lN (ou c)))))] sz) [(s0, .inr (0, [.ref m0, .ref c0, .ref e0, .ref q1, .long (lN vr)])), (c0, .inr (2, [.ref k1, .ref k2, .ref k3, .ref k4, .ref k5, .int (nI cc), .int (nI (gc + 1)), .int (nI oc)])), (k1, .inl (cI, 24, .inl (fun c => nI ((va_up kd gc 5) c)))), (k2, .inl (cI, 24, .inl (fun c => nI ((va_up lf gc a) c)))), (k3, .inl (cI, 24, .inl (fun c => nI ((va_up rg gc a) c)))), (x0, .inl (cL, 1, .inr (.inl (fun c => lN ((va_up ou 0 (cc + gc)) c)))))] t) (va_A [(s0, .inr (0, [.ref m0, .ref c0, .ref e0, .ref q1, .long (lN vr)])), (c0, .inr (2, [.ref k1, .ref k2, .ref k3, .ref k4, .ref k5, .int (nI cc), .int (nI gc), .int (nI oc)])), (k1, .inl (cI, 24, .inl (fun c => nI (kd c)))), (k2, .inl (cI, 24, .inl (fun c => nI (lf c)))), (k3, .inl (cI, 24, .inl (fun c => nI (rg c)))), (x0, .inl (cL, 1, .inr (.inl (fun c => lN (ou c)))))] sz)) 0 0 (va_A [(s0, .inr (0, [.ref m0, .ref c0, .ref e0, .ref q1, .long (lN vr)])), (c0, .inr (2, [.ref k1, .ref k2, .ref k3, .ref k4, .ref k5, .int (nI cc), .int (nI gc), .int (nI oc)])), (k1, .inl (cI, 24, .inl (fun c => nI (kd c)))), (k2, .inl (cI, 24, .inl (fun c => nI (lf c)))), (k3, .inl (cI, 24, .inl (fun c => nI (rg c)))), (x0, .inl (cL, 1, .inr (.inl (fun c => lN (ou c)))))] sz) := by
  refine mt_ofWH (cc := b_L_gate) (maxL := 6) (ret := (Option.some Jvm.ClassFile.FieldType.int)) (hh := [((0 : Nat), (12 : Nat), (15 : Nat), (13 : Nat)), ((0 : Nat), (12 : Nat), (19 : Nat), (38 : Nat)), ((0 : Nat), (12 : Nat), (23 : Nat), (32 : Nat))]) (by decide) rfl ?_
  intro pg en st mm ar bw me co s₁ B hml htab hv
  obtain ⟨rfl, hsz, hP, hK, hD0, hN⟩ := hv
  have hx := B.exec
  have hb := B.bytes
  have hr := B.returns
  have hlocks := B.notSynchronized
  have hts0 := atoms_spec (ws := w_L_gate) B.pre
  have hts : ∀ w ∈ gw, w.before _ st = true := fun w h => hts0 w (List.mem_cons_of_mem _ h)
  have hown : st.vm.findClass R_L = some mm.cls := findClass_of_methodNamed B.named
  subst hsz
  have hD := hD0.self (sz := st.heap.size)
  generalize hAe : va_A [(s0, .inr (0, [.ref m0, .ref c0, .ref e0, .ref q1, .long (lN vr)])), (c0, .inr (2, [.ref k1, .ref k2, .ref k3, .ref k4, .ref k5, .int (nI cc), .int (nI gc), .int (nI oc)])), (k1, .inl (cI, 24, .inl (fun c => nI (kd c)))), (k2, .inl (cI, 24, .inl (fun c => nI (lf c)))), (k3, .inl (cI, 24, .inl (fun c => nI (rg c)))), (x0, .inl (cL, 1, .inr (.inl (fun c => lN (ou c)))))] st.heap.size = A at hD ⊢
  have hA : ∀ q : Nat, st.heap.size ≤ q → A q := fun q h => by rw [← hAe]; exact Or.inr h
  have hS : va_S A st.heap st.heap [] := va_S.rf
  have hl := lv_entry ([.ref s0, .int (nI 5), .int (nI a), .int y, .ref x0]) (n := 6) (Nat.le_of_ble_eq_true rfl)
  rw [lg_entry_eq]
  generalize (lg_sl ([.ref s0, .int (nI 5), .int (nI a), .int y, .ref x0]) ++ List.replicate (6 - (lg_sl ([.ref s0, .int (nI 5), .int (nI a), .int y, .ref x0])).length) Slot.unset).toArray = ls at hl ⊢
  have hl : lv_has ls 6 [(0, .ref s0), (1, .int (nI 5)), (2, .int (nI a)), (3, .int y), (4, .ref x0)] := hl
  refine lv_aload hx hb d_L_gate_0 (lv_at hl 4 rfl) ?_
  refine lv_iconst (v := nI 0) hx hb d_L_gate_2 (by decide) ?_
  refine lv_aload_n hx hb d_L_gate_3 rfl (lv_at hl 0 rfl) ?_
  refine lv_iload_n hx hb d_L_gate_4 rfl (lv_at hl 1 rfl) ?_
  refine lv_iload_n hx hb d_L_gate_5 rfl (lv_at hl 2 rfl) ?_
  refine lv_iload_n hx hb d_L_gate_6 rfl (lv_at hl 3 rfl) ?_
  refine wq_i (wr := [(x0, .inl (cL, 1, .inr (.inl (fun c => lN (ou c)))))]) (va_runV (As := [.int (nI 5), .int (nI a), .int y]) (rest := [.int (nI 0), .ref x0]) ⟨hx, hb, hml, hown, hts⟩ (c_S_gate5 l dC dI cI cL st.heap.size s0 m0 c0 e0 q1 vr k1 k2 k3 k4 k5 cc gc oc kd lf rg ol hk a y ha hgc) (cwV 3 hts (gi_V kw_362 kw_363 kw_364 kw_1 gi_S_gate) rfl rfl rfl ⟨rfl, by decide, by decide, by decide⟩ ⟨Nat.le_of_ble_eq_true rfl, Nat.le_of_ble_eq_true rfl⟩) (wq_preVW hP hD hK hN [0, 1, 2, 3, 4] rfl rfl (q0 := 0) (ci := 0) rfl rfl rfl) rfl rfl hl.1 rfl (lv_room (Nat.le_of_ble_eq_true rfl)) d_L_gate_7 ⟨Nat.le_of_ble_eq_true rfl, Nat.le_of_ble_eq_true rfl⟩) hP hD hS hA [0, 1, 2, 3, 4] [5] rfl rfl rfl (by decide) (fun r u H locs hq hP hD hS hz => ?_)
  have hP : va_P (dC, dI) classes [(x0, .inl (cL, 1, .inr (.inl (fun c => lN (ou c))))), (s0, .inr (0, [.ref m0, .ref c0, .ref e0, .ref q1, .long (lN vr)])), (c0, .inr (2, [.ref k1, .ref k2, .ref k3, .ref k4, .ref k5, .int (nI cc), .int (nI (gc + 1)), .int (nI oc)])), (k1, .inl (cI, 24, .inl (fun c => nI ((va_up kd gc 5) c)))), (k2, .inl (cI, 24, .inl (fun c => nI ((va_up lf gc a) c)))), (k3, .inl (cI, 24, .inl (fun c => nI ((va_up rg gc a) c))))] H := hP
  have hD : va_D A [(x0, .inl (cL, 1, .inr (.inl (fun c => lN (ou c))))), (s0, .inr (0, [.ref m0, .ref c0, .ref e0, .ref q1, .long (lN vr)])), (c0, .inr (2, [.ref k1, .ref k2, .ref k3, .ref k4, .ref k5, .int (nI cc), .int (nI (gc + 1)), .int (nI oc)])), (k1, .inl (cI, 24, .inl (fun c => nI ((va_up kd gc 5) c)))), (k2, .inl (cI, 24, .inl (fun c => nI ((va_up lf gc a) c)))), (k3, .inl (cI, 24, .inl (fun c => nI ((va_up rg gc a) c))))] := hD
  subst hq
  refine lv_i2l (v := lN (cc + gc)) hx hb d_L_gate_10 (nI_l (by have := hk.1; have := hk.2.1; omega)) ?_
  refine va_last (D := (dC, dI)) (i := (nI 0)) (x := (lN (cc + gc))) hx hb hK hP hD hS 0 1 rfl rfl (vp_in_nI (by decide) (by decide)) d_L_gate_11 (fun H locs hP hD hS => ?_)
  rw [nI_clamp (by decide), updL_lN] at hP hD
  have hP : va_P (dC, dI) classes [(x0, .inl (cL, 1, .inr (.inl (fun c => lN ((va_up ou 0 (cc + gc)) c))))), (s0, .inr (0, [.ref m0, .ref c0, .ref e0, .ref q1, .long (lN vr)])), (c0, .inr (2, [.ref k1, .ref k2, .ref k3, .ref k4, .ref k5, .int (nI cc), .int (nI (gc + 1)), .int (nI oc)])), (k1, .inl (cI, 24, .inl (fun c => nI ((va_up kd gc 5) c)))), (k2, .inl (cI, 24, .inl (fun c => nI ((va_up lf gc a) c)))), (k3, .inl (cI, 24, .inl (fun c => nI ((va_up rg gc a) c))))] H := hP
  have hD : va_D A [(x0, .inl (cL, 1, .inr (.inl (fun c => lN ((va_up ou 0 (cc + gc)) c))))), (s0, .inr (0, [.ref m0, .ref c0, .ref e0, .ref q1, .long (lN vr)])), (c0, .inr (2, [.ref k1, .ref k2, .ref k3, .ref k4, .ref k5, .int (nI cc), .int (nI (gc + 1)), .int (nI oc)])), (k1, .inl (cI, 24, .inl (fun c => nI ((va_up kd gc 5) c)))), (k2, .inl (cI, 24, .inl (fun c => nI ((va_up lf gc a) c)))), (k3, .inl (cI, 24, .inl (fun c => nI ((va_up rg gc a) c))))] := hD
  refine lv_goto (tgt := 27) hx hb d_L_gate_12 (by decide) ?_
  refine lv_iconst (v := nI 0) hx hb d_L_gate_27 (by decide) ?_
  have hP := hP.sub (ws' := [(s0, .inr (0, [.ref m0, .ref c0, .ref e0, .ref q1, .long (lN vr)])), (c0, .inr (2, [.ref k1, .ref k2, .ref k3, .ref k4, .ref k5, .int (nI cc), .int (nI (gc + 1)), .int (nI oc)])), (k1, .inl (cI, 24, .inl (fun c => nI ((va_up kd gc 5) c)))), (k2, .inl (cI, 24, .inl (fun c => nI ((va_up lf gc a) c)))), (k3, .inl (cI, 24, .inl (fun c => nI ((va_up rg gc a) c)))), (x0, .inl (cL, 1, .inr (.inl (fun c => lN ((va_up ou 0 (cc + gc)) c)))))]) [1, 2, 3, 4, 5, 0] rfl
  have hD := hD.sub (ws' := [(s0, .inr (0, [.ref m0, .ref c0, .ref e0, .ref q1, .long (lN vr)])), (c0, .inr (2, [.ref k1, .ref k2, .ref k3, .ref k4, .ref k5, .int (nI cc), .int (nI (gc + 1)), .int (nI oc)])), (k1, .inl (cI, 24, .inl (fun c => nI ((va_up kd gc 5) c)))), (k2, .inl (cI, 24, .inl (fun c => nI ((va_up lf gc a) c)))), (k3, .inl (cI, 24, .inl (fun c => nI ((va_up rg gc a) c)))), (x0, .inl (cL, 1, .inr (.inl (fun c => lN ((va_up ou 0 (cc + gc)) c)))))]) [1, 2, 3, 4, 5, 0] (by decide) rfl
  exact W.iret (v := nI 0) hx hb hr (fun t9 ht hW => ⟨⟨nI 0, (), rfl, rfl, by rw [ht]; exact hP, va_K.moved hW.alike hK, hD⟩, hS.F ht⟩) hS.2.2 d_L_gate_28
set_option maxHeartbeats 4000000 in
set_option maxRecDepth 100000 in
theorem c_L_gateYK (l : Launch) (dC : Nat → ClassId) (dI : Nat → Nat → Nat) (cI cL : ClassId) (sz : Nat) (s0 m0 c0 e0 q1 : Nat) (vr : Nat) (k1 k2 k3 k4 k5 : Nat) (cc gc oc : Nat) (kd lf rg ol : Nat → Nat) (hk : ck cc gc oc kd lf rg ol) (kk a b : Nat) (hkk : kk < 5) (ha : a < cc + gc) (hb2 : b < cc + gc) (hgc : gc < 24) (x0 : Nat) (ou : Nat → Nat) : Met l y_L_gate w_L_gate ({ frames := 3, cells := 0, slots := 0, locals := 68 } : Room) (va_Pc [.ref s0, .int (nI kk), .int (nI a), .int (nI b), .ref x0] (wq_W (dC, dI) classes [(s0, .inr (0, [.ref m0, .ref c0, .ref e0, .ref q1, .long (lN vr)])), (c0, .inr (2, [.ref k1, .ref k2, .ref k3, .ref k4, .ref k5, .int (nI cc), .int (nI gc), .int (nI oc)])), (k1, .inl (cI, 24, .inl (fun c => nI (kd c)))), (k2, .inl (cI, 24, .inl (fun c => nI (lf c)))), (k3, .inl (cI, 24, .inl (fun c => nI (rg c)))), (x0, .inl (cL, 1, .inr (.inl (fun c => lN (ou c)))))] [(cI, .int), (cL, .long)] sz)) (va_Qi (fun (r : Int32) (u : Unit) => r = nI 0) (fun (u : Unit) t => wq_B (dC, dI) classes [(cI, .int), (cL, .long)] (va_A [(s0, .inr (0, [.ref m0, .ref c0, .ref e0, .ref q1, .long (lN vr)])), (c0, .inr (2, [.ref k1, .ref k2, .ref k3, .ref k4, .ref k5, .int (nI cc), .int (nI gc), .int (nI oc)])), (k1, .inl (cI, 24, .inl (fun c => nI (kd c)))), (k2, .inl (cI, 24, .inl (fun c => nI (lf c)))), (k3, .inl (cI, 24, .inl (fun c => nI (rg c)))), (x0, .inl (cL, 1, .inr (.inl (fun c => lN (ou c)))))] sz) [(s0, .inr (0, [.ref m0, .ref c0, .ref e0, .ref q1, .long (lN vr)])), (c0, .inr (2, [.ref k1, .ref k2, .ref k3, .ref k4, .ref k5, .int (nI cc), .int (nI (gc + 1)), .int (nI oc)])), (k1, .inl (cI, 24, .inl (fun c => nI ((va_up kd gc kk) c)))), (k2, .inl (cI, 24, .inl (fun c => nI ((va_up lf gc a) c)))), (k3, .inl (cI, 24, .inl (fun c => nI ((va_up rg gc b) c)))), (x0, .inl (cL, 1, .inr (.inl (fun c => lN ((va_up ou 0 (cc + gc)) c)))))] t) (va_A [(s0, .inr (0, [.ref m0, .ref c0, .ref e0, .ref q1, .long (lN vr)])), (c0, .inr (2, [.ref k1, .ref k2, .ref k3, .ref k4, .ref k5, .int (nI cc), .int (nI gc), .int (nI oc)])), (k1, .inl (cI, 24, .inl (fun c => nI (kd c)))), (k2, .inl (cI, 24, .inl (fun c => nI (lf c)))), (k3, .inl (cI, 24, .inl (fun c => nI (rg c)))), (x0, .inl (cL, 1, .inr (.inl (fun c => lN (ou c)))))] sz)) 0 0 (va_A [(s0, .inr (0, [.ref m0, .ref c0, .ref e0, .ref q1, .long (lN vr)])), (c0, .inr (2, [.ref k1, .ref k2, .ref k3, .ref k4, .ref k5, .int (nI cc), .int (nI gc), .int (nI oc)])), (k1, .inl (cI, 24, .inl (fun c => nI (kd c)))), (k2, .inl (cI, 24, .inl (fun c => nI (lf c)))), (k3, .inl (cI, 24, .inl (fun c => nI (rg c)))), (x0, .inl (cL, 1, .inr (.inl (fun c => lN (ou c)))))] sz) := by
  refine mt_ofWH (cc := b_L_gate) (maxL := 6) (ret := (Option.some Jvm.ClassFile.FieldType.int)) (hh := [((0 : Nat), (12 : Nat), (15 : Nat), (13 : Nat)), ((0 : Nat), (12 : Nat), (19 : Nat), (38 : Nat)), ((0 : Nat), (12 : Nat), (23 : Nat), (32 : Nat))]) (by decide) rfl ?_
  intro pg en st mm ar bw me co s₁ B hml htab hv
  obtain ⟨rfl, hsz, hP, hK, hD0, hN⟩ := hv
  have hx := B.exec
  have hb := B.bytes
  have hr := B.returns
  have hlocks := B.notSynchronized
  have hts0 := atoms_spec (ws := w_L_gate) B.pre
  have hts : ∀ w ∈ gw, w.before _ st = true := fun w h => hts0 w (List.mem_cons_of_mem _ h)
  have hown : st.vm.findClass R_L = some mm.cls := findClass_of_methodNamed B.named
  subst hsz
  have hD := hD0.self (sz := st.heap.size)
  generalize hAe : va_A [(s0, .inr (0, [.ref m0, .ref c0, .ref e0, .ref q1, .long (lN vr)])), (c0, .inr (2, [.ref k1, .ref k2, .ref k3, .ref k4, .ref k5, .int (nI cc), .int (nI gc), .int (nI oc)])), (k1, .inl (cI, 24, .inl (fun c => nI (kd c)))), (k2, .inl (cI, 24, .inl (fun c => nI (lf c)))), (k3, .inl (cI, 24, .inl (fun c => nI (rg c)))), (x0, .inl (cL, 1, .inr (.inl (fun c => lN (ou c)))))] st.heap.size = A at hD ⊢
  have hA : ∀ q : Nat, st.heap.size ≤ q → A q := fun q h => by rw [← hAe]; exact Or.inr h
  have hS : va_S A st.heap st.heap [] := va_S.rf
  have hl := lv_entry ([.ref s0, .int (nI kk), .int (nI a), .int (nI b), .ref x0]) (n := 6) (Nat.le_of_ble_eq_true rfl)
  rw [lg_entry_eq]
  generalize (lg_sl ([.ref s0, .int (nI kk), .int (nI a), .int (nI b), .ref x0]) ++ List.replicate (6 - (lg_sl ([.ref s0, .int (nI kk), .int (nI a), .int (nI b), .ref x0])).length) Slot.unset).toArray = ls at hl ⊢
  have hl : lv_has ls 6 [(0, .ref s0), (1, .int (nI kk)), (2, .int (nI a)), (3, .int (nI b)), (4, .ref x0)] := hl
  refine lv_aload hx hb d_L_gate_0 (lv_at hl 4 rfl) ?_
  refine lv_iconst (v := nI 0) hx hb d_L_gate_2 (by decide) ?_
  refine lv_aload_n hx hb d_L_gate_3 rfl (lv_at hl 0 rfl) ?_
  refine lv_iload_n hx hb d_L_gate_4 rfl (lv_at hl 1 rfl) ?_
  refine lv_iload_n hx hb d_L_gate_5 rfl (lv_at hl 2 rfl) ?_
  refine lv_iload_n hx hb d_L_gate_6 rfl (lv_at hl 3 rfl) ?_
  refine wq_i (wr := [(x0, .inl (cL, 1, .inr (.inl (fun c => lN (ou c)))))]) (va_runV (As := [.int (nI kk), .int (nI a), .int (nI b)]) (rest := [.int (nI 0), .ref x0]) ⟨hx, hb, hml, hown, hts⟩ (c_S_gateK l dC dI cI cL st.heap.size s0 m0 c0 e0 q1 vr k1 k2 k3 k4 k5 cc gc oc kd lf rg ol hk kk a b hkk ha hb2 hgc) (cwV 3 hts (gi_V kw_362 kw_363 kw_364 kw_1 gi_S_gate) rfl rfl rfl ⟨rfl, by decide, by decide, by decide⟩ ⟨Nat.le_of_ble_eq_true rfl, Nat.le_of_ble_eq_true rfl⟩) (wq_preVW hP hD hK hN [0, 1, 2, 3, 4] rfl rfl (q0 := 0) (ci := 0) rfl rfl rfl) rfl rfl hl.1 rfl (lv_room (Nat.le_of_ble_eq_true rfl)) d_L_gate_7 ⟨Nat.le_of_ble_eq_true rfl, Nat.le_of_ble_eq_true rfl⟩) hP hD hS hA [0, 1, 2, 3, 4] [5] rfl rfl rfl (by decide) (fun r u H locs hq hP hD hS hz => ?_)
  have hP : va_P (dC, dI) classes [(x0, .inl (cL, 1, .inr (.inl (fun c => lN (ou c))))), (s0, .inr (0, [.ref m0, .ref c0, .ref e0, .ref q1, .long (lN vr)])), (c0, .inr (2, [.ref k1, .ref k2, .ref k3, .ref k4, .ref k5, .int (nI cc), .int (nI (gc + 1)), .int (nI oc)])), (k1, .inl (cI, 24, .inl (fun c => nI ((va_up kd gc kk) c)))), (k2, .inl (cI, 24, .inl (fun c => nI ((va_up lf gc a) c)))), (k3, .inl (cI, 24, .inl (fun c => nI ((va_up rg gc b) c))))] H := hP
  have hD : va_D A [(x0, .inl (cL, 1, .inr (.inl (fun c => lN (ou c))))), (s0, .inr (0, [.ref m0, .ref c0, .ref e0, .ref q1, .long (lN vr)])), (c0, .inr (2, [.ref k1, .ref k2, .ref k3, .ref k4, .ref k5, .int (nI cc), .int (nI (gc + 1)), .int (nI oc)])), (k1, .inl (cI, 24, .inl (fun c => nI ((va_up kd gc kk) c)))), (k2, .inl (cI, 24, .inl (fun c => nI ((va_up lf gc a) c)))), (k3, .inl (cI, 24, .inl (fun c => nI ((va_up rg gc b) c))))] := hD
  subst hq
  refine lv_i2l (v := lN (cc + gc)) hx hb d_L_gate_10 (nI_l (by have := hk.1; have := hk.2.1; omega)) ?_
  refine va_last (D := (dC, dI)) (i := (nI 0)) (x := (lN (cc + gc))) hx hb hK hP hD hS 0 1 rfl rfl (vp_in_nI (by decide) (by decide)) d_L_gate_11 (fun H locs hP hD hS => ?_)
  rw [nI_clamp (by decide), updL_lN] at hP hD
  have hP : va_P (dC, dI) classes [(x0, .inl (cL, 1, .inr (.inl (fun c => lN ((va_up ou 0 (cc + gc)) c))))), (s0, .inr (0, [.ref m0, .ref c0, .ref e0, .ref q1, .long (lN vr)])), (c0, .inr (2, [.ref k1, .ref k2, .ref k3, .ref k4, .ref k5, .int (nI cc), .int (nI (gc + 1)), .int (nI oc)])), (k1, .inl (cI, 24, .inl (fun c => nI ((va_up kd gc kk) c)))), (k2, .inl (cI, 24, .inl (fun c => nI ((va_up lf gc a) c)))), (k3, .inl (cI, 24, .inl (fun c => nI ((va_up rg gc b) c))))] H := hP
  have hD : va_D A [(x0, .inl (cL, 1, .inr (.inl (fun c => lN ((va_up ou 0 (cc + gc)) c))))), (s0, .inr (0, [.ref m0, .ref c0, .ref e0, .ref q1, .long (lN vr)])), (c0, .inr (2, [.ref k1, .ref k2, .ref k3, .ref k4, .ref k5, .int (nI cc), .int (nI (gc + 1)), .int (nI oc)])), (k1, .inl (cI, 24, .inl (fun c => nI ((va_up kd gc kk) c)))), (k2, .inl (cI, 24, .inl (fun c => nI ((va_up lf gc a) c)))), (k3, .inl (cI, 24, .inl (fun c => nI ((va_up rg gc b) c))))] := hD
  refine lv_goto (tgt := 27) hx hb d_L_gate_12 (by decide) ?_
  refine lv_iconst (v := nI 0) hx hb d_L_gate_27 (by decide) ?_
  have hP := hP.sub (ws' := [(s0, .inr (0, [.ref m0, .ref c0, .ref e0, .ref q1, .long (lN vr)])), (c0, .inr (2, [.ref k1, .ref k2, .ref k3, .ref k4, .ref k5, .int (nI cc), .int (nI (gc + 1)), .int (nI oc)])), (k1, .inl (cI, 24, .inl (fun c => nI ((va_up kd gc kk) c)))), (k2, .inl (cI, 24, .inl (fun c => nI ((va_up lf gc a) c)))), (k3, .inl (cI, 24, .inl (fun c => nI ((va_up rg gc b) c)))), (x0, .inl (cL, 1, .inr (.inl (fun c => lN ((va_up ou 0 (cc + gc)) c)))))]) [1, 2, 3, 4, 5, 0] rfl
  have hD := hD.sub (ws' := [(s0, .inr (0, [.ref m0, .ref c0, .ref e0, .ref q1, .long (lN vr)])), (c0, .inr (2, [.ref k1, .ref k2, .ref k3, .ref k4, .ref k5, .int (nI cc), .int (nI (gc + 1)), .int (nI oc)])), (k1, .inl (cI, 24, .inl (fun c => nI ((va_up kd gc kk) c)))), (k2, .inl (cI, 24, .inl (fun c => nI ((va_up lf gc a) c)))), (k3, .inl (cI, 24, .inl (fun c => nI ((va_up rg gc b) c)))), (x0, .inl (cL, 1, .inr (.inl (fun c => lN ((va_up ou 0 (cc + gc)) c)))))]) [1, 2, 3, 4, 5, 0] (by decide) rfl
  exact W.iret (v := nI 0) hx hb hr (fun t9 ht hW => ⟨⟨nI 0, (), rfl, rfl, by rw [ht]; exact hP, va_K.moved hW.alike hK, hD⟩, hS.F ht⟩) hS.2.2 d_L_gate_28
set_option maxHeartbeats 4000000 in
set_option maxRecDepth 100000 in
theorem c_L_outputY (l : Launch) (dC : Nat → ClassId) (dI : Nat → Nat → Nat) (cI cL : ClassId) (sz : Nat) (s0 m0 c0 e0 q1 : Nat) (vr : Nat) (k1 k2 k3 k4 k5 : Nat) (cc gc oc : Nat) (ol : Nat → Nat) (a : Nat) (ha : a < cc + gc) (hl1 : cc + gc < 2 ^ 31) (hoc : oc < 16) (x0 : Nat) (ou : Nat → Nat) : Met l y_L_output w_L_output ({ frames := 3, cells := 0, slots := 0, locals := 62 } : Room) (va_Pc [.ref s0, .int (nI a), .ref x0] (wq_W (dC, dI) classes [(s0, .inr (0, [.ref m0, .ref c0, .ref e0, .ref q1, .long (lN vr)])), (c0, .inr (2, [.ref k1, .ref k2, .ref k3, .ref k4, .ref k5, .int (nI cc), .int (nI gc), .int (nI oc)])), (k4, .inl (cI, 16, .inl (fun c => nI (ol c)))), (x0, .inl (cL, 1, .inr (.inl (fun c => lN (ou c)))))] [(cI, .int), (cL, .long)] sz)) (va_Qi (fun (r : Int32) (u : Unit) => r = nI 0) (fun (u : Unit) t => wq_B (dC, dI) classes [(cI, .int), (cL, .long)] (va_A [(s0, .inr (0, [.ref m0, .ref c0, .ref e0, .ref q1, .long (lN vr)])), (c0, .inr (2, [.ref k1, .ref k2, .ref k3, .ref k4, .ref k5, .int (nI cc), .int (nI gc), .int (nI oc)])), (k4, .inl (cI, 16, .inl (fun c => nI (ol c)))), (x0, .inl (cL, 1, .inr (.inl (fun c => lN (ou c)))))] sz) [(s0, .inr (0, [.ref m0, .ref c0, .ref e0, .ref q1, .long (lN vr)])), (c0, .inr (2, [.ref k1, .ref k2, .ref k3, .ref k4, .ref k5, .int (nI cc), .int (nI gc), .int (nI (oc + 1))])), (k4, .inl (cI, 16, .inl (fun c => nI ((va_up ol oc a) c)))), (x0, .inl (cL, 1, .inr (.inl (fun c => lN ((va_up ou 0 oc) c)))))] t) (va_A [(s0, .inr (0, [.ref m0, .ref c0, .ref e0, .ref q1, .long (lN vr)])), (c0, .inr (2, [.ref k1, .ref k2, .ref k3, .ref k4, .ref k5, .int (nI cc), .int (nI gc), .int (nI oc)])), (k4, .inl (cI, 16, .inl (fun c => nI (ol c)))), (x0, .inl (cL, 1, .inr (.inl (fun c => lN (ou c)))))] sz)) 0 0 (va_A [(s0, .inr (0, [.ref m0, .ref c0, .ref e0, .ref q1, .long (lN vr)])), (c0, .inr (2, [.ref k1, .ref k2, .ref k3, .ref k4, .ref k5, .int (nI cc), .int (nI gc), .int (nI oc)])), (k4, .inl (cI, 16, .inl (fun c => nI (ol c)))), (x0, .inl (cL, 1, .inr (.inl (fun c => lN (ou c)))))] sz) := by
  refine mt_ofWH (cc := b_L_output) (maxL := 4) (ret := (Option.some Jvm.ClassFile.FieldType.int)) (hh := [((0 : Nat), (9 : Nat), (12 : Nat), (38 : Nat)), ((0 : Nat), (9 : Nat), (15 : Nat), (32 : Nat))]) (by decide) rfl ?_
  intro pg en st mm ar bw me co s₁ B hml htab hv
  obtain ⟨rfl, hsz, hP, hK, hD0, hN⟩ := hv
  have hx := B.exec
  have hb := B.bytes
  have hr := B.returns
  have hlocks := B.notSynchronized
  have hts0 := atoms_spec (ws := w_L_output) B.pre
  have hts : ∀ w ∈ gw, w.before _ st = true := fun w h => hts0 w (List.mem_cons_of_mem _ h)
  have hown : st.vm.findClass R_L = some mm.cls := findClass_of_methodNamed B.named
  subst hsz
  have hD := hD0.self (sz := st.heap.size)
  generalize hAe : va_A [(s0, .inr (0, [.ref m0, .ref c0, .ref e0, .ref q1, .long (lN vr)])), (c0, .inr (2, [.ref k1, .ref k2, .ref k3, .ref k4, .ref k5, .int (nI cc), .int (nI gc), .int (nI oc)])), (k4, .inl (cI, 16, .inl (fun c => nI (ol c)))), (x0, .inl (cL, 1, .inr (.inl (fun c => lN (ou c)))))] st.heap.size = A at hD ⊢
  have hA : ∀ q : Nat, st.heap.size ≤ q → A q := fun q h => by rw [← hAe]; exact Or.inr h
  have hS : va_S A st.heap st.heap [] := va_S.rf
  have hl := lv_entry ([.ref s0, .int (nI a), .ref x0]) (n := 4) (Nat.le_of_ble_eq_true rfl)
  rw [lg_entry_eq]
  generalize (lg_sl ([.ref s0, .int (nI a), .ref x0]) ++ List.replicate (4 - (lg_sl ([.ref s0, .int (nI a), .ref x0])).length) Slot.unset).toArray = ls at hl ⊢
  have hl : lv_has ls 4 [(0, .ref s0), (1, .int (nI a)), (2, .ref x0)] := hl
  refine lv_aload_n hx hb d_L_output_0 rfl (lv_at hl 2 rfl) ?_
  refine lv_iconst (v := nI 0) hx hb d_L_output_1 (by decide) ?_
  refine lv_aload_n hx hb d_L_output_2 rfl (lv_at hl 0 rfl) ?_
  refine lv_iload_n hx hb d_L_output_3 rfl (lv_at hl 1 rfl) ?_
  refine wq_i (wr := [(x0, .inl (cL, 1, .inr (.inl (fun c => lN (ou c)))))]) (va_runV (As := [.int (nI a)]) (rest := [.int (nI 0), .ref x0]) ⟨hx, hb, hml, hown, hts⟩ (c_S_output l dC dI cI cL st.heap.size s0 m0 c0 e0 q1 vr k1 k2 k3 k4 k5 cc gc oc ol a ha hl1 hoc) (cwV 1 hts (gi_V kw_400 kw_401 kw_402 kw_1 gi_S_output) rfl rfl rfl ⟨rfl, by decide, by decide, by decide⟩ ⟨Nat.le_of_ble_eq_true rfl, Nat.le_of_ble_eq_true rfl⟩) (wq_preVW hP hD hK hN [0, 1, 2] rfl rfl (q0 := 0) (ci := 0) rfl rfl rfl) rfl rfl hl.1 rfl (lv_room (Nat.le_of_ble_eq_true rfl)) d_L_output_4 ⟨Nat.le_of_ble_eq_true rfl, Nat.le_of_ble_eq_true rfl⟩) hP hD hS hA [0, 1, 2] [3] rfl rfl rfl (by decide) (fun r u H locs hq hP hD hS hz => ?_)
  have hP : va_P (dC, dI) classes [(x0, .inl (cL, 1, .inr (.inl (fun c => lN (ou c))))), (s0, .inr (0, [.ref m0, .ref c0, .ref e0, .ref q1, .long (lN vr)])), (c0, .inr (2, [.ref k1, .ref k2, .ref k3, .ref k4, .ref k5, .int (nI cc), .int (nI gc), .int (nI (oc + 1))])), (k4, .inl (cI, 16, .inl (fun c => nI ((va_up ol oc a) c))))] H := hP
  have hD : va_D A [(x0, .inl (cL, 1, .inr (.inl (fun c => lN (ou c))))), (s0, .inr (0, [.ref m0, .ref c0, .ref e0, .ref q1, .long (lN vr)])), (c0, .inr (2, [.ref k1, .ref k2, .ref k3, .ref k4, .ref k5, .int (nI cc), .int (nI gc), .int (nI (oc + 1))])), (k4, .inl (cI, 16, .inl (fun c => nI ((va_up ol oc a) c))))] := hD
  subst hq
  refine lv_i2l (v := lN oc) hx hb d_L_output_7 (nI_l (by omega)) ?_
  refine va_last (D := (dC, dI)) (i := (nI 0)) (x := (lN oc)) hx hb hK hP hD hS 0 1 rfl rfl (vp_in_nI (by decide) (by decide)) d_L_output_8 (fun H locs hP hD hS => ?_)
  rw [nI_clamp (by decide), updL_lN] at hP hD
  have hP : va_P (dC, dI) classes [(x0, .inl (cL, 1, .inr (.inl (fun c => lN ((va_up ou 0 oc) c))))), (s0, .inr (0, [.ref m0, .ref c0, .ref e0, .ref q1, .long (lN vr)])), (c0, .inr (2, [.ref k1, .ref k2, .ref k3, .ref k4, .ref k5, .int (nI cc), .int (nI gc), .int (nI (oc + 1))])), (k4, .inl (cI, 16, .inl (fun c => nI ((va_up ol oc a) c))))] H := hP
  have hD : va_D A [(x0, .inl (cL, 1, .inr (.inl (fun c => lN ((va_up ou 0 oc) c))))), (s0, .inr (0, [.ref m0, .ref c0, .ref e0, .ref q1, .long (lN vr)])), (c0, .inr (2, [.ref k1, .ref k2, .ref k3, .ref k4, .ref k5, .int (nI cc), .int (nI gc), .int (nI (oc + 1))])), (k4, .inl (cI, 16, .inl (fun c => nI ((va_up ol oc a) c))))] := hD
  refine lv_goto (tgt := 18) hx hb d_L_output_9 (by decide) ?_
  refine lv_iconst (v := nI 0) hx hb d_L_output_18 (by decide) ?_
  have hP := hP.sub (ws' := [(s0, .inr (0, [.ref m0, .ref c0, .ref e0, .ref q1, .long (lN vr)])), (c0, .inr (2, [.ref k1, .ref k2, .ref k3, .ref k4, .ref k5, .int (nI cc), .int (nI gc), .int (nI (oc + 1))])), (k4, .inl (cI, 16, .inl (fun c => nI ((va_up ol oc a) c)))), (x0, .inl (cL, 1, .inr (.inl (fun c => lN ((va_up ou 0 oc) c)))))]) [1, 2, 3, 0] rfl
  have hD := hD.sub (ws' := [(s0, .inr (0, [.ref m0, .ref c0, .ref e0, .ref q1, .long (lN vr)])), (c0, .inr (2, [.ref k1, .ref k2, .ref k3, .ref k4, .ref k5, .int (nI cc), .int (nI gc), .int (nI (oc + 1))])), (k4, .inl (cI, 16, .inl (fun c => nI ((va_up ol oc a) c)))), (x0, .inl (cL, 1, .inr (.inl (fun c => lN ((va_up ou 0 oc) c)))))]) [1, 2, 3, 0] (by decide) rfl
  exact W.iret (v := nI 0) hx hb hr (fun t9 ht hW => ⟨⟨nI 0, (), rfl, rfl, by rw [ht]; exact hP, va_K.moved hW.alike hK, hD⟩, hS.F ht⟩) hS.2.2 d_L_output_19
set_option maxHeartbeats 4000000 in
set_option maxRecDepth 100000 in
theorem c_L_answerN (l : Launch) (dC : Nat → ClassId) (dI : Nat → Nat → Nat) (cI cL : ClassId) (sz : Nat) (s0 m0 c0 e0 q1 : Nat) (vr : Nat) (k1 k2 k3 k4 k5 : Nat) (cc gc oc : Nat) (kd lf rg ol : Nat → Nat) (hk : ck cc gc oc kd lf rg ol) (vv : Nat → Nat) (pt : Nat) (hpt : pt < 2 ^ 32) (x0 : Nat) (ou : Nat → Nat) : Met l y_L_answer w_L_answer ({ frames := 5, cells := 0, slots := 0, locals := 104 } : Room) (va_Pc [.ref s0, .int (nI pt), .int (-1), .ref x0] (wq_W (dC, dI) classes [(s0, .inr (0, [.ref m0, .ref c0, .ref e0, .ref q1, .long (lN vr)])), (c0, .inr (2, [.ref k1, .ref k2, .ref k3, .ref k4, .ref k5, .int (nI cc), .int (nI gc), .int (nI oc)])), (k1, .inl (cI, 24, .inl (fun c => nI (kd c)))), (k2, .inl (cI, 24, .inl (fun c => nI (lf c)))), (k3, .inl (cI, 24, .inl (fun c => nI (rg c)))), (k4, .inl (cI, 16, .inl (fun c => nI (ol c)))), (k5, .inl (cL, 32, .inr (.inl (fun c => lN (vv c))))), (x0, .inl (cL, 1, .inr (.inl (fun c => lN (ou c)))))] [(cI, .int), (cL, .long)] sz)) (va_Qi (fun (r : Int32) (u : Nat → Nat) => r = nI 0) (fun (u : Nat → Nat) t => wq_B (dC, dI) classes [(cI, .int), (cL, .long)] (va_A [(s0, .inr (0, [.ref m0, .ref c0, .ref e0, .ref q1, .long (lN vr)])), (c0, .inr (2, [.ref k1, .ref k2, .ref k3, .ref k4, .ref k5, .int (nI cc), .int (nI gc), .int (nI oc)])), (k1, .inl (cI, 24, .inl (fun c => nI (kd c)))), (k2, .inl (cI, 24, .inl (fun c => nI (lf c)))), (k3, .inl (cI, 24, .inl (fun c => nI (rg c)))), (k4, .inl (cI, 16, .inl (fun c => nI (ol c)))), (k5, .inl (cL, 32, .inr (.inl (fun c => lN (vv c))))), (x0, .inl (cL, 1, .inr (.inl (fun c => lN (ou c)))))] sz) [(s0, .inr (0, [.ref m0, .ref c0, .ref e0, .ref q1, .long (lN vr)])), (c0, .inr (2, [.ref k1, .ref k2, .ref k3, .ref k4, .ref k5, .int (nI cc), .int (nI gc), .int (nI oc)])), (k1, .inl (cI, 24, .inl (fun c => nI (kd c)))), (k2, .inl (cI, 24, .inl (fun c => nI (lf c)))), (k3, .inl (cI, 24, .inl (fun c => nI (rg c)))), (k4, .inl (cI, 16, .inl (fun c => nI (ol c)))), (k5, .inl (cL, 32, .inr (.inl (fun c => lN (u c))))), (x0, .inl (cL, 1, .inr (.inl (fun c => lN ((va_up ou 0 (ci_a ol (ci_t cc kd lf rg pt none (cc + gc)) oc)) c)))))] t) (va_A [(s0, .inr (0, [.ref m0, .ref c0, .ref e0, .ref q1, .long (lN vr)])), (c0, .inr (2, [.ref k1, .ref k2, .ref k3, .ref k4, .ref k5, .int (nI cc), .int (nI gc), .int (nI oc)])), (k1, .inl (cI, 24, .inl (fun c => nI (kd c)))), (k2, .inl (cI, 24, .inl (fun c => nI (lf c)))), (k3, .inl (cI, 24, .inl (fun c => nI (rg c)))), (k4, .inl (cI, 16, .inl (fun c => nI (ol c)))), (k5, .inl (cL, 32, .inr (.inl (fun c => lN (vv c))))), (x0, .inl (cL, 1, .inr (.inl (fun c => lN (ou c)))))] sz)) 0 0 (va_A [(s0, .inr (0, [.ref m0, .ref c0, .ref e0, .ref q1, .long (lN vr)])), (c0, .inr (2, [.ref k1, .ref k2, .ref k3, .ref k4, .ref k5, .int (nI cc), .int (nI gc), .int (nI oc)])), (k1, .inl (cI, 24, .inl (fun c => nI (kd c)))), (k2, .inl (cI, 24, .inl (fun c => nI (lf c)))), (k3, .inl (cI, 24, .inl (fun c => nI (rg c)))), (k4, .inl (cI, 16, .inl (fun c => nI (ol c)))), (k5, .inl (cL, 32, .inr (.inl (fun c => lN (vv c))))), (x0, .inl (cL, 1, .inr (.inl (fun c => lN (ou c)))))] sz) := by
  refine mt_ofWH (cc := b_L_answer) (maxL := 5) (ret := (Option.some Jvm.ClassFile.FieldType.int)) (hh := [((0 : Nat), (10 : Nat), (13 : Nat), (38 : Nat))]) (by decide) rfl ?_
  intro pg en st mm ar bw me co s₁ B hml htab hv
  obtain ⟨rfl, hsz, hP, hK, hD0, hN⟩ := hv
  have hx := B.exec
  have hb := B.bytes
  have hr := B.returns
  have hlocks := B.notSynchronized
  have hts0 := atoms_spec (ws := w_L_answer) B.pre
  have hts : ∀ w ∈ gw, w.before _ st = true := fun w h => hts0 w (List.mem_cons_of_mem _ h)
  have hown : st.vm.findClass R_L = some mm.cls := findClass_of_methodNamed B.named
  subst hsz
  have hD := hD0.self (sz := st.heap.size)
  generalize hAe : va_A [(s0, .inr (0, [.ref m0, .ref c0, .ref e0, .ref q1, .long (lN vr)])), (c0, .inr (2, [.ref k1, .ref k2, .ref k3, .ref k4, .ref k5, .int (nI cc), .int (nI gc), .int (nI oc)])), (k1, .inl (cI, 24, .inl (fun c => nI (kd c)))), (k2, .inl (cI, 24, .inl (fun c => nI (lf c)))), (k3, .inl (cI, 24, .inl (fun c => nI (rg c)))), (k4, .inl (cI, 16, .inl (fun c => nI (ol c)))), (k5, .inl (cL, 32, .inr (.inl (fun c => lN (vv c))))), (x0, .inl (cL, 1, .inr (.inl (fun c => lN (ou c)))))] st.heap.size = A at hD ⊢
  have hA : ∀ q : Nat, st.heap.size ≤ q → A q := fun q h => by rw [← hAe]; exact Or.inr h
  have hS : va_S A st.heap st.heap [] := va_S.rf
  have hl := lv_entry ([.ref s0, .int (nI pt), .int (-1), .ref x0]) (n := 5) (Nat.le_of_ble_eq_true rfl)
  rw [lg_entry_eq]
  generalize (lg_sl ([.ref s0, .int (nI pt), .int (-1), .ref x0]) ++ List.replicate (5 - (lg_sl ([.ref s0, .int (nI pt), .int (-1), .ref x0])).length) Slot.unset).toArray = ls at hl ⊢
  have hl : lv_has ls 5 [(0, .ref s0), (1, .int (nI pt)), (2, .int (-1)), (3, .ref x0)] := hl
  refine lv_aload_n hx hb d_L_answer_0 rfl (lv_at hl 3 rfl) ?_
  refine lv_iconst (v := nI 0) hx hb d_L_answer_1 (by decide) ?_
  refine lv_aload_n hx hb d_L_answer_2 rfl (lv_at hl 0 rfl) ?_
  refine lv_iload_n hx hb d_L_answer_3 rfl (lv_at hl 1 rfl) ?_
  refine lv_iload_n hx hb d_L_answer_4 rfl (lv_at hl 2 rfl) ?_
  refine wq_i (wr := [(x0, .inl (cL, 1, .inr (.inl (fun c => lN (ou c)))))]) (va_runV (As := [.int (nI pt), .int (-1)]) (rest := [.int (nI 0), .ref x0]) ⟨hx, hb, hml, hown, hts⟩ (c_S_answerN l dC dI cI cL st.heap.size s0 m0 c0 e0 q1 vr k1 k2 k3 k4 k5 cc gc oc kd lf rg ol hk vv pt hpt) (cwV 2 hts (gi_V kw_412 kw_413 kw_414 kw_1 gi_S_answer) rfl rfl rfl ⟨rfl, by decide, by decide, by decide⟩ ⟨Nat.le_of_ble_eq_true rfl, Nat.le_of_ble_eq_true rfl⟩) (wq_preVW hP hD hK hN [0, 1, 2, 3, 4, 5, 6] rfl rfl (q0 := 0) (ci := 0) rfl rfl rfl) rfl rfl hl.1 rfl (lv_room (Nat.le_of_ble_eq_true rfl)) d_L_answer_5 ⟨Nat.le_of_ble_eq_true rfl, Nat.le_of_ble_eq_true rfl⟩) hP hD hS hA [0, 1, 2, 3, 4, 5, 6] [7] rfl rfl rfl (by decide) (fun r u H locs hq hP hD hS hz => ?_)
  have hP : va_P (dC, dI) classes [(x0, .inl (cL, 1, .inr (.inl (fun c => lN (ou c))))), (s0, .inr (0, [.ref m0, .ref c0, .ref e0, .ref q1, .long (lN vr)])), (c0, .inr (2, [.ref k1, .ref k2, .ref k3, .ref k4, .ref k5, .int (nI cc), .int (nI gc), .int (nI oc)])), (k1, .inl (cI, 24, .inl (fun c => nI (kd c)))), (k2, .inl (cI, 24, .inl (fun c => nI (lf c)))), (k3, .inl (cI, 24, .inl (fun c => nI (rg c)))), (k4, .inl (cI, 16, .inl (fun c => nI (ol c)))), (k5, .inl (cL, 32, .inr (.inl (fun c => lN (u c)))))] H := hP
  have hD : va_D A [(x0, .inl (cL, 1, .inr (.inl (fun c => lN (ou c))))), (s0, .inr (0, [.ref m0, .ref c0, .ref e0, .ref q1, .long (lN vr)])), (c0, .inr (2, [.ref k1, .ref k2, .ref k3, .ref k4, .ref k5, .int (nI cc), .int (nI gc), .int (nI oc)])), (k1, .inl (cI, 24, .inl (fun c => nI (kd c)))), (k2, .inl (cI, 24, .inl (fun c => nI (lf c)))), (k3, .inl (cI, 24, .inl (fun c => nI (rg c)))), (k4, .inl (cI, 16, .inl (fun c => nI (ol c)))), (k5, .inl (cL, 32, .inr (.inl (fun c => lN (u c)))))] := hD
  subst hq
  refine lv_i2l (v := lN (ci_a ol (ci_t cc kd lf rg pt none (cc + gc)) oc)) hx hb d_L_answer_8 (nI_l (by have := ci_a_lt ol (ci_t cc kd lf rg pt none (cc + gc)) oc; have h16 : 2 ^ oc ≤ 2 ^ 16 := Nat.pow_le_pow_right (by decide) hk.2.2.1; omega)) ?_
  refine va_last (D := (dC, dI)) (i := (nI 0)) (x := (lN (ci_a ol (ci_t cc kd lf rg pt none (cc + gc)) oc))) hx hb hK hP hD hS 0 1 rfl rfl (vp_in_nI (by decide) (by decide)) d_L_answer_9 (fun H locs hP hD hS => ?_)
  rw [nI_clamp (by decide), updL_lN] at hP hD
  have hP : va_P (dC, dI) classes [(x0, .inl (cL, 1, .inr (.inl (fun c => lN ((va_up ou 0 (ci_a ol (ci_t cc kd lf rg pt none (cc + gc)) oc)) c))))), (s0, .inr (0, [.ref m0, .ref c0, .ref e0, .ref q1, .long (lN vr)])), (c0, .inr (2, [.ref k1, .ref k2, .ref k3, .ref k4, .ref k5, .int (nI cc), .int (nI gc), .int (nI oc)])), (k1, .inl (cI, 24, .inl (fun c => nI (kd c)))), (k2, .inl (cI, 24, .inl (fun c => nI (lf c)))), (k3, .inl (cI, 24, .inl (fun c => nI (rg c)))), (k4, .inl (cI, 16, .inl (fun c => nI (ol c)))), (k5, .inl (cL, 32, .inr (.inl (fun c => lN (u c)))))] H := hP
  have hD : va_D A [(x0, .inl (cL, 1, .inr (.inl (fun c => lN ((va_up ou 0 (ci_a ol (ci_t cc kd lf rg pt none (cc + gc)) oc)) c))))), (s0, .inr (0, [.ref m0, .ref c0, .ref e0, .ref q1, .long (lN vr)])), (c0, .inr (2, [.ref k1, .ref k2, .ref k3, .ref k4, .ref k5, .int (nI cc), .int (nI gc), .int (nI oc)])), (k1, .inl (cI, 24, .inl (fun c => nI (kd c)))), (k2, .inl (cI, 24, .inl (fun c => nI (lf c)))), (k3, .inl (cI, 24, .inl (fun c => nI (rg c)))), (k4, .inl (cI, 16, .inl (fun c => nI (ol c)))), (k5, .inl (cL, 32, .inr (.inl (fun c => lN (u c)))))] := hD
  refine lv_goto (tgt := 17) hx hb d_L_answer_10 (by decide) ?_
  refine lv_iconst (v := nI 0) hx hb d_L_answer_17 (by decide) ?_
  have hP := hP.sub (ws' := [(s0, .inr (0, [.ref m0, .ref c0, .ref e0, .ref q1, .long (lN vr)])), (c0, .inr (2, [.ref k1, .ref k2, .ref k3, .ref k4, .ref k5, .int (nI cc), .int (nI gc), .int (nI oc)])), (k1, .inl (cI, 24, .inl (fun c => nI (kd c)))), (k2, .inl (cI, 24, .inl (fun c => nI (lf c)))), (k3, .inl (cI, 24, .inl (fun c => nI (rg c)))), (k4, .inl (cI, 16, .inl (fun c => nI (ol c)))), (k5, .inl (cL, 32, .inr (.inl (fun c => lN (u c))))), (x0, .inl (cL, 1, .inr (.inl (fun c => lN ((va_up ou 0 (ci_a ol (ci_t cc kd lf rg pt none (cc + gc)) oc)) c)))))]) [1, 2, 3, 4, 5, 6, 7, 0] rfl
  have hD := hD.sub (ws' := [(s0, .inr (0, [.ref m0, .ref c0, .ref e0, .ref q1, .long (lN vr)])), (c0, .inr (2, [.ref k1, .ref k2, .ref k3, .ref k4, .ref k5, .int (nI cc), .int (nI gc), .int (nI oc)])), (k1, .inl (cI, 24, .inl (fun c => nI (kd c)))), (k2, .inl (cI, 24, .inl (fun c => nI (lf c)))), (k3, .inl (cI, 24, .inl (fun c => nI (rg c)))), (k4, .inl (cI, 16, .inl (fun c => nI (ol c)))), (k5, .inl (cL, 32, .inr (.inl (fun c => lN (u c))))), (x0, .inl (cL, 1, .inr (.inl (fun c => lN ((va_up ou 0 (ci_a ol (ci_t cc kd lf rg pt none (cc + gc)) oc)) c)))))]) [1, 2, 3, 4, 5, 6, 7, 0] (by decide) rfl
  exact W.iret (v := nI 0) hx hb hr (fun t9 ht hW => ⟨⟨nI 0, u, rfl, rfl, by rw [ht]; exact hP, va_K.moved hW.alike hK, hD⟩, hS.F ht⟩) hS.2.2 d_L_answer_18
set_option maxHeartbeats 4000000 in
set_option maxRecDepth 100000 in
theorem c_L_sessionN (l : Launch) (dC : Nat → ClassId) (dI : Nat → Nat → Nat) (cI cL : ClassId) (sz : Nat) (s0 m0 c0 e0 q1 : Nat) (vr : Nat) (p n : Nat) (hm : md p n) (k1 k2 k3 k4 k5 : Nat) (cc gc oc : Nat) (kd lf rg ol : Nat → Nat) (hk : ck cc gc oc kd lf rg ol) (vv : Nat → Nat) (mk : Nat → Nat) (hmk : ∀ c, c < cc → mk c < 2 ^ 64) (hvr : vr < 2 ^ n) (m : Nat) (hmm : m ≤ 256) (x0 : Nat) (ou : Nat → Nat) : Met l y_L_session w_L_session ({ frames := 6, cells := 0, slots := 0, locals := 141 } : Room) (va_Pc [.ref s0, .int (nI m), .int (-1), .ref x0] (wq_W (dC, dI) classes [(s0, .inr (0, [.ref m0, .ref c0, .ref e0, .ref q1, .long (lN vr)])), (m0, .inr (1, [.long (lN p), .int (nI n), .long (lN (px_r p 2))])), (c0, .inr (2, [.ref k1, .ref k2, .ref k3, .ref k4, .ref k5, .int (nI cc), .int (nI gc), .int (nI oc)])), (k1, .inl (cI, 24, .inl (fun c => nI (kd c)))), (k2, .inl (cI, 24, .inl (fun c => nI (lf c)))), (k3, .inl (cI, 24, .inl (fun c => nI (rg c)))), (k4, .inl (cI, 16, .inl (fun c => nI (ol c)))), (k5, .inl (cL, 32, .inr (.inl (fun c => lN (vv c))))), (q1, .inl (cL, 8, .inr (.inl (fun c => lN (mk c))))), (x0, .inl (cL, 1, .inr (.inl (fun c => lN (ou c)))))] [(cI, .int), (cL, .long)] sz)) (va_Qi (fun (r : Int32) (u : Nat → Nat) => r = nI 0) (fun (u : Nat → Nat) t => wq_B (dC, dI) classes [(cI, .int), (cL, .long)] (va_A [(s0, .inr (0, [.ref m0, .ref c0, .ref e0, .ref q1, .long (lN vr)])), (m0, .inr (1, [.long (lN p), .int (nI n), .long (lN (px_r p 2))])), (c0, .inr (2, [.ref k1, .ref k2, .ref k3, .ref k4, .ref k5, .int (nI cc), .int (nI gc), .int (nI oc)])), (k1, .inl (cI, 24, .inl (fun c => nI (kd c)))), (k2, .inl (cI, 24, .inl (fun c => nI (lf c)))), (k3, .inl (cI, 24, .inl (fun c => nI (rg c)))), (k4, .inl (cI, 16, .inl (fun c => nI (ol c)))), (k5, .inl (cL, 32, .inr (.inl (fun c => lN (vv c))))), (q1, .inl (cL, 8, .inr (.inl (fun c => lN (mk c))))), (x0, .inl (cL, 1, .inr (.inl (fun c => lN (ou c)))))] sz) [(s0, .inr (0, [.ref m0, .ref c0, .ref e0, .ref q1, .long (lN vr)])), (m0, .inr (1, [.long (lN p), .int (nI n), .long (lN (px_r p 2))])), (c0, .inr (2, [.ref k1, .ref k2, .ref k3, .ref k4, .ref k5, .int (nI cc), .int (nI gc), .int (nI oc)])), (k1, .inl (cI, 24, .inl (fun c => nI (kd c)))), (k2, .inl (cI, 24, .inl (fun c => nI (lf c)))), (k3, .inl (cI, 24, .inl (fun c => nI (rg c)))), (k4, .inl (cI, 16, .inl (fun c => nI (ol c)))), (k5, .inl (cL, 32, .inr (.inl (fun c => lN (u c))))), (q1, .inl (cL, 8, .inr (.inl (fun c => lN (mk c))))), (x0, .inl (cL, 1, .inr (.inl (fun c => lN ((va_up ou 0 (sg p (fun t => fa p vr mk cc gc oc kd lf rg ol none t) m)) c)))))] t) (va_A [(s0, .inr (0, [.ref m0, .ref c0, .ref e0, .ref q1, .long (lN vr)])), (m0, .inr (1, [.long (lN p), .int (nI n), .long (lN (px_r p 2))])), (c0, .inr (2, [.ref k1, .ref k2, .ref k3, .ref k4, .ref k5, .int (nI cc), .int (nI gc), .int (nI oc)])), (k1, .inl (cI, 24, .inl (fun c => nI (kd c)))), (k2, .inl (cI, 24, .inl (fun c => nI (lf c)))), (k3, .inl (cI, 24, .inl (fun c => nI (rg c)))), (k4, .inl (cI, 16, .inl (fun c => nI (ol c)))), (k5, .inl (cL, 32, .inr (.inl (fun c => lN (vv c))))), (q1, .inl (cL, 8, .inr (.inl (fun c => lN (mk c))))), (x0, .inl (cL, 1, .inr (.inl (fun c => lN (ou c)))))] sz)) 0 0 (va_A [(s0, .inr (0, [.ref m0, .ref c0, .ref e0, .ref q1, .long (lN vr)])), (m0, .inr (1, [.long (lN p), .int (nI n), .long (lN (px_r p 2))])), (c0, .inr (2, [.ref k1, .ref k2, .ref k3, .ref k4, .ref k5, .int (nI cc), .int (nI gc), .int (nI oc)])), (k1, .inl (cI, 24, .inl (fun c => nI (kd c)))), (k2, .inl (cI, 24, .inl (fun c => nI (lf c)))), (k3, .inl (cI, 24, .inl (fun c => nI (rg c)))), (k4, .inl (cI, 16, .inl (fun c => nI (ol c)))), (k5, .inl (cL, 32, .inr (.inl (fun c => lN (vv c))))), (q1, .inl (cL, 8, .inr (.inl (fun c => lN (mk c))))), (x0, .inl (cL, 1, .inr (.inl (fun c => lN (ou c)))))] sz) := by
  refine mt_ofWH (cc := b_L_session) (maxL := 5) (ret := (Option.some Jvm.ClassFile.FieldType.int)) (hh := [((0 : Nat), (9 : Nat), (12 : Nat), (38 : Nat)), ((0 : Nat), (9 : Nat), (16 : Nat), (13 : Nat))]) (by decide) rfl ?_
  intro pg en st mm ar bw me co s₁ B hml htab hv
  obtain ⟨rfl, hsz, hP, hK, hD0, hN⟩ := hv
  have hx := B.exec
  have hb := B.bytes
  have hr := B.returns
  have hlocks := B.notSynchronized
  have hts0 := atoms_spec (ws := w_L_session) B.pre
  have hts : ∀ w ∈ gw, w.before _ st = true := fun w h => hts0 w (List.mem_cons_of_mem _ h)
  have hown : st.vm.findClass R_L = some mm.cls := findClass_of_methodNamed B.named
  subst hsz
  have hD := hD0.self (sz := st.heap.size)
  generalize hAe : va_A [(s0, .inr (0, [.ref m0, .ref c0, .ref e0, .ref q1, .long (lN vr)])), (m0, .inr (1, [.long (lN p), .int (nI n), .long (lN (px_r p 2))])), (c0, .inr (2, [.ref k1, .ref k2, .ref k3, .ref k4, .ref k5, .int (nI cc), .int (nI gc), .int (nI oc)])), (k1, .inl (cI, 24, .inl (fun c => nI (kd c)))), (k2, .inl (cI, 24, .inl (fun c => nI (lf c)))), (k3, .inl (cI, 24, .inl (fun c => nI (rg c)))), (k4, .inl (cI, 16, .inl (fun c => nI (ol c)))), (k5, .inl (cL, 32, .inr (.inl (fun c => lN (vv c))))), (q1, .inl (cL, 8, .inr (.inl (fun c => lN (mk c))))), (x0, .inl (cL, 1, .inr (.inl (fun c => lN (ou c)))))] st.heap.size = A at hD ⊢
  have hA : ∀ q : Nat, st.heap.size ≤ q → A q := fun q h => by rw [← hAe]; exact Or.inr h
  have hS : va_S A st.heap st.heap [] := va_S.rf
  have hl := lv_entry ([.ref s0, .int (nI m), .int (-1), .ref x0]) (n := 5) (Nat.le_of_ble_eq_true rfl)
  rw [lg_entry_eq]
  generalize (lg_sl ([.ref s0, .int (nI m), .int (-1), .ref x0]) ++ List.replicate (5 - (lg_sl ([.ref s0, .int (nI m), .int (-1), .ref x0])).length) Slot.unset).toArray = ls at hl ⊢
  have hl : lv_has ls 5 [(0, .ref s0), (1, .int (nI m)), (2, .int (-1)), (3, .ref x0)] := hl
  refine lv_aload_n hx hb d_L_session_0 rfl (lv_at hl 3 rfl) ?_
  refine lv_iconst (v := nI 0) hx hb d_L_session_1 (by decide) ?_
  refine lv_aload_n hx hb d_L_session_2 rfl (lv_at hl 0 rfl) ?_
  refine lv_iload_n hx hb d_L_session_3 rfl (lv_at hl 1 rfl) ?_
  refine lv_iload_n hx hb d_L_session_4 rfl (lv_at hl 2 rfl) ?_
  refine wq_l (wr := [(x0, .inl (cL, 1, .inr (.inl (fun c => lN (ou c)))))]) (va_runV (As := [.int (nI m), .int (-1)]) (rest := [.int (nI 0), .ref x0]) ⟨hx, hb, hml, hown, hts⟩ (c_S_sessionN l dC dI cI cL st.heap.size s0 m0 c0 e0 q1 vr p n hm k1 k2 k3 k4 k5 cc gc oc kd lf rg ol hk vv mk hmk hvr m hmm) (cwV 2 hts (gi_V kw_455 kw_456 kw_457 kw_1 gi_S_session) rfl rfl rfl ⟨rfl, by decide, by decide, by decide⟩ ⟨Nat.le_of_ble_eq_true rfl, Nat.le_of_ble_eq_true rfl⟩) (wq_preVW hP hD hK hN [0, 1, 2, 3, 4, 5, 6, 7, 8] rfl rfl (q0 := 0) (ci := 0) rfl rfl rfl) rfl rfl hl.1 rfl (lv_room (Nat.le_of_ble_eq_true rfl)) d_L_session_5 ⟨Nat.le_of_ble_eq_true rfl, Nat.le_of_ble_eq_true rfl⟩) hP hD hS hA [0, 1, 2, 3, 4, 5, 6, 7, 8] [9] rfl rfl rfl (by decide) (fun r u H locs hq hP hD hS hz => ?_)
  have hP : va_P (dC, dI) classes [(x0, .inl (cL, 1, .inr (.inl (fun c => lN (ou c))))), (s0, .inr (0, [.ref m0, .ref c0, .ref e0, .ref q1, .long (lN vr)])), (m0, .inr (1, [.long (lN p), .int (nI n), .long (lN (px_r p 2))])), (c0, .inr (2, [.ref k1, .ref k2, .ref k3, .ref k4, .ref k5, .int (nI cc), .int (nI gc), .int (nI oc)])), (k1, .inl (cI, 24, .inl (fun c => nI (kd c)))), (k2, .inl (cI, 24, .inl (fun c => nI (lf c)))), (k3, .inl (cI, 24, .inl (fun c => nI (rg c)))), (k4, .inl (cI, 16, .inl (fun c => nI (ol c)))), (k5, .inl (cL, 32, .inr (.inl (fun c => lN (u c))))), (q1, .inl (cL, 8, .inr (.inl (fun c => lN (mk c)))))] H := hP
  have hD : va_D A [(x0, .inl (cL, 1, .inr (.inl (fun c => lN (ou c))))), (s0, .inr (0, [.ref m0, .ref c0, .ref e0, .ref q1, .long (lN vr)])), (m0, .inr (1, [.long (lN p), .int (nI n), .long (lN (px_r p 2))])), (c0, .inr (2, [.ref k1, .ref k2, .ref k3, .ref k4, .ref k5, .int (nI cc), .int (nI gc), .int (nI oc)])), (k1, .inl (cI, 24, .inl (fun c => nI (kd c)))), (k2, .inl (cI, 24, .inl (fun c => nI (lf c)))), (k3, .inl (cI, 24, .inl (fun c => nI (rg c)))), (k4, .inl (cI, 16, .inl (fun c => nI (ol c)))), (k5, .inl (cL, 32, .inr (.inl (fun c => lN (u c))))), (q1, .inl (cL, 8, .inr (.inl (fun c => lN (mk c)))))] := hD
  subst hq
  refine va_last (D := (dC, dI)) (i := (nI 0)) (x := (lN (sg p (fun t => fa p vr mk cc gc oc kd lf rg ol none t) m))) hx hb hK hP hD hS 0 1 rfl rfl (vp_in_nI (by decide) (by decide)) d_L_session_8 (fun H locs hP hD hS => ?_)
  rw [nI_clamp (by decide), updL_lN] at hP hD
  have hP : va_P (dC, dI) classes [(x0, .inl (cL, 1, .inr (.inl (fun c => lN ((va_up ou 0 (sg p (fun t => fa p vr mk cc gc oc kd lf rg ol none t) m)) c))))), (s0, .inr (0, [.ref m0, .ref c0, .ref e0, .ref q1, .long (lN vr)])), (m0, .inr (1, [.long (lN p), .int (nI n), .long (lN (px_r p 2))])), (c0, .inr (2, [.ref k1, .ref k2, .ref k3, .ref k4, .ref k5, .int (nI cc), .int (nI gc), .int (nI oc)])), (k1, .inl (cI, 24, .inl (fun c => nI (kd c)))), (k2, .inl (cI, 24, .inl (fun c => nI (lf c)))), (k3, .inl (cI, 24, .inl (fun c => nI (rg c)))), (k4, .inl (cI, 16, .inl (fun c => nI (ol c)))), (k5, .inl (cL, 32, .inr (.inl (fun c => lN (u c))))), (q1, .inl (cL, 8, .inr (.inl (fun c => lN (mk c)))))] H := hP
  have hD : va_D A [(x0, .inl (cL, 1, .inr (.inl (fun c => lN ((va_up ou 0 (sg p (fun t => fa p vr mk cc gc oc kd lf rg ol none t) m)) c))))), (s0, .inr (0, [.ref m0, .ref c0, .ref e0, .ref q1, .long (lN vr)])), (m0, .inr (1, [.long (lN p), .int (nI n), .long (lN (px_r p 2))])), (c0, .inr (2, [.ref k1, .ref k2, .ref k3, .ref k4, .ref k5, .int (nI cc), .int (nI gc), .int (nI oc)])), (k1, .inl (cI, 24, .inl (fun c => nI (kd c)))), (k2, .inl (cI, 24, .inl (fun c => nI (lf c)))), (k3, .inl (cI, 24, .inl (fun c => nI (rg c)))), (k4, .inl (cI, 16, .inl (fun c => nI (ol c)))), (k5, .inl (cL, 32, .inr (.inl (fun c => lN (u c))))), (q1, .inl (cL, 8, .inr (.inl (fun c => lN (mk c)))))] := hD
  refine lv_goto (tgt := 20) hx hb d_L_session_9 (by decide) ?_
  refine lv_iconst (v := nI 0) hx hb d_L_session_20 (by decide) ?_
  have hP := hP.sub (ws' := [(s0, .inr (0, [.ref m0, .ref c0, .ref e0, .ref q1, .long (lN vr)])), (m0, .inr (1, [.long (lN p), .int (nI n), .long (lN (px_r p 2))])), (c0, .inr (2, [.ref k1, .ref k2, .ref k3, .ref k4, .ref k5, .int (nI cc), .int (nI gc), .int (nI oc)])), (k1, .inl (cI, 24, .inl (fun c => nI (kd c)))), (k2, .inl (cI, 24, .inl (fun c => nI (lf c)))), (k3, .inl (cI, 24, .inl (fun c => nI (rg c)))), (k4, .inl (cI, 16, .inl (fun c => nI (ol c)))), (k5, .inl (cL, 32, .inr (.inl (fun c => lN (u c))))), (q1, .inl (cL, 8, .inr (.inl (fun c => lN (mk c))))), (x0, .inl (cL, 1, .inr (.inl (fun c => lN ((va_up ou 0 (sg p (fun t => fa p vr mk cc gc oc kd lf rg ol none t) m)) c)))))]) [1, 2, 3, 4, 5, 6, 7, 8, 9, 0] rfl
  have hD := hD.sub (ws' := [(s0, .inr (0, [.ref m0, .ref c0, .ref e0, .ref q1, .long (lN vr)])), (m0, .inr (1, [.long (lN p), .int (nI n), .long (lN (px_r p 2))])), (c0, .inr (2, [.ref k1, .ref k2, .ref k3, .ref k4, .ref k5, .int (nI cc), .int (nI gc), .int (nI oc)])), (k1, .inl (cI, 24, .inl (fun c => nI (kd c)))), (k2, .inl (cI, 24, .inl (fun c => nI (lf c)))), (k3, .inl (cI, 24, .inl (fun c => nI (rg c)))), (k4, .inl (cI, 16, .inl (fun c => nI (ol c)))), (k5, .inl (cL, 32, .inr (.inl (fun c => lN (u c))))), (q1, .inl (cL, 8, .inr (.inl (fun c => lN (mk c))))), (x0, .inl (cL, 1, .inr (.inl (fun c => lN ((va_up ou 0 (sg p (fun t => fa p vr mk cc gc oc kd lf rg ol none t) m)) c)))))]) [1, 2, 3, 4, 5, 6, 7, 8, 9, 0] (by decide) rfl
  exact W.iret (v := nI 0) hx hb hr (fun t9 ht hW => ⟨⟨nI 0, u, rfl, rfl, by rw [ht]; exact hP, va_K.moved hW.alike hK, hD⟩, hS.F ht⟩) hS.2.2 d_L_session_21
set_option maxHeartbeats 4000000 in
set_option maxRecDepth 100000 in
theorem c_L_answerF (l : Launch) (dC : Nat → ClassId) (dI : Nat → Nat → Nat) (cI cL : ClassId) (sz : Nat) (s0 m0 c0 e0 q1 : Nat) (vr : Nat) (k1 k2 k3 k4 k5 : Nat) (cc gc oc : Nat) (kd lf rg ol : Nat → Nat) (hk : ck cc gc oc kd lf rg ol) (vv : Nat → Nat) (pt : Nat) (hpt : pt < 2 ^ 32) (ff : Nat) (hff : ff < 2 * (cc + gc)) (x0 : Nat) (ou : Nat → Nat) : Met l y_L_answer w_L_answer ({ frames := 5, cells := 0, slots := 0, locals := 104 } : Room) (va_Pc [.ref s0, .int (nI pt), .int (nI ff), .ref x0] (wq_W (dC, dI) classes [(s0, .inr (0, [.ref m0, .ref c0, .ref e0, .ref q1, .long (lN vr)])), (c0, .inr (2, [.ref k1, .ref k2, .ref k3, .ref k4, .ref k5, .int (nI cc), .int (nI gc), .int (nI oc)])), (k1, .inl (cI, 24, .inl (fun c => nI (kd c)))), (k2, .inl (cI, 24, .inl (fun c => nI (lf c)))), (k3, .inl (cI, 24, .inl (fun c => nI (rg c)))), (k4, .inl (cI, 16, .inl (fun c => nI (ol c)))), (k5, .inl (cL, 32, .inr (.inl (fun c => lN (vv c))))), (x0, .inl (cL, 1, .inr (.inl (fun c => lN (ou c)))))] [(cI, .int), (cL, .long)] sz)) (va_Qi (fun (r : Int32) (u : Nat → Nat) => r = nI 0) (fun (u : Nat → Nat) t => wq_B (dC, dI) classes [(cI, .int), (cL, .long)] (va_A [(s0, .inr (0, [.ref m0, .ref c0, .ref e0, .ref q1, .long (lN vr)])), (c0, .inr (2, [.ref k1, .ref k2, .ref k3, .ref k4, .ref k5, .int (nI cc), .int (nI gc), .int (nI oc)])), (k1, .inl (cI, 24, .inl (fun c => nI (kd c)))), (k2, .inl (cI, 24, .inl (fun c => nI (lf c)))), (k3, .inl (cI, 24, .inl (fun c => nI (rg c)))), (k4, .inl (cI, 16, .inl (fun c => nI (ol c)))), (k5, .inl (cL, 32, .inr (.inl (fun c => lN (vv c))))), (x0, .inl (cL, 1, .inr (.inl (fun c => lN (ou c)))))] sz) [(s0, .inr (0, [.ref m0, .ref c0, .ref e0, .ref q1, .long (lN vr)])), (c0, .inr (2, [.ref k1, .ref k2, .ref k3, .ref k4, .ref k5, .int (nI cc), .int (nI gc), .int (nI oc)])), (k1, .inl (cI, 24, .inl (fun c => nI (kd c)))), (k2, .inl (cI, 24, .inl (fun c => nI (lf c)))), (k3, .inl (cI, 24, .inl (fun c => nI (rg c)))), (k4, .inl (cI, 16, .inl (fun c => nI (ol c)))), (k5, .inl (cL, 32, .inr (.inl (fun c => lN (u c))))), (x0, .inl (cL, 1, .inr (.inl (fun c => lN ((va_up ou 0 (ci_a ol (ci_t cc kd lf rg pt (some ff) (cc + gc)) oc)) c)))))] t) (va_A [(s0, .inr (0, [.ref m0, .ref c0, .ref e0, .ref q1, .long (lN vr)])), (c0, .inr (2, [.ref k1, .ref k2, .ref k3, .ref k4, .ref k5, .int (nI cc), .int (nI gc), .int (nI oc)])), (k1, .inl (cI, 24, .inl (fun c => nI (kd c)))), (k2, .inl (cI, 24, .inl (fun c => nI (lf c)))), (k3, .inl (cI, 24, .inl (fun c => nI (rg c)))), (k4, .inl (cI, 16, .inl (fun c => nI (ol c)))), (k5, .inl (cL, 32, .inr (.inl (fun c => lN (vv c))))), (x0, .inl (cL, 1, .inr (.inl (fun c => lN (ou c)))))] sz)) 0 0 (va_A [(s0, .inr (0, [.ref m0, .ref c0, .ref e0, .ref q1, .long (lN vr)])), (c0, .inr (2, [.ref k1, .ref k2, .ref k3, .ref k4, .ref k5, .int (nI cc), .int (nI gc), .int (nI oc)])), (k1, .inl (cI, 24, .inl (fun c => nI (kd c)))), (k2, .inl (cI, 24, .inl (fun c => nI (lf c)))), (k3, .inl (cI, 24, .inl (fun c => nI (rg c)))), (k4, .inl (cI, 16, .inl (fun c => nI (ol c)))), (k5, .inl (cL, 32, .inr (.inl (fun c => lN (vv c))))), (x0, .inl (cL, 1, .inr (.inl (fun c => lN (ou c)))))] sz) := by
  refine mt_ofWH (cc := b_L_answer) (maxL := 5) (ret := (Option.some Jvm.ClassFile.FieldType.int)) (hh := [((0 : Nat), (10 : Nat), (13 : Nat), (38 : Nat))]) (by decide) rfl ?_
  intro pg en st mm ar bw me co s₁ B hml htab hv
  obtain ⟨rfl, hsz, hP, hK, hD0, hN⟩ := hv
  have hx := B.exec
  have hb := B.bytes
  have hr := B.returns
  have hlocks := B.notSynchronized
  have hts0 := atoms_spec (ws := w_L_answer) B.pre
  have hts : ∀ w ∈ gw, w.before _ st = true := fun w h => hts0 w (List.mem_cons_of_mem _ h)
  have hown : st.vm.findClass R_L = some mm.cls := findClass_of_methodNamed B.named
  subst hsz
  have hD := hD0.self (sz := st.heap.size)
  generalize hAe : va_A [(s0, .inr (0, [.ref m0, .ref c0, .ref e0, .ref q1, .long (lN vr)])), (c0, .inr (2, [.ref k1, .ref k2, .ref k3, .ref k4, .ref k5, .int (nI cc), .int (nI gc), .int (nI oc)])), (k1, .inl (cI, 24, .inl (fun c => nI (kd c)))), (k2, .inl (cI, 24, .inl (fun c => nI (lf c)))), (k3, .inl (cI, 24, .inl (fun c => nI (rg c)))), (k4, .inl (cI, 16, .inl (fun c => nI (ol c)))), (k5, .inl (cL, 32, .inr (.inl (fun c => lN (vv c))))), (x0, .inl (cL, 1, .inr (.inl (fun c => lN (ou c)))))] st.heap.size = A at hD ⊢
  have hA : ∀ q : Nat, st.heap.size ≤ q → A q := fun q h => by rw [← hAe]; exact Or.inr h
  have hS : va_S A st.heap st.heap [] := va_S.rf
  have hl := lv_entry ([.ref s0, .int (nI pt), .int (nI ff), .ref x0]) (n := 5) (Nat.le_of_ble_eq_true rfl)
  rw [lg_entry_eq]
  generalize (lg_sl ([.ref s0, .int (nI pt), .int (nI ff), .ref x0]) ++ List.replicate (5 - (lg_sl ([.ref s0, .int (nI pt), .int (nI ff), .ref x0])).length) Slot.unset).toArray = ls at hl ⊢
  have hl : lv_has ls 5 [(0, .ref s0), (1, .int (nI pt)), (2, .int (nI ff)), (3, .ref x0)] := hl
  refine lv_aload_n hx hb d_L_answer_0 rfl (lv_at hl 3 rfl) ?_
  refine lv_iconst (v := nI 0) hx hb d_L_answer_1 (by decide) ?_
  refine lv_aload_n hx hb d_L_answer_2 rfl (lv_at hl 0 rfl) ?_
  refine lv_iload_n hx hb d_L_answer_3 rfl (lv_at hl 1 rfl) ?_
  refine lv_iload_n hx hb d_L_answer_4 rfl (lv_at hl 2 rfl) ?_
  refine wq_i (wr := [(x0, .inl (cL, 1, .inr (.inl (fun c => lN (ou c)))))]) (va_runV (As := [.int (nI pt), .int (nI ff)]) (rest := [.int (nI 0), .ref x0]) ⟨hx, hb, hml, hown, hts⟩ (c_S_answerF l dC dI cI cL st.heap.size s0 m0 c0 e0 q1 vr k1 k2 k3 k4 k5 cc gc oc kd lf rg ol hk vv pt hpt ff hff) (cwV 2 hts (gi_V kw_412 kw_413 kw_414 kw_1 gi_S_answer) rfl rfl rfl ⟨rfl, by decide, by decide, by decide⟩ ⟨Nat.le_of_ble_eq_true rfl, Nat.le_of_ble_eq_true rfl⟩) (wq_preVW hP hD hK hN [0, 1, 2, 3, 4, 5, 6] rfl rfl (q0 := 0) (ci := 0) rfl rfl rfl) rfl rfl hl.1 rfl (lv_room (Nat.le_of_ble_eq_true rfl)) d_L_answer_5 ⟨Nat.le_of_ble_eq_true rfl, Nat.le_of_ble_eq_true rfl⟩) hP hD hS hA [0, 1, 2, 3, 4, 5, 6] [7] rfl rfl rfl (by decide) (fun r u H locs hq hP hD hS hz => ?_)
  have hP : va_P (dC, dI) classes [(x0, .inl (cL, 1, .inr (.inl (fun c => lN (ou c))))), (s0, .inr (0, [.ref m0, .ref c0, .ref e0, .ref q1, .long (lN vr)])), (c0, .inr (2, [.ref k1, .ref k2, .ref k3, .ref k4, .ref k5, .int (nI cc), .int (nI gc), .int (nI oc)])), (k1, .inl (cI, 24, .inl (fun c => nI (kd c)))), (k2, .inl (cI, 24, .inl (fun c => nI (lf c)))), (k3, .inl (cI, 24, .inl (fun c => nI (rg c)))), (k4, .inl (cI, 16, .inl (fun c => nI (ol c)))), (k5, .inl (cL, 32, .inr (.inl (fun c => lN (u c)))))] H := hP
  have hD : va_D A [(x0, .inl (cL, 1, .inr (.inl (fun c => lN (ou c))))), (s0, .inr (0, [.ref m0, .ref c0, .ref e0, .ref q1, .long (lN vr)])), (c0, .inr (2, [.ref k1, .ref k2, .ref k3, .ref k4, .ref k5, .int (nI cc), .int (nI gc), .int (nI oc)])), (k1, .inl (cI, 24, .inl (fun c => nI (kd c)))), (k2, .inl (cI, 24, .inl (fun c => nI (lf c)))), (k3, .inl (cI, 24, .inl (fun c => nI (rg c)))), (k4, .inl (cI, 16, .inl (fun c => nI (ol c)))), (k5, .inl (cL, 32, .inr (.inl (fun c => lN (u c)))))] := hD
  subst hq
  refine lv_i2l (v := lN (ci_a ol (ci_t cc kd lf rg pt (some ff) (cc + gc)) oc)) hx hb d_L_answer_8 (nI_l (by have := ci_a_lt ol (ci_t cc kd lf rg pt (some ff) (cc + gc)) oc; have h16 : 2 ^ oc ≤ 2 ^ 16 := Nat.pow_le_pow_right (by decide) hk.2.2.1; omega)) ?_
  refine va_last (D := (dC, dI)) (i := (nI 0)) (x := (lN (ci_a ol (ci_t cc kd lf rg pt (some ff) (cc + gc)) oc))) hx hb hK hP hD hS 0 1 rfl rfl (vp_in_nI (by decide) (by decide)) d_L_answer_9 (fun H locs hP hD hS => ?_)
  rw [nI_clamp (by decide), updL_lN] at hP hD
  have hP : va_P (dC, dI) classes [(x0, .inl (cL, 1, .inr (.inl (fun c => lN ((va_up ou 0 (ci_a ol (ci_t cc kd lf rg pt (some ff) (cc + gc)) oc)) c))))), (s0, .inr (0, [.ref m0, .ref c0, .ref e0, .ref q1, .long (lN vr)])), (c0, .inr (2, [.ref k1, .ref k2, .ref k3, .ref k4, .ref k5, .int (nI cc), .int (nI gc), .int (nI oc)])), (k1, .inl (cI, 24, .inl (fun c => nI (kd c)))), (k2, .inl (cI, 24, .inl (fun c => nI (lf c)))), (k3, .inl (cI, 24, .inl (fun c => nI (rg c)))), (k4, .inl (cI, 16, .inl (fun c => nI (ol c)))), (k5, .inl (cL, 32, .inr (.inl (fun c => lN (u c)))))] H := hP
  have hD : va_D A [(x0, .inl (cL, 1, .inr (.inl (fun c => lN ((va_up ou 0 (ci_a ol (ci_t cc kd lf rg pt (some ff) (cc + gc)) oc)) c))))), (s0, .inr (0, [.ref m0, .ref c0, .ref e0, .ref q1, .long (lN vr)])), (c0, .inr (2, [.ref k1, .ref k2, .ref k3, .ref k4, .ref k5, .int (nI cc), .int (nI gc), .int (nI oc)])), (k1, .inl (cI, 24, .inl (fun c => nI (kd c)))), (k2, .inl (cI, 24, .inl (fun c => nI (lf c)))), (k3, .inl (cI, 24, .inl (fun c => nI (rg c)))), (k4, .inl (cI, 16, .inl (fun c => nI (ol c)))), (k5, .inl (cL, 32, .inr (.inl (fun c => lN (u c)))))] := hD
  refine lv_goto (tgt := 17) hx hb d_L_answer_10 (by decide) ?_
  refine lv_iconst (v := nI 0) hx hb d_L_answer_17 (by decide) ?_
  have hP := hP.sub (ws' := [(s0, .inr (0, [.ref m0, .ref c0, .ref e0, .ref q1, .long (lN vr)])), (c0, .inr (2, [.ref k1, .ref k2, .ref k3, .ref k4, .ref k5, .int (nI cc), .int (nI gc), .int (nI oc)])), (k1, .inl (cI, 24, .inl (fun c => nI (kd c)))), (k2, .inl (cI, 24, .inl (fun c => nI (lf c)))), (k3, .inl (cI, 24, .inl (fun c => nI (rg c)))), (k4, .inl (cI, 16, .inl (fun c => nI (ol c)))), (k5, .inl (cL, 32, .inr (.inl (fun c => lN (u c))))), (x0, .inl (cL, 1, .inr (.inl (fun c => lN ((va_up ou 0 (ci_a ol (ci_t cc kd lf rg pt (some ff) (cc + gc)) oc)) c)))))]) [1, 2, 3, 4, 5, 6, 7, 0] rfl
  have hD := hD.sub (ws' := [(s0, .inr (0, [.ref m0, .ref c0, .ref e0, .ref q1, .long (lN vr)])), (c0, .inr (2, [.ref k1, .ref k2, .ref k3, .ref k4, .ref k5, .int (nI cc), .int (nI gc), .int (nI oc)])), (k1, .inl (cI, 24, .inl (fun c => nI (kd c)))), (k2, .inl (cI, 24, .inl (fun c => nI (lf c)))), (k3, .inl (cI, 24, .inl (fun c => nI (rg c)))), (k4, .inl (cI, 16, .inl (fun c => nI (ol c)))), (k5, .inl (cL, 32, .inr (.inl (fun c => lN (u c))))), (x0, .inl (cL, 1, .inr (.inl (fun c => lN ((va_up ou 0 (ci_a ol (ci_t cc kd lf rg pt (some ff) (cc + gc)) oc)) c)))))]) [1, 2, 3, 4, 5, 6, 7, 0] (by decide) rfl
  exact W.iret (v := nI 0) hx hb hr (fun t9 ht hW => ⟨⟨nI 0, u, rfl, rfl, by rw [ht]; exact hP, va_K.moved hW.alike hK, hD⟩, hS.F ht⟩) hS.2.2 d_L_answer_18
set_option maxHeartbeats 4000000 in
set_option maxRecDepth 100000 in
theorem c_L_sessionF (l : Launch) (dC : Nat → ClassId) (dI : Nat → Nat → Nat) (cI cL : ClassId) (sz : Nat) (s0 m0 c0 e0 q1 : Nat) (vr : Nat) (p n : Nat) (hm : md p n) (k1 k2 k3 k4 k5 : Nat) (cc gc oc : Nat) (kd lf rg ol : Nat → Nat) (hk : ck cc gc oc kd lf rg ol) (vv : Nat → Nat) (mk : Nat → Nat) (hmk : ∀ c, c < cc → mk c < 2 ^ 64) (hvr : vr < 2 ^ n) (m : Nat) (hmm : m ≤ 256) (ff : Nat) (hff : ff < 2 * (cc + gc)) (x0 : Nat) (ou : Nat → Nat) : Met l y_L_session w_L_session ({ frames := 6, cells := 0, slots := 0, locals := 141 } : Room) (va_Pc [.ref s0, .int (nI m), .int (nI ff), .ref x0] (wq_W (dC, dI) classes [(s0, .inr (0, [.ref m0, .ref c0, .ref e0, .ref q1, .long (lN vr)])), (m0, .inr (1, [.long (lN p), .int (nI n), .long (lN (px_r p 2))])), (c0, .inr (2, [.ref k1, .ref k2, .ref k3, .ref k4, .ref k5, .int (nI cc), .int (nI gc), .int (nI oc)])), (k1, .inl (cI, 24, .inl (fun c => nI (kd c)))), (k2, .inl (cI, 24, .inl (fun c => nI (lf c)))), (k3, .inl (cI, 24, .inl (fun c => nI (rg c)))), (k4, .inl (cI, 16, .inl (fun c => nI (ol c)))), (k5, .inl (cL, 32, .inr (.inl (fun c => lN (vv c))))), (q1, .inl (cL, 8, .inr (.inl (fun c => lN (mk c))))), (x0, .inl (cL, 1, .inr (.inl (fun c => lN (ou c)))))] [(cI, .int), (cL, .long)] sz)) (va_Qi (fun (r : Int32) (u : Nat → Nat) => r = nI 0) (fun (u : Nat → Nat) t => wq_B (dC, dI) classes [(cI, .int), (cL, .long)] (va_A [(s0, .inr (0, [.ref m0, .ref c0, .ref e0, .ref q1, .long (lN vr)])), (m0, .inr (1, [.long (lN p), .int (nI n), .long (lN (px_r p 2))])), (c0, .inr (2, [.ref k1, .ref k2, .ref k3, .ref k4, .ref k5, .int (nI cc), .int (nI gc), .int (nI oc)])), (k1, .inl (cI, 24, .inl (fun c => nI (kd c)))), (k2, .inl (cI, 24, .inl (fun c => nI (lf c)))), (k3, .inl (cI, 24, .inl (fun c => nI (rg c)))), (k4, .inl (cI, 16, .inl (fun c => nI (ol c)))), (k5, .inl (cL, 32, .inr (.inl (fun c => lN (vv c))))), (q1, .inl (cL, 8, .inr (.inl (fun c => lN (mk c))))), (x0, .inl (cL, 1, .inr (.inl (fun c => lN (ou c)))))] sz) [(s0, .inr (0, [.ref m0, .ref c0, .ref e0, .ref q1, .long (lN vr)])), (m0, .inr (1, [.long (lN p), .int (nI n), .long (lN (px_r p 2))])), (c0, .inr (2, [.ref k1, .ref k2, .ref k3, .ref k4, .ref k5, .int (nI cc), .int (nI gc), .int (nI oc)])), (k1, .inl (cI, 24, .inl (fun c => nI (kd c)))), (k2, .inl (cI, 24, .inl (fun c => nI (lf c)))), (k3, .inl (cI, 24, .inl (fun c => nI (rg c)))), (k4, .inl (cI, 16, .inl (fun c => nI (ol c)))), (k5, .inl (cL, 32, .inr (.inl (fun c => lN (u c))))), (q1, .inl (cL, 8, .inr (.inl (fun c => lN (mk c))))), (x0, .inl (cL, 1, .inr (.inl (fun c => lN ((va_up ou 0 (sg p (fun t => fa p vr mk cc gc oc kd lf rg ol (some ff) t) m)) c)))))] t) (va_A [(s0, .inr (0, [.ref m0, .ref c0, .ref e0, .ref q1, .long (lN vr)])), (m0, .inr (1, [.long (lN p), .int (nI n), .long (lN (px_r p 2))])), (c0, .inr (2, [.ref k1, .ref k2, .ref k3, .ref k4, .ref k5, .int (nI cc), .int (nI gc), .int (nI oc)])), (k1, .inl (cI, 24, .inl (fun c => nI (kd c)))), (k2, .inl (cI, 24, .inl (fun c => nI (lf c)))), (k3, .inl (cI, 24, .inl (fun c => nI (rg c)))), (k4, .inl (cI, 16, .inl (fun c => nI (ol c)))), (k5, .inl (cL, 32, .inr (.inl (fun c => lN (vv c))))), (q1, .inl (cL, 8, .inr (.inl (fun c => lN (mk c))))), (x0, .inl (cL, 1, .inr (.inl (fun c => lN (ou c)))))] sz)) 0 0 (va_A [(s0, .inr (0, [.ref m0, .ref c0, .ref e0, .ref q1, .long (lN vr)])), (m0, .inr (1, [.long (lN p), .int (nI n), .long (lN (px_r p 2))])), (c0, .inr (2, [.ref k1, .ref k2, .ref k3, .ref k4, .ref k5, .int (nI cc), .int (nI gc), .int (nI oc)])), (k1, .inl (cI, 24, .inl (fun c => nI (kd c)))), (k2, .inl (cI, 24, .inl (fun c => nI (lf c)))), (k3, .inl (cI, 24, .inl (fun c => nI (rg c)))), (k4, .inl (cI, 16, .inl (fun c => nI (ol c)))), (k5, .inl (cL, 32, .inr (.inl (fun c => lN (vv c))))), (q1, .inl (cL, 8, .inr (.inl (fun c => lN (mk c))))), (x0, .inl (cL, 1, .inr (.inl (fun c => lN (ou c)))))] sz) := by
  refine mt_ofWH (cc := b_L_session) (maxL := 5) (ret := (Option.some Jvm.ClassFile.FieldType.int)) (hh := [((0 : Nat), (9 : Nat), (12 : Nat), (38 : Nat)), ((0 : Nat), (9 : Nat), (16 : Nat), (13 : Nat))]) (by decide) rfl ?_
  intro pg en st mm ar bw me co s₁ B hml htab hv
  obtain ⟨rfl, hsz, hP, hK, hD0, hN⟩ := hv
  have hx := B.exec
  have hb := B.bytes
  have hr := B.returns
  have hlocks := B.notSynchronized
  have hts0 := atoms_spec (ws := w_L_session) B.pre
  have hts : ∀ w ∈ gw, w.before _ st = true := fun w h => hts0 w (List.mem_cons_of_mem _ h)
  have hown : st.vm.findClass R_L = some mm.cls := findClass_of_methodNamed B.named
  subst hsz
  have hD := hD0.self (sz := st.heap.size)
  generalize hAe : va_A [(s0, .inr (0, [.ref m0, .ref c0, .ref e0, .ref q1, .long (lN vr)])), (m0, .inr (1, [.long (lN p), .int (nI n), .long (lN (px_r p 2))])), (c0, .inr (2, [.ref k1, .ref k2, .ref k3, .ref k4, .ref k5, .int (nI cc), .int (nI gc), .int (nI oc)])), (k1, .inl (cI, 24, .inl (fun c => nI (kd c)))), (k2, .inl (cI, 24, .inl (fun c => nI (lf c)))), (k3, .inl (cI, 24, .inl (fun c => nI (rg c)))), (k4, .inl (cI, 16, .inl (fun c => nI (ol c)))), (k5, .inl (cL, 32, .inr (.inl (fun c => lN (vv c))))), (q1, .inl (cL, 8, .inr (.inl (fun c => lN (mk c))))), (x0, .inl (cL, 1, .inr (.inl (fun c => lN (ou c)))))] st.heap.size = A at hD ⊢
  have hA : ∀ q : Nat, st.heap.size ≤ q → A q := fun q h => by rw [← hAe]; exact Or.inr h
  have hS : va_S A st.heap st.heap [] := va_S.rf
  have hl := lv_entry ([.ref s0, .int (nI m), .int (nI ff), .ref x0]) (n := 5) (Nat.le_of_ble_eq_true rfl)
  rw [lg_entry_eq]
  generalize (lg_sl ([.ref s0, .int (nI m), .int (nI ff), .ref x0]) ++ List.replicate (5 - (lg_sl ([.ref s0, .int (nI m), .int (nI ff), .ref x0])).length) Slot.unset).toArray = ls at hl ⊢
  have hl : lv_has ls 5 [(0, .ref s0), (1, .int (nI m)), (2, .int (nI ff)), (3, .ref x0)] := hl
  refine lv_aload_n hx hb d_L_session_0 rfl (lv_at hl 3 rfl) ?_
  refine lv_iconst (v := nI 0) hx hb d_L_session_1 (by decide) ?_
  refine lv_aload_n hx hb d_L_session_2 rfl (lv_at hl 0 rfl) ?_
  refine lv_iload_n hx hb d_L_session_3 rfl (lv_at hl 1 rfl) ?_
  refine lv_iload_n hx hb d_L_session_4 rfl (lv_at hl 2 rfl) ?_
  refine wq_l (wr := [(x0, .inl (cL, 1, .inr (.inl (fun c => lN (ou c)))))]) (va_runV (As := [.int (nI m), .int (nI ff)]) (rest := [.int (nI 0), .ref x0]) ⟨hx, hb, hml, hown, hts⟩ (c_S_sessionF l dC dI cI cL st.heap.size s0 m0 c0 e0 q1 vr p n hm k1 k2 k3 k4 k5 cc gc oc kd lf rg ol hk vv mk hmk hvr m hmm ff hff) (cwV 2 hts (gi_V kw_455 kw_456 kw_457 kw_1 gi_S_session) rfl rfl rfl ⟨rfl, by decide, by decide, by decide⟩ ⟨Nat.le_of_ble_eq_true rfl, Nat.le_of_ble_eq_true rfl⟩) (wq_preVW hP hD hK hN [0, 1, 2, 3, 4, 5, 6, 7, 8] rfl rfl (q0 := 0) (ci := 0) rfl rfl rfl) rfl rfl hl.1 rfl (lv_room (Nat.le_of_ble_eq_true rfl)) d_L_session_5 ⟨Nat.le_of_ble_eq_true rfl, Nat.le_of_ble_eq_true rfl⟩) hP hD hS hA [0, 1, 2, 3, 4, 5, 6, 7, 8] [9] rfl rfl rfl (by decide) (fun r u H locs hq hP hD hS hz => ?_)
  have hP : va_P (dC, dI) classes [(x0, .inl (cL, 1, .inr (.inl (fun c => lN (ou c))))), (s0, .inr (0, [.ref m0, .ref c0, .ref e0, .ref q1, .long (lN vr)])), (m0, .inr (1, [.long (lN p), .int (nI n), .long (lN (px_r p 2))])), (c0, .inr (2, [.ref k1, .ref k2, .ref k3, .ref k4, .ref k5, .int (nI cc), .int (nI gc), .int (nI oc)])), (k1, .inl (cI, 24, .inl (fun c => nI (kd c)))), (k2, .inl (cI, 24, .inl (fun c => nI (lf c)))), (k3, .inl (cI, 24, .inl (fun c => nI (rg c)))), (k4, .inl (cI, 16, .inl (fun c => nI (ol c)))), (k5, .inl (cL, 32, .inr (.inl (fun c => lN (u c))))), (q1, .inl (cL, 8, .inr (.inl (fun c => lN (mk c)))))] H := hP
  have hD : va_D A [(x0, .inl (cL, 1, .inr (.inl (fun c => lN (ou c))))), (s0, .inr (0, [.ref m0, .ref c0, .ref e0, .ref q1, .long (lN vr)])), (m0, .inr (1, [.long (lN p), .int (nI n), .long (lN (px_r p 2))])), (c0, .inr (2, [.ref k1, .ref k2, .ref k3, .ref k4, .ref k5, .int (nI cc), .int (nI gc), .int (nI oc)])), (k1, .inl (cI, 24, .inl (fun c => nI (kd c)))), (k2, .inl (cI, 24, .inl (fun c => nI (lf c)))), (k3, .inl (cI, 24, .inl (fun c => nI (rg c)))), (k4, .inl (cI, 16, .inl (fun c => nI (ol c)))), (k5, .inl (cL, 32, .inr (.inl (fun c => lN (u c))))), (q1, .inl (cL, 8, .inr (.inl (fun c => lN (mk c)))))] := hD
  subst hq
  refine va_last (D := (dC, dI)) (i := (nI 0)) (x := (lN (sg p (fun t => fa p vr mk cc gc oc kd lf rg ol (some ff) t) m))) hx hb hK hP hD hS 0 1 rfl rfl (vp_in_nI (by decide) (by decide)) d_L_session_8 (fun H locs hP hD hS => ?_)
  rw [nI_clamp (by decide), updL_lN] at hP hD
  have hP : va_P (dC, dI) classes [(x0, .inl (cL, 1, .inr (.inl (fun c => lN ((va_up ou 0 (sg p (fun t => fa p vr mk cc gc oc kd lf rg ol (some ff) t) m)) c))))), (s0, .inr (0, [.ref m0, .ref c0, .ref e0, .ref q1, .long (lN vr)])), (m0, .inr (1, [.long (lN p), .int (nI n), .long (lN (px_r p 2))])), (c0, .inr (2, [.ref k1, .ref k2, .ref k3, .ref k4, .ref k5, .int (nI cc), .int (nI gc), .int (nI oc)])), (k1, .inl (cI, 24, .inl (fun c => nI (kd c)))), (k2, .inl (cI, 24, .inl (fun c => nI (lf c)))), (k3, .inl (cI, 24, .inl (fun c => nI (rg c)))), (k4, .inl (cI, 16, .inl (fun c => nI (ol c)))), (k5, .inl (cL, 32, .inr (.inl (fun c => lN (u c))))), (q1, .inl (cL, 8, .inr (.inl (fun c => lN (mk c)))))] H := hP
  have hD : va_D A [(x0, .inl (cL, 1, .inr (.inl (fun c => lN ((va_up ou 0 (sg p (fun t => fa p vr mk cc gc oc kd lf rg ol (some ff) t) m)) c))))), (s0, .inr (0, [.ref m0, .ref c0, .ref e0, .ref q1, .long (lN vr)])), (m0, .inr (1, [.long (lN p), .int (nI n), .long (lN (px_r p 2))])), (c0, .inr (2, [.ref k1, .ref k2, .ref k3, .ref k4, .ref k5, .int (nI cc), .int (nI gc), .int (nI oc)])), (k1, .inl (cI, 24, .inl (fun c => nI (kd c)))), (k2, .inl (cI, 24, .inl (fun c => nI (lf c)))), (k3, .inl (cI, 24, .inl (fun c => nI (rg c)))), (k4, .inl (cI, 16, .inl (fun c => nI (ol c)))), (k5, .inl (cL, 32, .inr (.inl (fun c => lN (u c))))), (q1, .inl (cL, 8, .inr (.inl (fun c => lN (mk c)))))] := hD
  refine lv_goto (tgt := 20) hx hb d_L_session_9 (by decide) ?_
  refine lv_iconst (v := nI 0) hx hb d_L_session_20 (by decide) ?_
  have hP := hP.sub (ws' := [(s0, .inr (0, [.ref m0, .ref c0, .ref e0, .ref q1, .long (lN vr)])), (m0, .inr (1, [.long (lN p), .int (nI n), .long (lN (px_r p 2))])), (c0, .inr (2, [.ref k1, .ref k2, .ref k3, .ref k4, .ref k5, .int (nI cc), .int (nI gc), .int (nI oc)])), (k1, .inl (cI, 24, .inl (fun c => nI (kd c)))), (k2, .inl (cI, 24, .inl (fun c => nI (lf c)))), (k3, .inl (cI, 24, .inl (fun c => nI (rg c)))), (k4, .inl (cI, 16, .inl (fun c => nI (ol c)))), (k5, .inl (cL, 32, .inr (.inl (fun c => lN (u c))))), (q1, .inl (cL, 8, .inr (.inl (fun c => lN (mk c))))), (x0, .inl (cL, 1, .inr (.inl (fun c => lN ((va_up ou 0 (sg p (fun t => fa p vr mk cc gc oc kd lf rg ol (some ff) t) m)) c)))))]) [1, 2, 3, 4, 5, 6, 7, 8, 9, 0] rfl
  have hD := hD.sub (ws' := [(s0, .inr (0, [.ref m0, .ref c0, .ref e0, .ref q1, .long (lN vr)])), (m0, .inr (1, [.long (lN p), .int (nI n), .long (lN (px_r p 2))])), (c0, .inr (2, [.ref k1, .ref k2, .ref k3, .ref k4, .ref k5, .int (nI cc), .int (nI gc), .int (nI oc)])), (k1, .inl (cI, 24, .inl (fun c => nI (kd c)))), (k2, .inl (cI, 24, .inl (fun c => nI (lf c)))), (k3, .inl (cI, 24, .inl (fun c => nI (rg c)))), (k4, .inl (cI, 16, .inl (fun c => nI (ol c)))), (k5, .inl (cL, 32, .inr (.inl (fun c => lN (u c))))), (q1, .inl (cL, 8, .inr (.inl (fun c => lN (mk c))))), (x0, .inl (cL, 1, .inr (.inl (fun c => lN ((va_up ou 0 (sg p (fun t => fa p vr mk cc gc oc kd lf rg ol (some ff) t) m)) c)))))]) [1, 2, 3, 4, 5, 6, 7, 8, 9, 0] (by decide) rfl
  exact W.iret (v := nI 0) hx hb hr (fun t9 ht hW => ⟨⟨nI 0, u, rfl, rfl, by rw [ht]; exact hP, va_K.moved hW.alike hK, hD⟩, hS.F ht⟩) hS.2.2 d_L_session_21
set_option maxHeartbeats 4000000 in
set_option maxRecDepth 100000 in
theorem c_L_firstY (l : Launch) (dC : Nat → ClassId) (dI : Nat → Nat → Nat) (cI cL : ClassId) (sz : Nat) (s0 m0 c0 e0 q1 : Nat) (vr : Nat) (p n : Nat) (hm : md p n) (k1 k2 k3 k4 k5 : Nat) (cc gc oc : Nat) (kd lf rg ol : Nat → Nat) (hk : ck cc gc oc kd lf rg ol) (vv : Nat → Nat) (mk : Nat → Nat) (hmk : ∀ c, c < cc → mk c < 2 ^ 64) (hvr : vr < 2 ^ n) (m : Nat) (hmm : m ≤ 256) (ff : Nat) (hff : ff < 2 * (cc + gc)) (x0 : Nat) (ou : Nat → Nat) : Met l y_L_first w_L_first ({ frames := 4, cells := 0, slots := 0, locals := 103 } : Room) (va_Pc [.ref s0, .int (nI m), .int (nI ff), .ref x0] (wq_W (dC, dI) classes [(s0, .inr (0, [.ref m0, .ref c0, .ref e0, .ref q1, .long (lN vr)])), (m0, .inr (1, [.long (lN p), .int (nI n), .long (lN (px_r p 2))])), (c0, .inr (2, [.ref k1, .ref k2, .ref k3, .ref k4, .ref k5, .int (nI cc), .int (nI gc), .int (nI oc)])), (k1, .inl (cI, 24, .inl (fun c => nI (kd c)))), (k2, .inl (cI, 24, .inl (fun c => nI (lf c)))), (k3, .inl (cI, 24, .inl (fun c => nI (rg c)))), (k4, .inl (cI, 16, .inl (fun c => nI (ol c)))), (k5, .inl (cL, 32, .inr (.inl (fun c => lN (vv c))))), (q1, .inl (cL, 8, .inr (.inl (fun c => lN (mk c))))), (x0, .inl (cL, 1, .inr (.inl (fun c => lN (ou c)))))] [(cI, .int), (cL, .long)] sz)) (va_Qi (fun (r : Int32) (u : (Nat → Nat) × Nat) => r = nI 0 ∧ ∃ z : Int32, z.toInt64 = lN u.2 ∧ ((∃ t, t < m ∧ fa p vr mk cc gc oc kd lf rg ol (some ff) t ≠ fa p vr mk cc gc oc kd lf rg ol none t ∧ (∀ j, j < t → fa p vr mk cc gc oc kd lf rg ol (some ff) j = fa p vr mk cc gc oc kd lf rg ol none j) ∧ z = nI t) ∨ ((∀ j, j < m → fa p vr mk cc gc oc kd lf rg ol (some ff) j = fa p vr mk cc gc oc kd lf rg ol none j) ∧ z = -1))) (fun (u : (Nat → Nat) × Nat) t => wq_B (dC, dI) classes [(cI, .int), (cL, .long)] (va_A [(s0, .inr (0, [.ref m0, .ref c0, .ref e0, .ref q1, .long (lN vr)])), (m0, .inr (1, [.long (lN p), .int (nI n), .long (lN (px_r p 2))])), (c0, .inr (2, [.ref k1, .ref k2, .ref k3, .ref k4, .ref k5, .int (nI cc), .int (nI gc), .int (nI oc)])), (k1, .inl (cI, 24, .inl (fun c => nI (kd c)))), (k2, .inl (cI, 24, .inl (fun c => nI (lf c)))), (k3, .inl (cI, 24, .inl (fun c => nI (rg c)))), (k4, .inl (cI, 16, .inl (fun c => nI (ol c)))), (k5, .inl (cL, 32, .inr (.inl (fun c => lN (vv c))))), (q1, .inl (cL, 8, .inr (.inl (fun c => lN (mk c))))), (x0, .inl (cL, 1, .inr (.inl (fun c => lN (ou c)))))] sz) [(s0, .inr (0, [.ref m0, .ref c0, .ref e0, .ref q1, .long (lN vr)])), (m0, .inr (1, [.long (lN p), .int (nI n), .long (lN (px_r p 2))])), (c0, .inr (2, [.ref k1, .ref k2, .ref k3, .ref k4, .ref k5, .int (nI cc), .int (nI gc), .int (nI oc)])), (k1, .inl (cI, 24, .inl (fun c => nI (kd c)))), (k2, .inl (cI, 24, .inl (fun c => nI (lf c)))), (k3, .inl (cI, 24, .inl (fun c => nI (rg c)))), (k4, .inl (cI, 16, .inl (fun c => nI (ol c)))), (k5, .inl (cL, 32, .inr (.inl (fun c => lN ((u).1 c))))), (q1, .inl (cL, 8, .inr (.inl (fun c => lN (mk c))))), (x0, .inl (cL, 1, .inr (.inl (fun c => lN ((va_up ou 0 (u).2) c)))))] t) (va_A [(s0, .inr (0, [.ref m0, .ref c0, .ref e0, .ref q1, .long (lN vr)])), (m0, .inr (1, [.long (lN p), .int (nI n), .long (lN (px_r p 2))])), (c0, .inr (2, [.ref k1, .ref k2, .ref k3, .ref k4, .ref k5, .int (nI cc), .int (nI gc), .int (nI oc)])), (k1, .inl (cI, 24, .inl (fun c => nI (kd c)))), (k2, .inl (cI, 24, .inl (fun c => nI (lf c)))), (k3, .inl (cI, 24, .inl (fun c => nI (rg c)))), (k4, .inl (cI, 16, .inl (fun c => nI (ol c)))), (k5, .inl (cL, 32, .inr (.inl (fun c => lN (vv c))))), (q1, .inl (cL, 8, .inr (.inl (fun c => lN (mk c))))), (x0, .inl (cL, 1, .inr (.inl (fun c => lN (ou c)))))] sz)) 0 0 (va_A [(s0, .inr (0, [.ref m0, .ref c0, .ref e0, .ref q1, .long (lN vr)])), (m0, .inr (1, [.long (lN p), .int (nI n), .long (lN (px_r p 2))])), (c0, .inr (2, [.ref k1, .ref k2, .ref k3, .ref k4, .ref k5, .int (nI cc), .int (nI gc), .int (nI oc)])), (k1, .inl (cI, 24, .inl (fun c => nI (kd c)))), (k2, .inl (cI, 24, .inl (fun c => nI (lf c)))), (k3, .inl (cI, 24, .inl (fun c => nI (rg c)))), (k4, .inl (cI, 16, .inl (fun c => nI (ol c)))), (k5, .inl (cL, 32, .inr (.inl (fun c => lN (vv c))))), (q1, .inl (cL, 8, .inr (.inl (fun c => lN (mk c))))), (x0, .inl (cL, 1, .inr (.inl (fun c => lN (ou c)))))] sz) := by
  refine mt_ofWH (cc := b_L_first) (maxL := 5) (ret := (Option.some Jvm.ClassFile.FieldType.int)) (hh := [((0 : Nat), (10 : Nat), (13 : Nat), (38 : Nat)), ((0 : Nat), (10 : Nat), (17 : Nat), (13 : Nat))]) (by decide) rfl ?_
  intro pg en st mm ar bw me co s₁ B hml htab hv
  obtain ⟨rfl, hsz, hP, hK, hD0, hN⟩ := hv
  have hx := B.exec
  have hb := B.bytes
  have hr := B.returns
  have hlocks := B.notSynchronized
  have hts0 := atoms_spec (ws := w_L_first) B.pre
  have hts : ∀ w ∈ gw, w.before _ st = true := fun w h => hts0 w (List.mem_cons_of_mem _ h)
  have hown : st.vm.findClass R_L = some mm.cls := findClass_of_methodNamed B.named
  subst hsz
  have hD := hD0.self (sz := st.heap.size)
  generalize hAe : va_A [(s0, .inr (0, [.ref m0, .ref c0, .ref e0, .ref q1, .long (lN vr)])), (m0, .inr (1, [.long (lN p), .int (nI n), .long (lN (px_r p 2))])), (c0, .inr (2, [.ref k1, .ref k2, .ref k3, .ref k4, .ref k5, .int (nI cc), .int (nI gc), .int (nI oc)])), (k1, .inl (cI, 24, .inl (fun c => nI (kd c)))), (k2, .inl (cI, 24, .inl (fun c => nI (lf c)))), (k3, .inl (cI, 24, .inl (fun c => nI (rg c)))), (k4, .inl (cI, 16, .inl (fun c => nI (ol c)))), (k5, .inl (cL, 32, .inr (.inl (fun c => lN (vv c))))), (q1, .inl (cL, 8, .inr (.inl (fun c => lN (mk c))))), (x0, .inl (cL, 1, .inr (.inl (fun c => lN (ou c)))))] st.heap.size = A at hD ⊢
  have hA : ∀ q : Nat, st.heap.size ≤ q → A q := fun q h => by rw [← hAe]; exact Or.inr h
  have hS : va_S A st.heap st.heap [] := va_S.rf
  have hl := lv_entry ([.ref s0, .int (nI m), .int (nI ff), .ref x0]) (n := 5) (Nat.le_of_ble_eq_true rfl)
  rw [lg_entry_eq]
  generalize (lg_sl ([.ref s0, .int (nI m), .int (nI ff), .ref x0]) ++ List.replicate (5 - (lg_sl ([.ref s0, .int (nI m), .int (nI ff), .ref x0])).length) Slot.unset).toArray = ls at hl ⊢
  have hl : lv_has ls 5 [(0, .ref s0), (1, .int (nI m)), (2, .int (nI ff)), (3, .ref x0)] := hl
  refine lv_aload_n hx hb d_L_first_0 rfl (lv_at hl 3 rfl) ?_
  refine lv_iconst (v := nI 0) hx hb d_L_first_1 (by decide) ?_
  refine lv_aload_n hx hb d_L_first_2 rfl (lv_at hl 0 rfl) ?_
  refine lv_iload_n hx hb d_L_first_3 rfl (lv_at hl 1 rfl) ?_
  refine lv_iload_n hx hb d_L_first_4 rfl (lv_at hl 2 rfl) ?_
  refine wq_i (wr := [(x0, .inl (cL, 1, .inr (.inl (fun c => lN (ou c)))))]) (va_runV (As := [.int (nI m), .int (nI ff)]) (rest := [.int (nI 0), .ref x0]) ⟨hx, hb, hml, hown, hts⟩ (c_S_first l dC dI cI cL st.heap.size s0 m0 c0 e0 q1 vr p n hm k1 k2 k3 k4 k5 cc gc oc kd lf rg ol hk vv mk hmk hvr m hmm ff hff) (cwV 2 hts (gi_V kw_517 kw_518 kw_519 kw_1 gi_S_first) rfl rfl rfl ⟨rfl, by decide, by decide, by decide⟩ ⟨Nat.le_of_ble_eq_true rfl, Nat.le_of_ble_eq_true rfl⟩) (wq_preVW hP hD hK hN [0, 1, 2, 3, 4, 5, 6, 7, 8] rfl rfl (q0 := 0) (ci := 0) rfl rfl rfl) rfl rfl hl.1 rfl (lv_room (Nat.le_of_ble_eq_true rfl)) d_L_first_5 ⟨Nat.le_of_ble_eq_true rfl, Nat.le_of_ble_eq_true rfl⟩) hP hD hS hA [0, 1, 2, 3, 4, 5, 6, 7, 8] [9] rfl rfl rfl (by decide) (fun r u H locs hq hP hD hS hz => ?_)
  have hP : va_P (dC, dI) classes [(x0, .inl (cL, 1, .inr (.inl (fun c => lN (ou c))))), (s0, .inr (0, [.ref m0, .ref c0, .ref e0, .ref q1, .long (lN vr)])), (m0, .inr (1, [.long (lN p), .int (nI n), .long (lN (px_r p 2))])), (c0, .inr (2, [.ref k1, .ref k2, .ref k3, .ref k4, .ref k5, .int (nI cc), .int (nI gc), .int (nI oc)])), (k1, .inl (cI, 24, .inl (fun c => nI (kd c)))), (k2, .inl (cI, 24, .inl (fun c => nI (lf c)))), (k3, .inl (cI, 24, .inl (fun c => nI (rg c)))), (k4, .inl (cI, 16, .inl (fun c => nI (ol c)))), (k5, .inl (cL, 32, .inr (.inl (fun c => lN (u c))))), (q1, .inl (cL, 8, .inr (.inl (fun c => lN (mk c)))))] H := hP
  have hD : va_D A [(x0, .inl (cL, 1, .inr (.inl (fun c => lN (ou c))))), (s0, .inr (0, [.ref m0, .ref c0, .ref e0, .ref q1, .long (lN vr)])), (m0, .inr (1, [.long (lN p), .int (nI n), .long (lN (px_r p 2))])), (c0, .inr (2, [.ref k1, .ref k2, .ref k3, .ref k4, .ref k5, .int (nI cc), .int (nI gc), .int (nI oc)])), (k1, .inl (cI, 24, .inl (fun c => nI (kd c)))), (k2, .inl (cI, 24, .inl (fun c => nI (lf c)))), (k3, .inl (cI, 24, .inl (fun c => nI (rg c)))), (k4, .inl (cI, 16, .inl (fun c => nI (ol c)))), (k5, .inl (cL, 32, .inr (.inl (fun c => lN (u c))))), (q1, .inl (cL, 8, .inr (.inl (fun c => lN (mk c)))))] := hD
  obtain ⟨wv, -, hwv⟩ := wb_of r.toInt64
  refine lv_i2l (v := lN wv) hx hb d_L_first_8 (hwv) ?_
  refine va_last (D := (dC, dI)) (i := (nI 0)) (x := (lN wv)) hx hb hK hP hD hS 0 1 rfl rfl (vp_in_nI (by decide) (by decide)) d_L_first_9 (fun H locs hP hD hS => ?_)
  rw [nI_clamp (by decide), updL_lN] at hP hD
  have hP : va_P (dC, dI) classes [(x0, .inl (cL, 1, .inr (.inl (fun c => lN ((va_up ou 0 wv) c))))), (s0, .inr (0, [.ref m0, .ref c0, .ref e0, .ref q1, .long (lN vr)])), (m0, .inr (1, [.long (lN p), .int (nI n), .long (lN (px_r p 2))])), (c0, .inr (2, [.ref k1, .ref k2, .ref k3, .ref k4, .ref k5, .int (nI cc), .int (nI gc), .int (nI oc)])), (k1, .inl (cI, 24, .inl (fun c => nI (kd c)))), (k2, .inl (cI, 24, .inl (fun c => nI (lf c)))), (k3, .inl (cI, 24, .inl (fun c => nI (rg c)))), (k4, .inl (cI, 16, .inl (fun c => nI (ol c)))), (k5, .inl (cL, 32, .inr (.inl (fun c => lN (u c))))), (q1, .inl (cL, 8, .inr (.inl (fun c => lN (mk c)))))] H := hP
  have hD : va_D A [(x0, .inl (cL, 1, .inr (.inl (fun c => lN ((va_up ou 0 wv) c))))), (s0, .inr (0, [.ref m0, .ref c0, .ref e0, .ref q1, .long (lN vr)])), (m0, .inr (1, [.long (lN p), .int (nI n), .long (lN (px_r p 2))])), (c0, .inr (2, [.ref k1, .ref k2, .ref k3, .ref k4, .ref k5, .int (nI cc), .int (nI gc), .int (nI oc)])), (k1, .inl (cI, 24, .inl (fun c => nI (kd c)))), (k2, .inl (cI, 24, .inl (fun c => nI (lf c)))), (k3, .inl (cI, 24, .inl (fun c => nI (rg c)))), (k4, .inl (cI, 16, .inl (fun c => nI (ol c)))), (k5, .inl (cL, 32, .inr (.inl (fun c => lN (u c))))), (q1, .inl (cL, 8, .inr (.inl (fun c => lN (mk c)))))] := hD
  refine lv_goto (tgt := 21) hx hb d_L_first_10 (by decide) ?_
  refine lv_iconst (v := nI 0) hx hb d_L_first_21 (by decide) ?_
  have hP := hP.sub (ws' := [(s0, .inr (0, [.ref m0, .ref c0, .ref e0, .ref q1, .long (lN vr)])), (m0, .inr (1, [.long (lN p), .int (nI n), .long (lN (px_r p 2))])), (c0, .inr (2, [.ref k1, .ref k2, .ref k3, .ref k4, .ref k5, .int (nI cc), .int (nI gc), .int (nI oc)])), (k1, .inl (cI, 24, .inl (fun c => nI (kd c)))), (k2, .inl (cI, 24, .inl (fun c => nI (lf c)))), (k3, .inl (cI, 24, .inl (fun c => nI (rg c)))), (k4, .inl (cI, 16, .inl (fun c => nI (ol c)))), (k5, .inl (cL, 32, .inr (.inl (fun c => lN (u c))))), (q1, .inl (cL, 8, .inr (.inl (fun c => lN (mk c))))), (x0, .inl (cL, 1, .inr (.inl (fun c => lN ((va_up ou 0 wv) c)))))]) [1, 2, 3, 4, 5, 6, 7, 8, 9, 0] rfl
  have hD := hD.sub (ws' := [(s0, .inr (0, [.ref m0, .ref c0, .ref e0, .ref q1, .long (lN vr)])), (m0, .inr (1, [.long (lN p), .int (nI n), .long (lN (px_r p 2))])), (c0, .inr (2, [.ref k1, .ref k2, .ref k3, .ref k4, .ref k5, .int (nI cc), .int (nI gc), .int (nI oc)])), (k1, .inl (cI, 24, .inl (fun c => nI (kd c)))), (k2, .inl (cI, 24, .inl (fun c => nI (lf c)))), (k3, .inl (cI, 24, .inl (fun c => nI (rg c)))), (k4, .inl (cI, 16, .inl (fun c => nI (ol c)))), (k5, .inl (cL, 32, .inr (.inl (fun c => lN (u c))))), (q1, .inl (cL, 8, .inr (.inl (fun c => lN (mk c))))), (x0, .inl (cL, 1, .inr (.inl (fun c => lN ((va_up ou 0 wv) c)))))]) [1, 2, 3, 4, 5, 6, 7, 8, 9, 0] (by decide) rfl
  exact W.iret (v := nI 0) hx hb hr (fun t9 ht hW => ⟨⟨nI 0, (u, wv), rfl, ⟨rfl, r, hwv, hq⟩, by rw [ht]; exact hP, va_K.moved hW.alike hK, hD⟩, hS.F ht⟩) hS.2.2 d_L_first_22
set_option maxHeartbeats 4000000 in
set_option maxRecDepth 100000 in
theorem c_L_faultsY0 (l : Launch) (dC : Nat → ClassId) (dI : Nat → Nat → Nat) (cI cL : ClassId) (sz : Nat) (s0 m0 c0 e0 q1 : Nat) (vr : Nat) (k1 k2 k3 k4 k5 : Nat) (cc gc oc : Nat) (m : Nat) (hmm : m ≤ 256) (x0 : Nat) (ou : Nat → Nat) : Met l y_L_faults w_L_faults ({ frames := 6, cells := 0, slots := 0, locals := 151 } : Room) (va_Pc [.ref s0, .int (nI m), .int (nI 0), .ref x0] (wq_W (dC, dI) classes [(s0, .inr (0, [.ref m0, .ref c0, .ref e0, .ref q1, .long (lN vr)])), (c0, .inr (2, [.ref k1, .ref k2, .ref k3, .ref k4, .ref k5, .int (nI cc), .int (nI gc), .int (nI oc)])), (x0, .inl (cL, 1, .inr (.inl (fun c => lN (ou c)))))] [(cI, .int), (cL, .long)] sz)) (va_Qi (fun (r : Int32) (u : (Unit) × Nat) => r = nI 0 ∧ ∃ z : Int32, z.toInt64 = lN u.2 ∧ (z = nI (2 * (cc + gc)))) (fun (u : (Unit) × Nat) t => wq_B (dC, dI) classes [(cI, .int), (cL, .long)] (va_A [(s0, .inr (0, [.ref m0, .ref c0, .ref e0, .ref q1, .long (lN vr)])), (c0, .inr (2, [.ref k1, .ref k2, .ref k3, .ref k4, .ref k5, .int (nI cc), .int (nI gc), .int (nI oc)])), (x0, .inl (cL, 1, .inr (.inl (fun c => lN (ou c)))))] sz) [(s0, .inr (0, [.ref m0, .ref c0, .ref e0, .ref q1, .long (lN vr)])), (c0, .inr (2, [.ref k1, .ref k2, .ref k3, .ref k4, .ref k5, .int (nI cc), .int (nI gc), .int (nI oc)])), (x0, .inl (cL, 1, .inr (.inl (fun c => lN ((va_up ou 0 (u).2) c)))))] t) (va_A [(s0, .inr (0, [.ref m0, .ref c0, .ref e0, .ref q1, .long (lN vr)])), (c0, .inr (2, [.ref k1, .ref k2, .ref k3, .ref k4, .ref k5, .int (nI cc), .int (nI gc), .int (nI oc)])), (x0, .inl (cL, 1, .inr (.inl (fun c => lN (ou c)))))] sz)) 0 0 (va_A [(s0, .inr (0, [.ref m0, .ref c0, .ref e0, .ref q1, .long (lN vr)])), (c0, .inr (2, [.ref k1, .ref k2, .ref k3, .ref k4, .ref k5, .int (nI cc), .int (nI gc), .int (nI oc)])), (x0, .inl (cL, 1, .inr (.inl (fun c => lN (ou c)))))] sz) := by
  refine mt_ofWH (cc := b_L_faults) (maxL := 5) (ret := (Option.some Jvm.ClassFile.FieldType.int)) (hh := [((0 : Nat), (10 : Nat), (13 : Nat), (38 : Nat)), ((0 : Nat), (10 : Nat), (17 : Nat), (13 : Nat))]) (by decide) rfl ?_
  intro pg en st mm ar bw me co s₁ B hml htab hv
  obtain ⟨rfl, hsz, hP, hK, hD0, hN⟩ := hv
  have hx := B.exec
  have hb := B.bytes
  have hr := B.returns
  have hlocks := B.notSynchronized
  have hts0 := atoms_spec (ws := w_L_faults) B.pre
  have hts : ∀ w ∈ gw, w.before _ st = true := fun w h => hts0 w (List.mem_cons_of_mem _ h)
  have hown : st.vm.findClass R_L = some mm.cls := findClass_of_methodNamed B.named
  subst hsz
  have hD := hD0.self (sz := st.heap.size)
  generalize hAe : va_A [(s0, .inr (0, [.ref m0, .ref c0, .ref e0, .ref q1, .long (lN vr)])), (c0, .inr (2, [.ref k1, .ref k2, .ref k3, .ref k4, .ref k5, .int (nI cc), .int (nI gc), .int (nI oc)])), (x0, .inl (cL, 1, .inr (.inl (fun c => lN (ou c)))))] st.heap.size = A at hD ⊢
  have hA : ∀ q : Nat, st.heap.size ≤ q → A q := fun q h => by rw [← hAe]; exact Or.inr h
  have hS : va_S A st.heap st.heap [] := va_S.rf
  have hl := lv_entry ([.ref s0, .int (nI m), .int (nI 0), .ref x0]) (n := 5) (Nat.le_of_ble_eq_true rfl)
  rw [lg_entry_eq]
  generalize (lg_sl ([.ref s0, .int (nI m), .int (nI 0), .ref x0]) ++ List.replicate (5 - (lg_sl ([.ref s0, .int (nI m), .int (nI 0), .ref x0])).length) Slot.unset).toArray = ls at hl ⊢
  have hl : lv_has ls 5 [(0, .ref s0), (1, .int (nI m)), (2, .int (nI 0)), (3, .ref x0)] := hl
  refine lv_aload_n hx hb d_L_faults_0 rfl (lv_at hl 3 rfl) ?_
  refine lv_iconst (v := nI 0) hx hb d_L_faults_1 (by decide) ?_
  refine lv_aload_n hx hb d_L_faults_2 rfl (lv_at hl 0 rfl) ?_
  refine lv_iload_n hx hb d_L_faults_3 rfl (lv_at hl 1 rfl) ?_
  refine lv_iload_n hx hb d_L_faults_4 rfl (lv_at hl 2 rfl) ?_
  refine vp_callSi (va_Run.run (va_runV (As := [.int (nI m), .int (nI 0)]) (rest := [.int (nI 0), .ref x0]) ⟨hx, hb, hml, hown, hts⟩ (c_S_faults0 l dC dI cI cL s0 m0 c0 e0 q1 vr k1 k2 k3 k4 k5 cc gc oc m hmm) (cwV 2 hts (gi_V kw_468 kw_469 kw_470 kw_1 gi_S_faults) rfl rfl rfl ⟨rfl, by decide, by decide, by decide⟩ ⟨Nat.le_of_ble_eq_true rfl, Nat.le_of_ble_eq_true rfl⟩) (wq_preVR hP hK hN [0, 1] rfl (q0 := 0) (ci := 0) rfl rfl rfl) rfl rfl hl.1 rfl (lv_room (Nat.le_of_ble_eq_true rfl)) d_L_faults_5 ⟨Nat.le_of_ble_eq_true rfl, Nat.le_of_ble_eq_true rfl⟩)) (fun r hq => ?_)
  obtain ⟨wv, -, hwv⟩ := wb_of r.toInt64
  refine lv_i2l (v := lN wv) hx hb d_L_faults_8 (hwv) ?_
  refine va_last (D := (dC, dI)) (i := (nI 0)) (x := (lN wv)) hx hb hK hP hD hS 2 1 rfl rfl (vp_in_nI (by decide) (by decide)) d_L_faults_9 (fun H locs hP hD hS => ?_)
  rw [nI_clamp (by decide), updL_lN] at hP hD
  have hP : va_P (dC, dI) classes [(s0, .inr (0, [.ref m0, .ref c0, .ref e0, .ref q1, .long (lN vr)])), (c0, .inr (2, [.ref k1, .ref k2, .ref k3, .ref k4, .ref k5, .int (nI cc), .int (nI gc), .int (nI oc)])), (x0, .inl (cL, 1, .inr (.inl (fun c => lN ((va_up ou 0 wv) c)))))] H := hP
  have hD : va_D A [(s0, .inr (0, [.ref m0, .ref c0, .ref e0, .ref q1, .long (lN vr)])), (c0, .inr (2, [.ref k1, .ref k2, .ref k3, .ref k4, .ref k5, .int (nI cc), .int (nI gc), .int (nI oc)])), (x0, .inl (cL, 1, .inr (.inl (fun c => lN ((va_up ou 0 wv) c)))))] := hD
  refine lv_goto (tgt := 21) hx hb d_L_faults_10 (by decide) ?_
  refine lv_iconst (v := nI 0) hx hb d_L_faults_21 (by decide) ?_
  have hP := hP.sub (ws' := [(s0, .inr (0, [.ref m0, .ref c0, .ref e0, .ref q1, .long (lN vr)])), (c0, .inr (2, [.ref k1, .ref k2, .ref k3, .ref k4, .ref k5, .int (nI cc), .int (nI gc), .int (nI oc)])), (x0, .inl (cL, 1, .inr (.inl (fun c => lN ((va_up ou 0 wv) c)))))]) [0, 1, 2] rfl
  have hD := hD.sub (ws' := [(s0, .inr (0, [.ref m0, .ref c0, .ref e0, .ref q1, .long (lN vr)])), (c0, .inr (2, [.ref k1, .ref k2, .ref k3, .ref k4, .ref k5, .int (nI cc), .int (nI gc), .int (nI oc)])), (x0, .inl (cL, 1, .inr (.inl (fun c => lN ((va_up ou 0 wv) c)))))]) [0, 1, 2] (by decide) rfl
  exact W.iret (v := nI 0) hx hb hr (fun t9 ht hW => ⟨⟨nI 0, ((), wv), rfl, ⟨rfl, r, hwv, hq⟩, by rw [ht]; exact hP, va_K.moved hW.alike hK, hD⟩, hS.F ht⟩) hS.2.2 d_L_faults_22
set_option maxHeartbeats 4000000 in
set_option maxRecDepth 100000 in
theorem c_L_faultsY1 (l : Launch) (dC : Nat → ClassId) (dI : Nat → Nat → Nat) (cI cL : ClassId) (sz : Nat) (s0 m0 c0 e0 q1 : Nat) (vr : Nat) (p n : Nat) (hm : md p n) (k1 k2 k3 k4 k5 : Nat) (cc gc oc : Nat) (kd lf rg ol : Nat → Nat) (hk : ck cc gc oc kd lf rg ol) (vv : Nat → Nat) (mk : Nat → Nat) (hmk : ∀ c, c < cc → mk c < 2 ^ 64) (hvr : vr < 2 ^ n) (e1 sn : Nat) (rr : Nat → Nat) (m : Nat) (hmm : m ≤ 256) (x0 : Nat) (ou : Nat → Nat) : Met l y_L_faults w_L_faults ({ frames := 6, cells := 0, slots := 0, locals := 151 } : Room) (va_Pc [.ref s0, .int (nI m), .int (nI 1), .ref x0] (wq_W (dC, dI) classes [(s0, .inr (0, [.ref m0, .ref c0, .ref e0, .ref q1, .long (lN vr)])), (m0, .inr (1, [.long (lN p), .int (nI n), .long (lN (px_r p 2))])), (c0, .inr (2, [.ref k1, .ref k2, .ref k3, .ref k4, .ref k5, .int (nI cc), .int (nI gc), .int (nI oc)])), (k1, .inl (cI, 24, .inl (fun c => nI (kd c)))), (k2, .inl (cI, 24, .inl (fun c => nI (lf c)))), (k3, .inl (cI, 24, .inl (fun c => nI (rg c)))), (k4, .inl (cI, 16, .inl (fun c => nI (ol c)))), (k5, .inl (cL, 32, .inr (.inl (fun c => lN (vv c))))), (q1, .inl (cL, 8, .inr (.inl (fun c => lN (mk c))))), (e0, .inr (3, [.ref e1, .long (lN sn)])), (e1, .inl (cL, 33, .inr (.inl (fun c => lN (rr c))))), (x0, .inl (cL, 1, .inr (.inl (fun c => lN (ou c)))))] [(cI, .int), (cL, .long)] sz)) (va_Qi (fun (r : Int32) (u : ((Nat → Nat) × Nat × (Nat → Nat)) × Nat) => r = nI 0 ∧ ∃ z : Int32, z.toInt64 = lN u.2 ∧ (z = nI (cn_t (fsB (fun f j => fa p vr mk cc gc oc kd lf rg ol (some f) j) (fun j => fa p vr mk cc gc oc kd lf rg ol none j) m) 64))) (fun (u : ((Nat → Nat) × Nat × (Nat → Nat)) × Nat) t => wq_B (dC, dI) classes [(cI, .int), (cL, .long)] (va_A [(s0, .inr (0, [.ref m0, .ref c0, .ref e0, .ref q1, .long (lN vr)])), (m0, .inr (1, [.long (lN p), .int (nI n), .long (lN (px_r p 2))])), (c0, .inr (2, [.ref k1, .ref k2, .ref k3, .ref k4, .ref k5, .int (nI cc), .int (nI gc), .int (nI oc)])), (k1, .inl (cI, 24, .inl (fun c => nI (kd c)))), (k2, .inl (cI, 24, .inl (fun c => nI (lf c)))), (k3, .inl (cI, 24, .inl (fun c => nI (rg c)))), (k4, .inl (cI, 16, .inl (fun c => nI (ol c)))), (k5, .inl (cL, 32, .inr (.inl (fun c => lN (vv c))))), (q1, .inl (cL, 8, .inr (.inl (fun c => lN (mk c))))), (e0, .inr (3, [.ref e1, .long (lN sn)])), (e1, .inl (cL, 33, .inr (.inl (fun c => lN (rr c))))), (x0, .inl (cL, 1, .inr (.inl (fun c => lN (ou c)))))] sz) [(s0, .inr (0, [.ref m0, .ref c0, .ref e0, .ref q1, .long (lN vr)])), (m0, .inr (1, [.long (lN p), .int (nI n), .long (lN (px_r p 2))])), (c0, .inr (2, [.ref k1, .ref k2, .ref k3, .ref k4, .ref k5, .int (nI cc), .int (nI gc), .int (nI oc)])), (k1, .inl (cI, 24, .inl (fun c => nI (kd c)))), (k2, .inl (cI, 24, .inl (fun c => nI (lf c)))), (k3, .inl (cI, 24, .inl (fun c => nI (rg c)))), (k4, .inl (cI, 16, .inl (fun c => nI (ol c)))), (k5, .inl (cL, 32, .inr (.inl (fun c => lN (((u).1).2.2 c))))), (q1, .inl (cL, 8, .inr (.inl (fun c => lN (mk c))))), (e0, .inr (3, [.ref e1, .long (lN (((u).1).2.1))])), (e1, .inl (cL, 33, .inr (.inl (fun c => lN (((u).1).1 c))))), (x0, .inl (cL, 1, .inr (.inl (fun c => lN ((va_up ou 0 (u).2) c)))))] t) (va_A [(s0, .inr (0, [.ref m0, .ref c0, .ref e0, .ref q1, .long (lN vr)])), (m0, .inr (1, [.long (lN p), .int (nI n), .long (lN (px_r p 2))])), (c0, .inr (2, [.ref k1, .ref k2, .ref k3, .ref k4, .ref k5, .int (nI cc), .int (nI gc), .int (nI oc)])), (k1, .inl (cI, 24, .inl (fun c => nI (kd c)))), (k2, .inl (cI, 24, .inl (fun c => nI (lf c)))), (k3, .inl (cI, 24, .inl (fun c => nI (rg c)))), (k4, .inl (cI, 16, .inl (fun c => nI (ol c)))), (k5, .inl (cL, 32, .inr (.inl (fun c => lN (vv c))))), (q1, .inl (cL, 8, .inr (.inl (fun c => lN (mk c))))), (e0, .inr (3, [.ref e1, .long (lN sn)])), (e1, .inl (cL, 33, .inr (.inl (fun c => lN (rr c))))), (x0, .inl (cL, 1, .inr (.inl (fun c => lN (ou c)))))] sz)) 0 0 (va_A [(s0, .inr (0, [.ref m0, .ref c0, .ref e0, .ref q1, .long (lN vr)])), (m0, .inr (1, [.long (lN p), .int (nI n), .long (lN (px_r p 2))])), (c0, .inr (2, [.ref k1, .ref k2, .ref k3, .ref k4, .ref k5, .int (nI cc), .int (nI gc), .int (nI oc)])), (k1, .inl (cI, 24, .inl (fun c => nI (kd c)))), (k2, .inl (cI, 24, .inl (fun c => nI (lf c)))), (k3, .inl (cI, 24, .inl (fun c => nI (rg c)))), (k4, .inl (cI, 16, .inl (fun c => nI (ol c)))), (k5, .inl (cL, 32, .inr (.inl (fun c => lN (vv c))))), (q1, .inl (cL, 8, .inr (.inl (fun c => lN (mk c))))), (e0, .inr (3, [.ref e1, .long (lN sn)])), (e1, .inl (cL, 33, .inr (.inl (fun c => lN (rr c))))), (x0, .inl (cL, 1, .inr (.inl (fun c => lN (ou c)))))] sz) := by
  refine mt_ofWH (cc := b_L_faults) (maxL := 5) (ret := (Option.some Jvm.ClassFile.FieldType.int)) (hh := [((0 : Nat), (10 : Nat), (13 : Nat), (38 : Nat)), ((0 : Nat), (10 : Nat), (17 : Nat), (13 : Nat))]) (by decide) rfl ?_
  intro pg en st mm ar bw me co s₁ B hml htab hv
  obtain ⟨rfl, hsz, hP, hK, hD0, hN⟩ := hv
  have hx := B.exec
  have hb := B.bytes
  have hr := B.returns
  have hlocks := B.notSynchronized
  have hts0 := atoms_spec (ws := w_L_faults) B.pre
  have hts : ∀ w ∈ gw, w.before _ st = true := fun w h => hts0 w (List.mem_cons_of_mem _ h)
  have hown : st.vm.findClass R_L = some mm.cls := findClass_of_methodNamed B.named
  subst hsz
  have hD := hD0.self (sz := st.heap.size)
  generalize hAe : va_A [(s0, .inr (0, [.ref m0, .ref c0, .ref e0, .ref q1, .long (lN vr)])), (m0, .inr (1, [.long (lN p), .int (nI n), .long (lN (px_r p 2))])), (c0, .inr (2, [.ref k1, .ref k2, .ref k3, .ref k4, .ref k5, .int (nI cc), .int (nI gc), .int (nI oc)])), (k1, .inl (cI, 24, .inl (fun c => nI (kd c)))), (k2, .inl (cI, 24, .inl (fun c => nI (lf c)))), (k3, .inl (cI, 24, .inl (fun c => nI (rg c)))), (k4, .inl (cI, 16, .inl (fun c => nI (ol c)))), (k5, .inl (cL, 32, .inr (.inl (fun c => lN (vv c))))), (q1, .inl (cL, 8, .inr (.inl (fun c => lN (mk c))))), (e0, .inr (3, [.ref e1, .long (lN sn)])), (e1, .inl (cL, 33, .inr (.inl (fun c => lN (rr c))))), (x0, .inl (cL, 1, .inr (.inl (fun c => lN (ou c)))))] st.heap.size = A at hD ⊢
  have hA : ∀ q : Nat, st.heap.size ≤ q → A q := fun q h => by rw [← hAe]; exact Or.inr h
  have hS : va_S A st.heap st.heap [] := va_S.rf
  have hl := lv_entry ([.ref s0, .int (nI m), .int (nI 1), .ref x0]) (n := 5) (Nat.le_of_ble_eq_true rfl)
  rw [lg_entry_eq]
  generalize (lg_sl ([.ref s0, .int (nI m), .int (nI 1), .ref x0]) ++ List.replicate (5 - (lg_sl ([.ref s0, .int (nI m), .int (nI 1), .ref x0])).length) Slot.unset).toArray = ls at hl ⊢
  have hl : lv_has ls 5 [(0, .ref s0), (1, .int (nI m)), (2, .int (nI 1)), (3, .ref x0)] := hl
  refine lv_aload_n hx hb d_L_faults_0 rfl (lv_at hl 3 rfl) ?_
  refine lv_iconst (v := nI 0) hx hb d_L_faults_1 (by decide) ?_
  refine lv_aload_n hx hb d_L_faults_2 rfl (lv_at hl 0 rfl) ?_
  refine lv_iload_n hx hb d_L_faults_3 rfl (lv_at hl 1 rfl) ?_
  refine lv_iload_n hx hb d_L_faults_4 rfl (lv_at hl 2 rfl) ?_
  refine wq_i (wr := [(x0, .inl (cL, 1, .inr (.inl (fun c => lN (ou c)))))]) (va_runV (As := [.int (nI m), .int (nI 1)]) (rest := [.int (nI 0), .ref x0]) ⟨hx, hb, hml, hown, hts⟩ (c_S_faults1 l dC dI cI cL st.heap.size s0 m0 c0 e0 q1 vr p n hm k1 k2 k3 k4 k5 cc gc oc kd lf rg ol hk vv mk hmk hvr e1 sn rr m hmm) (cwV 2 hts (gi_V kw_468 kw_469 kw_470 kw_1 gi_S_faults) rfl rfl rfl ⟨rfl, by decide, by decide, by decide⟩ ⟨Nat.le_of_ble_eq_true rfl, Nat.le_of_ble_eq_true rfl⟩) (wq_preVW hP hD hK hN [0, 1, 2, 3, 4, 5, 6, 7, 8, 9, 10] rfl rfl (q0 := 0) (ci := 0) rfl rfl rfl) rfl rfl hl.1 rfl (lv_room (Nat.le_of_ble_eq_true rfl)) d_L_faults_5 ⟨Nat.le_of_ble_eq_true rfl, Nat.le_of_ble_eq_true rfl⟩) hP hD hS hA [0, 1, 2, 3, 4, 5, 6, 7, 8, 9, 10] [11] rfl rfl rfl (by decide) (fun r u H locs hq hP hD hS hz => ?_)
  have hP : va_P (dC, dI) classes [(x0, .inl (cL, 1, .inr (.inl (fun c => lN (ou c))))), (s0, .inr (0, [.ref m0, .ref c0, .ref e0, .ref q1, .long (lN vr)])), (m0, .inr (1, [.long (lN p), .int (nI n), .long (lN (px_r p 2))])), (c0, .inr (2, [.ref k1, .ref k2, .ref k3, .ref k4, .ref k5, .int (nI cc), .int (nI gc), .int (nI oc)])), (k1, .inl (cI, 24, .inl (fun c => nI (kd c)))), (k2, .inl (cI, 24, .inl (fun c => nI (lf c)))), (k3, .inl (cI, 24, .inl (fun c => nI (rg c)))), (k4, .inl (cI, 16, .inl (fun c => nI (ol c)))), (k5, .inl (cL, 32, .inr (.inl (fun c => lN ((u).2.2 c))))), (q1, .inl (cL, 8, .inr (.inl (fun c => lN (mk c))))), (e0, .inr (3, [.ref e1, .long (lN ((u).2.1))])), (e1, .inl (cL, 33, .inr (.inl (fun c => lN ((u).1 c)))))] H := hP
  have hD : va_D A [(x0, .inl (cL, 1, .inr (.inl (fun c => lN (ou c))))), (s0, .inr (0, [.ref m0, .ref c0, .ref e0, .ref q1, .long (lN vr)])), (m0, .inr (1, [.long (lN p), .int (nI n), .long (lN (px_r p 2))])), (c0, .inr (2, [.ref k1, .ref k2, .ref k3, .ref k4, .ref k5, .int (nI cc), .int (nI gc), .int (nI oc)])), (k1, .inl (cI, 24, .inl (fun c => nI (kd c)))), (k2, .inl (cI, 24, .inl (fun c => nI (lf c)))), (k3, .inl (cI, 24, .inl (fun c => nI (rg c)))), (k4, .inl (cI, 16, .inl (fun c => nI (ol c)))), (k5, .inl (cL, 32, .inr (.inl (fun c => lN ((u).2.2 c))))), (q1, .inl (cL, 8, .inr (.inl (fun c => lN (mk c))))), (e0, .inr (3, [.ref e1, .long (lN ((u).2.1))])), (e1, .inl (cL, 33, .inr (.inl (fun c => lN ((u).1 c)))))] := hD
  obtain ⟨wv, -, hwv⟩ := wb_of r.toInt64
  refine lv_i2l (v := lN wv) hx hb d_L_faults_8 (hwv) ?_
  refine va_last (D := (dC, dI)) (i := (nI 0)) (x := (lN wv)) hx hb hK hP hD hS 0 1 rfl rfl (vp_in_nI (by decide) (by decide)) d_L_faults_9 (fun H locs hP hD hS => ?_)
  rw [nI_clamp (by decide), updL_lN] at hP hD
  have hP : va_P (dC, dI) classes [(x0, .inl (cL, 1, .inr (.inl (fun c => lN ((va_up ou 0 wv) c))))), (s0, .inr (0, [.ref m0, .ref c0, .ref e0, .ref q1, .long (lN vr)])), (m0, .inr (1, [.long (lN p), .int (nI n), .long (lN (px_r p 2))])), (c0, .inr (2, [.ref k1, .ref k2, .ref k3, .ref k4, .ref k5, .int (nI cc), .int (nI gc), .int (nI oc)])), (k1, .inl (cI, 24, .inl (fun c => nI (kd c)))), (k2, .inl (cI, 24, .inl (fun c => nI (lf c)))), (k3, .inl (cI, 24, .inl (fun c => nI (rg c)))), (k4, .inl (cI, 16, .inl (fun c => nI (ol c)))), (k5, .inl (cL, 32, .inr (.inl (fun c => lN ((u).2.2 c))))), (q1, .inl (cL, 8, .inr (.inl (fun c => lN (mk c))))), (e0, .inr (3, [.ref e1, .long (lN ((u).2.1))])), (e1, .inl (cL, 33, .inr (.inl (fun c => lN ((u).1 c)))))] H := hP
  have hD : va_D A [(x0, .inl (cL, 1, .inr (.inl (fun c => lN ((va_up ou 0 wv) c))))), (s0, .inr (0, [.ref m0, .ref c0, .ref e0, .ref q1, .long (lN vr)])), (m0, .inr (1, [.long (lN p), .int (nI n), .long (lN (px_r p 2))])), (c0, .inr (2, [.ref k1, .ref k2, .ref k3, .ref k4, .ref k5, .int (nI cc), .int (nI gc), .int (nI oc)])), (k1, .inl (cI, 24, .inl (fun c => nI (kd c)))), (k2, .inl (cI, 24, .inl (fun c => nI (lf c)))), (k3, .inl (cI, 24, .inl (fun c => nI (rg c)))), (k4, .inl (cI, 16, .inl (fun c => nI (ol c)))), (k5, .inl (cL, 32, .inr (.inl (fun c => lN ((u).2.2 c))))), (q1, .inl (cL, 8, .inr (.inl (fun c => lN (mk c))))), (e0, .inr (3, [.ref e1, .long (lN ((u).2.1))])), (e1, .inl (cL, 33, .inr (.inl (fun c => lN ((u).1 c)))))] := hD
  refine lv_goto (tgt := 21) hx hb d_L_faults_10 (by decide) ?_
  refine lv_iconst (v := nI 0) hx hb d_L_faults_21 (by decide) ?_
  have hP := hP.sub (ws' := [(s0, .inr (0, [.ref m0, .ref c0, .ref e0, .ref q1, .long (lN vr)])), (m0, .inr (1, [.long (lN p), .int (nI n), .long (lN (px_r p 2))])), (c0, .inr (2, [.ref k1, .ref k2, .ref k3, .ref k4, .ref k5, .int (nI cc), .int (nI gc), .int (nI oc)])), (k1, .inl (cI, 24, .inl (fun c => nI (kd c)))), (k2, .inl (cI, 24, .inl (fun c => nI (lf c)))), (k3, .inl (cI, 24, .inl (fun c => nI (rg c)))), (k4, .inl (cI, 16, .inl (fun c => nI (ol c)))), (k5, .inl (cL, 32, .inr (.inl (fun c => lN ((u).2.2 c))))), (q1, .inl (cL, 8, .inr (.inl (fun c => lN (mk c))))), (e0, .inr (3, [.ref e1, .long (lN ((u).2.1))])), (e1, .inl (cL, 33, .inr (.inl (fun c => lN ((u).1 c))))), (x0, .inl (cL, 1, .inr (.inl (fun c => lN ((va_up ou 0 wv) c)))))]) [1, 2, 3, 4, 5, 6, 7, 8, 9, 10, 11, 0] rfl
  have hD := hD.sub (ws' := [(s0, .inr (0, [.ref m0, .ref c0, .ref e0, .ref q1, .long (lN vr)])), (m0, .inr (1, [.long (lN p), .int (nI n), .long (lN (px_r p 2))])), (c0, .inr (2, [.ref k1, .ref k2, .ref k3, .ref k4, .ref k5, .int (nI cc), .int (nI gc), .int (nI oc)])), (k1, .inl (cI, 24, .inl (fun c => nI (kd c)))), (k2, .inl (cI, 24, .inl (fun c => nI (lf c)))), (k3, .inl (cI, 24, .inl (fun c => nI (rg c)))), (k4, .inl (cI, 16, .inl (fun c => nI (ol c)))), (k5, .inl (cL, 32, .inr (.inl (fun c => lN ((u).2.2 c))))), (q1, .inl (cL, 8, .inr (.inl (fun c => lN (mk c))))), (e0, .inr (3, [.ref e1, .long (lN ((u).2.1))])), (e1, .inl (cL, 33, .inr (.inl (fun c => lN ((u).1 c))))), (x0, .inl (cL, 1, .inr (.inl (fun c => lN ((va_up ou 0 wv) c)))))]) [1, 2, 3, 4, 5, 6, 7, 8, 9, 10, 11, 0] (by decide) rfl
  exact W.iret (v := nI 0) hx hb hr (fun t9 ht hW => ⟨⟨nI 0, (u, wv), rfl, ⟨rfl, r, hwv, hq⟩, by rw [ht]; exact hP, va_K.moved hW.alike hK, hD⟩, hS.F ht⟩) hS.2.2 d_L_faults_22
set_option maxHeartbeats 4000000 in
set_option maxRecDepth 100000 in
theorem c_L_faultsY2 (l : Launch) (dC : Nat → ClassId) (dI : Nat → Nat → Nat) (cI cL : ClassId) (sz : Nat) (s0 m0 c0 e0 q1 : Nat) (vr : Nat) (p n : Nat) (hm : md p n) (k1 k2 k3 k4 k5 : Nat) (cc gc oc : Nat) (kd lf rg ol : Nat → Nat) (hk : ck cc gc oc kd lf rg ol) (vv : Nat → Nat) (mk : Nat → Nat) (hmk : ∀ c, c < cc → mk c < 2 ^ 64) (hvr : vr < 2 ^ n) (e1 sn : Nat) (rr : Nat → Nat) (m : Nat) (hmm : m ≤ 256) (x0 : Nat) (ou : Nat → Nat) : Met l y_L_faults w_L_faults ({ frames := 6, cells := 0, slots := 0, locals := 151 } : Room) (va_Pc [.ref s0, .int (nI m), .int (nI 2), .ref x0] (wq_W (dC, dI) classes [(s0, .inr (0, [.ref m0, .ref c0, .ref e0, .ref q1, .long (lN vr)])), (m0, .inr (1, [.long (lN p), .int (nI n), .long (lN (px_r p 2))])), (c0, .inr (2, [.ref k1, .ref k2, .ref k3, .ref k4, .ref k5, .int (nI cc), .int (nI gc), .int (nI oc)])), (k1, .inl (cI, 24, .inl (fun c => nI (kd c)))), (k2, .inl (cI, 24, .inl (fun c => nI (lf c)))), (k3, .inl (cI, 24, .inl (fun c => nI (rg c)))), (k4, .inl (cI, 16, .inl (fun c => nI (ol c)))), (k5, .inl (cL, 32, .inr (.inl (fun c => lN (vv c))))), (q1, .inl (cL, 8, .inr (.inl (fun c => lN (mk c))))), (e0, .inr (3, [.ref e1, .long (lN sn)])), (e1, .inl (cL, 33, .inr (.inl (fun c => lN (rr c))))), (x0, .inl (cL, 1, .inr (.inl (fun c => lN (ou c)))))] [(cI, .int), (cL, .long)] sz)) (va_Qi (fun (r : Int32) (u : ((Nat → Nat) × Nat × (Nat → Nat)) × Nat) => r = nI 0 ∧ ∃ z : Int32, z.toInt64 = lN u.2 ∧ (z = nI (cn_t (ffB p (fun f j => fa p vr mk cc gc oc kd lf rg ol (some f) j) (fun j => fa p vr mk cc gc oc kd lf rg ol none j) m) 64))) (fun (u : ((Nat → Nat) × Nat × (Nat → Nat)) × Nat) t => wq_B (dC, dI) classes [(cI, .int), (cL, .long)] (va_A [(s0, .inr (0, [.ref m0, .ref c0, .ref e0, .ref q1, .long (lN vr)])), (m0, .inr (1, [.long (lN p), .int (nI n), .long (lN (px_r p 2))])), (c0, .inr (2, [.ref k1, .ref k2, .ref k3, .ref k4, .ref k5, .int (nI cc), .int (nI gc), .int (nI oc)])), (k1, .inl (cI, 24, .inl (fun c => nI (kd c)))), (k2, .inl (cI, 24, .inl (fun c => nI (lf c)))), (k3, .inl (cI, 24, .inl (fun c => nI (rg c)))), (k4, .inl (cI, 16, .inl (fun c => nI (ol c)))), (k5, .inl (cL, 32, .inr (.inl (fun c => lN (vv c))))), (q1, .inl (cL, 8, .inr (.inl (fun c => lN (mk c))))), (e0, .inr (3, [.ref e1, .long (lN sn)])), (e1, .inl (cL, 33, .inr (.inl (fun c => lN (rr c))))), (x0, .inl (cL, 1, .inr (.inl (fun c => lN (ou c)))))] sz) [(s0, .inr (0, [.ref m0, .ref c0, .ref e0, .ref q1, .long (lN vr)])), (m0, .inr (1, [.long (lN p), .int (nI n), .long (lN (px_r p 2))])), (c0, .inr (2, [.ref k1, .ref k2, .ref k3, .ref k4, .ref k5, .int (nI cc), .int (nI gc), .int (nI oc)])), (k1, .inl (cI, 24, .inl (fun c => nI (kd c)))), (k2, .inl (cI, 24, .inl (fun c => nI (lf c)))), (k3, .inl (cI, 24, .inl (fun c => nI (rg c)))), (k4, .inl (cI, 16, .inl (fun c => nI (ol c)))), (k5, .inl (cL, 32, .inr (.inl (fun c => lN (((u).1).2.2 c))))), (q1, .inl (cL, 8, .inr (.inl (fun c => lN (mk c))))), (e0, .inr (3, [.ref e1, .long (lN (((u).1).2.1))])), (e1, .inl (cL, 33, .inr (.inl (fun c => lN (((u).1).1 c))))), (x0, .inl (cL, 1, .inr (.inl (fun c => lN ((va_up ou 0 (u).2) c)))))] t) (va_A [(s0, .inr (0, [.ref m0, .ref c0, .ref e0, .ref q1, .long (lN vr)])), (m0, .inr (1, [.long (lN p), .int (nI n), .long (lN (px_r p 2))])), (c0, .inr (2, [.ref k1, .ref k2, .ref k3, .ref k4, .ref k5, .int (nI cc), .int (nI gc), .int (nI oc)])), (k1, .inl (cI, 24, .inl (fun c => nI (kd c)))), (k2, .inl (cI, 24, .inl (fun c => nI (lf c)))), (k3, .inl (cI, 24, .inl (fun c => nI (rg c)))), (k4, .inl (cI, 16, .inl (fun c => nI (ol c)))), (k5, .inl (cL, 32, .inr (.inl (fun c => lN (vv c))))), (q1, .inl (cL, 8, .inr (.inl (fun c => lN (mk c))))), (e0, .inr (3, [.ref e1, .long (lN sn)])), (e1, .inl (cL, 33, .inr (.inl (fun c => lN (rr c))))), (x0, .inl (cL, 1, .inr (.inl (fun c => lN (ou c)))))] sz)) 0 0 (va_A [(s0, .inr (0, [.ref m0, .ref c0, .ref e0, .ref q1, .long (lN vr)])), (m0, .inr (1, [.long (lN p), .int (nI n), .long (lN (px_r p 2))])), (c0, .inr (2, [.ref k1, .ref k2, .ref k3, .ref k4, .ref k5, .int (nI cc), .int (nI gc), .int (nI oc)])), (k1, .inl (cI, 24, .inl (fun c => nI (kd c)))), (k2, .inl (cI, 24, .inl (fun c => nI (lf c)))), (k3, .inl (cI, 24, .inl (fun c => nI (rg c)))), (k4, .inl (cI, 16, .inl (fun c => nI (ol c)))), (k5, .inl (cL, 32, .inr (.inl (fun c => lN (vv c))))), (q1, .inl (cL, 8, .inr (.inl (fun c => lN (mk c))))), (e0, .inr (3, [.ref e1, .long (lN sn)])), (e1, .inl (cL, 33, .inr (.inl (fun c => lN (rr c))))), (x0, .inl (cL, 1, .inr (.inl (fun c => lN (ou c)))))] sz) := by
  refine mt_ofWH (cc := b_L_faults) (maxL := 5) (ret := (Option.some Jvm.ClassFile.FieldType.int)) (hh := [((0 : Nat), (10 : Nat), (13 : Nat), (38 : Nat)), ((0 : Nat), (10 : Nat), (17 : Nat), (13 : Nat))]) (by decide) rfl ?_
  intro pg en st mm ar bw me co s₁ B hml htab hv
  obtain ⟨rfl, hsz, hP, hK, hD0, hN⟩ := hv
  have hx := B.exec
  have hb := B.bytes
  have hr := B.returns
  have hlocks := B.notSynchronized
  have hts0 := atoms_spec (ws := w_L_faults) B.pre
  have hts : ∀ w ∈ gw, w.before _ st = true := fun w h => hts0 w (List.mem_cons_of_mem _ h)
  have hown : st.vm.findClass R_L = some mm.cls := findClass_of_methodNamed B.named
  subst hsz
  have hD := hD0.self (sz := st.heap.size)
  generalize hAe : va_A [(s0, .inr (0, [.ref m0, .ref c0, .ref e0, .ref q1, .long (lN vr)])), (m0, .inr (1, [.long (lN p), .int (nI n), .long (lN (px_r p 2))])), (c0, .inr (2, [.ref k1, .ref k2, .ref k3, .ref k4, .ref k5, .int (nI cc), .int (nI gc), .int (nI oc)])), (k1, .inl (cI, 24, .inl (fun c => nI (kd c)))), (k2, .inl (cI, 24, .inl (fun c => nI (lf c)))), (k3, .inl (cI, 24, .inl (fun c => nI (rg c)))), (k4, .inl (cI, 16, .inl (fun c => nI (ol c)))), (k5, .inl (cL, 32, .inr (.inl (fun c => lN (vv c))))), (q1, .inl (cL, 8, .inr (.inl (fun c => lN (mk c))))), (e0, .inr (3, [.ref e1, .long (lN sn)])), (e1, .inl (cL, 33, .inr (.inl (fun c => lN (rr c))))), (x0, .inl (cL, 1, .inr (.inl (fun c => lN (ou c)))))] st.heap.size = A at hD ⊢
  have hA : ∀ q : Nat, st.heap.size ≤ q → A q := fun q h => by rw [← hAe]; exact Or.inr h
  have hS : va_S A st.heap st.heap [] := va_S.rf
  have hl := lv_entry ([.ref s0, .int (nI m), .int (nI 2), .ref x0]) (n := 5) (Nat.le_of_ble_eq_true rfl)
  rw [lg_entry_eq]
  generalize (lg_sl ([.ref s0, .int (nI m), .int (nI 2), .ref x0]) ++ List.replicate (5 - (lg_sl ([.ref s0, .int (nI m), .int (nI 2), .ref x0])).length) Slot.unset).toArray = ls at hl ⊢
  have hl : lv_has ls 5 [(0, .ref s0), (1, .int (nI m)), (2, .int (nI 2)), (3, .ref x0)] := hl
  refine lv_aload_n hx hb d_L_faults_0 rfl (lv_at hl 3 rfl) ?_
  refine lv_iconst (v := nI 0) hx hb d_L_faults_1 (by decide) ?_
  refine lv_aload_n hx hb d_L_faults_2 rfl (lv_at hl 0 rfl) ?_
  refine lv_iload_n hx hb d_L_faults_3 rfl (lv_at hl 1 rfl) ?_
  refine lv_iload_n hx hb d_L_faults_4 rfl (lv_at hl 2 rfl) ?_
  refine wq_i (wr := [(x0, .inl (cL, 1, .inr (.inl (fun c => lN (ou c)))))]) (va_runV (As := [.int (nI m), .int (nI 2)]) (rest := [.int (nI 0), .ref x0]) ⟨hx, hb, hml, hown, hts⟩ (c_S_faults2 l dC dI cI cL st.heap.size s0 m0 c0 e0 q1 vr p n hm k1 k2 k3 k4 k5 cc gc oc kd lf rg ol hk vv mk hmk hvr e1 sn rr m hmm) (cwV 2 hts (gi_V kw_468 kw_469 kw_470 kw_1 gi_S_faults) rfl rfl rfl ⟨rfl, by decide, by decide, by decide⟩ ⟨Nat.le_of_ble_eq_true rfl, Nat.le_of_ble_eq_true rfl⟩) (wq_preVW hP hD hK hN [0, 1, 2, 3, 4, 5, 6, 7, 8, 9, 10] rfl rfl (q0 := 0) (ci := 0) rfl rfl rfl) rfl rfl hl.1 rfl (lv_room (Nat.le_of_ble_eq_true rfl)) d_L_faults_5 ⟨Nat.le_of_ble_eq_true rfl, Nat.le_of_ble_eq_true rfl⟩) hP hD hS hA [0, 1, 2, 3, 4, 5, 6, 7, 8, 9, 10] [11] rfl rfl rfl (by decide) (fun r u H locs hq hP hD hS hz => ?_)
  have hP : va_P (dC, dI) classes [(x0, .inl (cL, 1, .inr (.inl (fun c => lN (ou c))))), (s0, .inr (0, [.ref m0, .ref c0, .ref e0, .ref q1, .long (lN vr)])), (m0, .inr (1, [.long (lN p), .int (nI n), .long (lN (px_r p 2))])), (c0, .inr (2, [.ref k1, .ref k2, .ref k3, .ref k4, .ref k5, .int (nI cc), .int (nI gc), .int (nI oc)])), (k1, .inl (cI, 24, .inl (fun c => nI (kd c)))), (k2, .inl (cI, 24, .inl (fun c => nI (lf c)))), (k3, .inl (cI, 24, .inl (fun c => nI (rg c)))), (k4, .inl (cI, 16, .inl (fun c => nI (ol c)))), (k5, .inl (cL, 32, .inr (.inl (fun c => lN ((u).2.2 c))))), (q1, .inl (cL, 8, .inr (.inl (fun c => lN (mk c))))), (e0, .inr (3, [.ref e1, .long (lN ((u).2.1))])), (e1, .inl (cL, 33, .inr (.inl (fun c => lN ((u).1 c)))))] H := hP
  have hD : va_D A [(x0, .inl (cL, 1, .inr (.inl (fun c => lN (ou c))))), (s0, .inr (0, [.ref m0, .ref c0, .ref e0, .ref q1, .long (lN vr)])), (m0, .inr (1, [.long (lN p), .int (nI n), .long (lN (px_r p 2))])), (c0, .inr (2, [.ref k1, .ref k2, .ref k3, .ref k4, .ref k5, .int (nI cc), .int (nI gc), .int (nI oc)])), (k1, .inl (cI, 24, .inl (fun c => nI (kd c)))), (k2, .inl (cI, 24, .inl (fun c => nI (lf c)))), (k3, .inl (cI, 24, .inl (fun c => nI (rg c)))), (k4, .inl (cI, 16, .inl (fun c => nI (ol c)))), (k5, .inl (cL, 32, .inr (.inl (fun c => lN ((u).2.2 c))))), (q1, .inl (cL, 8, .inr (.inl (fun c => lN (mk c))))), (e0, .inr (3, [.ref e1, .long (lN ((u).2.1))])), (e1, .inl (cL, 33, .inr (.inl (fun c => lN ((u).1 c)))))] := hD
  obtain ⟨wv, -, hwv⟩ := wb_of r.toInt64
  refine lv_i2l (v := lN wv) hx hb d_L_faults_8 (hwv) ?_
  refine va_last (D := (dC, dI)) (i := (nI 0)) (x := (lN wv)) hx hb hK hP hD hS 0 1 rfl rfl (vp_in_nI (by decide) (by decide)) d_L_faults_9 (fun H locs hP hD hS => ?_)
  rw [nI_clamp (by decide), updL_lN] at hP hD
  have hP : va_P (dC, dI) classes [(x0, .inl (cL, 1, .inr (.inl (fun c => lN ((va_up ou 0 wv) c))))), (s0, .inr (0, [.ref m0, .ref c0, .ref e0, .ref q1, .long (lN vr)])), (m0, .inr (1, [.long (lN p), .int (nI n), .long (lN (px_r p 2))])), (c0, .inr (2, [.ref k1, .ref k2, .ref k3, .ref k4, .ref k5, .int (nI cc), .int (nI gc), .int (nI oc)])), (k1, .inl (cI, 24, .inl (fun c => nI (kd c)))), (k2, .inl (cI, 24, .inl (fun c => nI (lf c)))), (k3, .inl (cI, 24, .inl (fun c => nI (rg c)))), (k4, .inl (cI, 16, .inl (fun c => nI (ol c)))), (k5, .inl (cL, 32, .inr (.inl (fun c => lN ((u).2.2 c))))), (q1, .inl (cL, 8, .inr (.inl (fun c => lN (mk c))))), (e0, .inr (3, [.ref e1, .long (lN ((u).2.1))])), (e1, .inl (cL, 33, .inr (.inl (fun c => lN ((u).1 c)))))] H := hP
  have hD : va_D A [(x0, .inl (cL, 1, .inr (.inl (fun c => lN ((va_up ou 0 wv) c))))), (s0, .inr (0, [.ref m0, .ref c0, .ref e0, .ref q1, .long (lN vr)])), (m0, .inr (1, [.long (lN p), .int (nI n), .long (lN (px_r p 2))])), (c0, .inr (2, [.ref k1, .ref k2, .ref k3, .ref k4, .ref k5, .int (nI cc), .int (nI gc), .int (nI oc)])), (k1, .inl (cI, 24, .inl (fun c => nI (kd c)))), (k2, .inl (cI, 24, .inl (fun c => nI (lf c)))), (k3, .inl (cI, 24, .inl (fun c => nI (rg c)))), (k4, .inl (cI, 16, .inl (fun c => nI (ol c)))), (k5, .inl (cL, 32, .inr (.inl (fun c => lN ((u).2.2 c))))), (q1, .inl (cL, 8, .inr (.inl (fun c => lN (mk c))))), (e0, .inr (3, [.ref e1, .long (lN ((u).2.1))])), (e1, .inl (cL, 33, .inr (.inl (fun c => lN ((u).1 c)))))] := hD
  refine lv_goto (tgt := 21) hx hb d_L_faults_10 (by decide) ?_
  refine lv_iconst (v := nI 0) hx hb d_L_faults_21 (by decide) ?_
  have hP := hP.sub (ws' := [(s0, .inr (0, [.ref m0, .ref c0, .ref e0, .ref q1, .long (lN vr)])), (m0, .inr (1, [.long (lN p), .int (nI n), .long (lN (px_r p 2))])), (c0, .inr (2, [.ref k1, .ref k2, .ref k3, .ref k4, .ref k5, .int (nI cc), .int (nI gc), .int (nI oc)])), (k1, .inl (cI, 24, .inl (fun c => nI (kd c)))), (k2, .inl (cI, 24, .inl (fun c => nI (lf c)))), (k3, .inl (cI, 24, .inl (fun c => nI (rg c)))), (k4, .inl (cI, 16, .inl (fun c => nI (ol c)))), (k5, .inl (cL, 32, .inr (.inl (fun c => lN ((u).2.2 c))))), (q1, .inl (cL, 8, .inr (.inl (fun c => lN (mk c))))), (e0, .inr (3, [.ref e1, .long (lN ((u).2.1))])), (e1, .inl (cL, 33, .inr (.inl (fun c => lN ((u).1 c))))), (x0, .inl (cL, 1, .inr (.inl (fun c => lN ((va_up ou 0 wv) c)))))]) [1, 2, 3, 4, 5, 6, 7, 8, 9, 10, 11, 0] rfl
  have hD := hD.sub (ws' := [(s0, .inr (0, [.ref m0, .ref c0, .ref e0, .ref q1, .long (lN vr)])), (m0, .inr (1, [.long (lN p), .int (nI n), .long (lN (px_r p 2))])), (c0, .inr (2, [.ref k1, .ref k2, .ref k3, .ref k4, .ref k5, .int (nI cc), .int (nI gc), .int (nI oc)])), (k1, .inl (cI, 24, .inl (fun c => nI (kd c)))), (k2, .inl (cI, 24, .inl (fun c => nI (lf c)))), (k3, .inl (cI, 24, .inl (fun c => nI (rg c)))), (k4, .inl (cI, 16, .inl (fun c => nI (ol c)))), (k5, .inl (cL, 32, .inr (.inl (fun c => lN ((u).2.2 c))))), (q1, .inl (cL, 8, .inr (.inl (fun c => lN (mk c))))), (e0, .inr (3, [.ref e1, .long (lN ((u).2.1))])), (e1, .inl (cL, 33, .inr (.inl (fun c => lN ((u).1 c))))), (x0, .inl (cL, 1, .inr (.inl (fun c => lN ((va_up ou 0 wv) c)))))]) [1, 2, 3, 4, 5, 6, 7, 8, 9, 10, 11, 0] (by decide) rfl
  exact W.iret (v := nI 0) hx hb hr (fun t9 ht hW => ⟨⟨nI 0, (u, wv), rfl, ⟨rfl, r, hwv, hq⟩, by rw [ht]; exact hP, va_K.moved hW.alike hK, hD⟩, hS.F ht⟩) hS.2.2 d_L_faults_22
set_option maxHeartbeats 4000000 in
set_option maxRecDepth 100000 in
theorem c_L_faultsY3 (l : Launch) (dC : Nat → ClassId) (dI : Nat → Nat → Nat) (cI cL : ClassId) (sz : Nat) (s0 m0 c0 e0 q1 : Nat) (vr : Nat) (p n : Nat) (hm : md p n) (k1 k2 k3 k4 k5 : Nat) (cc gc oc : Nat) (kd lf rg ol : Nat → Nat) (hk : ck cc gc oc kd lf rg ol) (vv : Nat → Nat) (mk : Nat → Nat) (hmk : ∀ c, c < cc → mk c < 2 ^ 64) (hvr : vr < 2 ^ n) (e1 sn : Nat) (rr : Nat → Nat) (m : Nat) (hmm : m ≤ 256) (x0 : Nat) (ou : Nat → Nat) : Met l y_L_faults w_L_faults ({ frames := 6, cells := 0, slots := 0, locals := 151 } : Room) (va_Pc [.ref s0, .int (nI m), .int (nI 3), .ref x0] (wq_W (dC, dI) classes [(s0, .inr (0, [.ref m0, .ref c0, .ref e0, .ref q1, .long (lN vr)])), (m0, .inr (1, [.long (lN p), .int (nI n), .long (lN (px_r p 2))])), (c0, .inr (2, [.ref k1, .ref k2, .ref k3, .ref k4, .ref k5, .int (nI cc), .int (nI gc), .int (nI oc)])), (k1, .inl (cI, 24, .inl (fun c => nI (kd c)))), (k2, .inl (cI, 24, .inl (fun c => nI (lf c)))), (k3, .inl (cI, 24, .inl (fun c => nI (rg c)))), (k4, .inl (cI, 16, .inl (fun c => nI (ol c)))), (k5, .inl (cL, 32, .inr (.inl (fun c => lN (vv c))))), (q1, .inl (cL, 8, .inr (.inl (fun c => lN (mk c))))), (e0, .inr (3, [.ref e1, .long (lN sn)])), (e1, .inl (cL, 33, .inr (.inl (fun c => lN (rr c))))), (x0, .inl (cL, 1, .inr (.inl (fun c => lN (ou c)))))] [(cI, .int), (cL, .long)] sz)) (va_Qi (fun (r : Int32) (u : ((Nat → Nat) × Nat × (Nat → Nat)) × Nat) => r = nI 0 ∧ ∃ z : Int32, z.toInt64 = lN u.2 ∧ ((∃ k, k < 64 ∧ (fsB (fun f j => fa p vr mk cc gc oc kd lf rg ol (some f) j) (fun j => fa p vr mk cc gc oc kd lf rg ol none j) m k = true ∧ ¬ ffB p (fun f j => fa p vr mk cc gc oc kd lf rg ol (some f) j) (fun j => fa p vr mk cc gc oc kd lf rg ol none j) m k = true) ∧ (∀ j, j < k → ¬ (fsB (fun f j => fa p vr mk cc gc oc kd lf rg ol (some f) j) (fun j => fa p vr mk cc gc oc kd lf rg ol none j) m j = true ∧ ¬ ffB p (fun f j => fa p vr mk cc gc oc kd lf rg ol (some f) j) (fun j => fa p vr mk cc gc oc kd lf rg ol none j) m j = true)) ∧ z = nI k) ∨ ((∀ j, j < 64 → ¬ (fsB (fun f j => fa p vr mk cc gc oc kd lf rg ol (some f) j) (fun j => fa p vr mk cc gc oc kd lf rg ol none j) m j = true ∧ ¬ ffB p (fun f j => fa p vr mk cc gc oc kd lf rg ol (some f) j) (fun j => fa p vr mk cc gc oc kd lf rg ol none j) m j = true)) ∧ z = -1))) (fun (u : ((Nat → Nat) × Nat × (Nat → Nat)) × Nat) t => wq_B (dC, dI) classes [(cI, .int), (cL, .long)] (va_A [(s0, .inr (0, [.ref m0, .ref c0, .ref e0, .ref q1, .long (lN vr)])), (m0, .inr (1, [.long (lN p), .int (nI n), .long (lN (px_r p 2))])), (c0, .inr (2, [.ref k1, .ref k2, .ref k3, .ref k4, .ref k5, .int (nI cc), .int (nI gc), .int (nI oc)])), (k1, .inl (cI, 24, .inl (fun c => nI (kd c)))), (k2, .inl (cI, 24, .inl (fun c => nI (lf c)))), (k3, .inl (cI, 24, .inl (fun c => nI (rg c)))), (k4, .inl (cI, 16, .inl (fun c => nI (ol c)))), (k5, .inl (cL, 32, .inr (.inl (fun c => lN (vv c))))), (q1, .inl (cL, 8, .inr (.inl (fun c => lN (mk c))))), (e0, .inr (3, [.ref e1, .long (lN sn)])), (e1, .inl (cL, 33, .inr (.inl (fun c => lN (rr c))))), (x0, .inl (cL, 1, .inr (.inl (fun c => lN (ou c)))))] sz) [(s0, .inr (0, [.ref m0, .ref c0, .ref e0, .ref q1, .long (lN vr)])), (m0, .inr (1, [.long (lN p), .int (nI n), .long (lN (px_r p 2))])), (c0, .inr (2, [.ref k1, .ref k2, .ref k3, .ref k4, .ref k5, .int (nI cc), .int (nI gc), .int (nI oc)])), (k1, .inl (cI, 24, .inl (fun c => nI (kd c)))), (k2, .inl (cI, 24, .inl (fun c => nI (lf c)))), (k3, .inl (cI, 24, .inl (fun c => nI (rg c)))), (k4, .inl (cI, 16, .inl (fun c => nI (ol c)))), (k5, .inl (cL, 32, .inr (.inl (fun c => lN (((u).1).2.2 c))))), (q1, .inl (cL, 8, .inr (.inl (fun c => lN (mk c))))), (e0, .inr (3, [.ref e1, .long (lN (((u).1).2.1))])), (e1, .inl (cL, 33, .inr (.inl (fun c => lN (((u).1).1 c))))), (x0, .inl (cL, 1, .inr (.inl (fun c => lN ((va_up ou 0 (u).2) c)))))] t) (va_A [(s0, .inr (0, [.ref m0, .ref c0, .ref e0, .ref q1, .long (lN vr)])), (m0, .inr (1, [.long (lN p), .int (nI n), .long (lN (px_r p 2))])), (c0, .inr (2, [.ref k1, .ref k2, .ref k3, .ref k4, .ref k5, .int (nI cc), .int (nI gc), .int (nI oc)])), (k1, .inl (cI, 24, .inl (fun c => nI (kd c)))), (k2, .inl (cI, 24, .inl (fun c => nI (lf c)))), (k3, .inl (cI, 24, .inl (fun c => nI (rg c)))), (k4, .inl (cI, 16, .inl (fun c => nI (ol c)))), (k5, .inl (cL, 32, .inr (.inl (fun c => lN (vv c))))), (q1, .inl (cL, 8, .inr (.inl (fun c => lN (mk c))))), (e0, .inr (3, [.ref e1, .long (lN sn)])), (e1, .inl (cL, 33, .inr (.inl (fun c => lN (rr c))))), (x0, .inl (cL, 1, .inr (.inl (fun c => lN (ou c)))))] sz)) 0 0 (va_A [(s0, .inr (0, [.ref m0, .ref c0, .ref e0, .ref q1, .long (lN vr)])), (m0, .inr (1, [.long (lN p), .int (nI n), .long (lN (px_r p 2))])), (c0, .inr (2, [.ref k1, .ref k2, .ref k3, .ref k4, .ref k5, .int (nI cc), .int (nI gc), .int (nI oc)])), (k1, .inl (cI, 24, .inl (fun c => nI (kd c)))), (k2, .inl (cI, 24, .inl (fun c => nI (lf c)))), (k3, .inl (cI, 24, .inl (fun c => nI (rg c)))), (k4, .inl (cI, 16, .inl (fun c => nI (ol c)))), (k5, .inl (cL, 32, .inr (.inl (fun c => lN (vv c))))), (q1, .inl (cL, 8, .inr (.inl (fun c => lN (mk c))))), (e0, .inr (3, [.ref e1, .long (lN sn)])), (e1, .inl (cL, 33, .inr (.inl (fun c => lN (rr c))))), (x0, .inl (cL, 1, .inr (.inl (fun c => lN (ou c)))))] sz) := by
  refine mt_ofWH (cc := b_L_faults) (maxL := 5) (ret := (Option.some Jvm.ClassFile.FieldType.int)) (hh := [((0 : Nat), (10 : Nat), (13 : Nat), (38 : Nat)), ((0 : Nat), (10 : Nat), (17 : Nat), (13 : Nat))]) (by decide) rfl ?_
  intro pg en st mm ar bw me co s₁ B hml htab hv
  obtain ⟨rfl, hsz, hP, hK, hD0, hN⟩ := hv
  have hx := B.exec
  have hb := B.bytes
  have hr := B.returns
  have hlocks := B.notSynchronized
  have hts0 := atoms_spec (ws := w_L_faults) B.pre
  have hts : ∀ w ∈ gw, w.before _ st = true := fun w h => hts0 w (List.mem_cons_of_mem _ h)
  have hown : st.vm.findClass R_L = some mm.cls := findClass_of_methodNamed B.named
  subst hsz
  have hD := hD0.self (sz := st.heap.size)
  generalize hAe : va_A [(s0, .inr (0, [.ref m0, .ref c0, .ref e0, .ref q1, .long (lN vr)])), (m0, .inr (1, [.long (lN p), .int (nI n), .long (lN (px_r p 2))])), (c0, .inr (2, [.ref k1, .ref k2, .ref k3, .ref k4, .ref k5, .int (nI cc), .int (nI gc), .int (nI oc)])), (k1, .inl (cI, 24, .inl (fun c => nI (kd c)))), (k2, .inl (cI, 24, .inl (fun c => nI (lf c)))), (k3, .inl (cI, 24, .inl (fun c => nI (rg c)))), (k4, .inl (cI, 16, .inl (fun c => nI (ol c)))), (k5, .inl (cL, 32, .inr (.inl (fun c => lN (vv c))))), (q1, .inl (cL, 8, .inr (.inl (fun c => lN (mk c))))), (e0, .inr (3, [.ref e1, .long (lN sn)])), (e1, .inl (cL, 33, .inr (.inl (fun c => lN (rr c))))), (x0, .inl (cL, 1, .inr (.inl (fun c => lN (ou c)))))] st.heap.size = A at hD ⊢
  have hA : ∀ q : Nat, st.heap.size ≤ q → A q := fun q h => by rw [← hAe]; exact Or.inr h
  have hS : va_S A st.heap st.heap [] := va_S.rf
  have hl := lv_entry ([.ref s0, .int (nI m), .int (nI 3), .ref x0]) (n := 5) (Nat.le_of_ble_eq_true rfl)
  rw [lg_entry_eq]
  generalize (lg_sl ([.ref s0, .int (nI m), .int (nI 3), .ref x0]) ++ List.replicate (5 - (lg_sl ([.ref s0, .int (nI m), .int (nI 3), .ref x0])).length) Slot.unset).toArray = ls at hl ⊢
  have hl : lv_has ls 5 [(0, .ref s0), (1, .int (nI m)), (2, .int (nI 3)), (3, .ref x0)] := hl
  refine lv_aload_n hx hb d_L_faults_0 rfl (lv_at hl 3 rfl) ?_
  refine lv_iconst (v := nI 0) hx hb d_L_faults_1 (by decide) ?_
  refine lv_aload_n hx hb d_L_faults_2 rfl (lv_at hl 0 rfl) ?_
  refine lv_iload_n hx hb d_L_faults_3 rfl (lv_at hl 1 rfl) ?_
  refine lv_iload_n hx hb d_L_faults_4 rfl (lv_at hl 2 rfl) ?_
  refine wq_i (wr := [(x0, .inl (cL, 1, .inr (.inl (fun c => lN (ou c)))))]) (va_runV (As := [.int (nI m), .int (nI 3)]) (rest := [.int (nI 0), .ref x0]) ⟨hx, hb, hml, hown, hts⟩ (c_S_faults3 l dC dI cI cL st.heap.size s0 m0 c0 e0 q1 vr p n hm k1 k2 k3 k4 k5 cc gc oc kd lf rg ol hk vv mk hmk hvr e1 sn rr m hmm) (cwV 2 hts (gi_V kw_468 kw_469 kw_470 kw_1 gi_S_faults) rfl rfl rfl ⟨rfl, by decide, by decide, by decide⟩ ⟨Nat.le_of_ble_eq_true rfl, Nat.le_of_ble_eq_true rfl⟩) (wq_preVW hP hD hK hN [0, 1, 2, 3, 4, 5, 6, 7, 8, 9, 10] rfl rfl (q0 := 0) (ci := 0) rfl rfl rfl) rfl rfl hl.1 rfl (lv_room (Nat.le_of_ble_eq_true rfl)) d_L_faults_5 ⟨Nat.le_of_ble_eq_true rfl, Nat.le_of_ble_eq_true rfl⟩) hP hD hS hA [0, 1, 2, 3, 4, 5, 6, 7, 8, 9, 10] [11] rfl rfl rfl (by decide) (fun r u H locs hq hP hD hS hz => ?_)
  have hP : va_P (dC, dI) classes [(x0, .inl (cL, 1, .inr (.inl (fun c => lN (ou c))))), (s0, .inr (0, [.ref m0, .ref c0, .ref e0, .ref q1, .long (lN vr)])), (m0, .inr (1, [.long (lN p), .int (nI n), .long (lN (px_r p 2))])), (c0, .inr (2, [.ref k1, .ref k2, .ref k3, .ref k4, .ref k5, .int (nI cc), .int (nI gc), .int (nI oc)])), (k1, .inl (cI, 24, .inl (fun c => nI (kd c)))), (k2, .inl (cI, 24, .inl (fun c => nI (lf c)))), (k3, .inl (cI, 24, .inl (fun c => nI (rg c)))), (k4, .inl (cI, 16, .inl (fun c => nI (ol c)))), (k5, .inl (cL, 32, .inr (.inl (fun c => lN ((u).2.2 c))))), (q1, .inl (cL, 8, .inr (.inl (fun c => lN (mk c))))), (e0, .inr (3, [.ref e1, .long (lN ((u).2.1))])), (e1, .inl (cL, 33, .inr (.inl (fun c => lN ((u).1 c)))))] H := hP
  have hD : va_D A [(x0, .inl (cL, 1, .inr (.inl (fun c => lN (ou c))))), (s0, .inr (0, [.ref m0, .ref c0, .ref e0, .ref q1, .long (lN vr)])), (m0, .inr (1, [.long (lN p), .int (nI n), .long (lN (px_r p 2))])), (c0, .inr (2, [.ref k1, .ref k2, .ref k3, .ref k4, .ref k5, .int (nI cc), .int (nI gc), .int (nI oc)])), (k1, .inl (cI, 24, .inl (fun c => nI (kd c)))), (k2, .inl (cI, 24, .inl (fun c => nI (lf c)))), (k3, .inl (cI, 24, .inl (fun c => nI (rg c)))), (k4, .inl (cI, 16, .inl (fun c => nI (ol c)))), (k5, .inl (cL, 32, .inr (.inl (fun c => lN ((u).2.2 c))))), (q1, .inl (cL, 8, .inr (.inl (fun c => lN (mk c))))), (e0, .inr (3, [.ref e1, .long (lN ((u).2.1))])), (e1, .inl (cL, 33, .inr (.inl (fun c => lN ((u).1 c)))))] := hD
  obtain ⟨wv, -, hwv⟩ := wb_of r.toInt64
  refine lv_i2l (v := lN wv) hx hb d_L_faults_8 (hwv) ?_
  refine va_last (D := (dC, dI)) (i := (nI 0)) (x := (lN wv)) hx hb hK hP hD hS 0 1 rfl rfl (vp_in_nI (by decide) (by decide)) d_L_faults_9 (fun H locs hP hD hS => ?_)
  rw [nI_clamp (by decide), updL_lN] at hP hD
  have hP : va_P (dC, dI) classes [(x0, .inl (cL, 1, .inr (.inl (fun c => lN ((va_up ou 0 wv) c))))), (s0, .inr (0, [.ref m0, .ref c0, .ref e0, .ref q1, .long (lN vr)])), (m0, .inr (1, [.long (lN p), .int (nI n), .long (lN (px_r p 2))])), (c0, .inr (2, [.ref k1, .ref k2, .ref k3, .ref k4, .ref k5, .int (nI cc), .int (nI gc), .int (nI oc)])), (k1, .inl (cI, 24, .inl (fun c => nI (kd c)))), (k2, .inl (cI, 24, .inl (fun c => nI (lf c)))), (k3, .inl (cI, 24, .inl (fun c => nI (rg c)))), (k4, .inl (cI, 16, .inl (fun c => nI (ol c)))), (k5, .inl (cL, 32, .inr (.inl (fun c => lN ((u).2.2 c))))), (q1, .inl (cL, 8, .inr (.inl (fun c => lN (mk c))))), (e0, .inr (3, [.ref e1, .long (lN ((u).2.1))])), (e1, .inl (cL, 33, .inr (.inl (fun c => lN ((u).1 c)))))] H := hP
  have hD : va_D A [(x0, .inl (cL, 1, .inr (.inl (fun c => lN ((va_up ou 0 wv) c))))), (s0, .inr (0, [.ref m0, .ref c0, .ref e0, .ref q1, .long (lN vr)])), (m0, .inr (1, [.long (lN p), .int (nI n), .long (lN (px_r p 2))])), (c0, .inr (2, [.ref k1, .ref k2, .ref k3, .ref k4, .ref k5, .int (nI cc), .int (nI gc), .int (nI oc)])), (k1, .inl (cI, 24, .inl (fun c => nI (kd c)))), (k2, .inl (cI, 24, .inl (fun c => nI (lf c)))), (k3, .inl (cI, 24, .inl (fun c => nI (rg c)))), (k4, .inl (cI, 16, .inl (fun c => nI (ol c)))), (k5, .inl (cL, 32, .inr (.inl (fun c => lN ((u).2.2 c))))), (q1, .inl (cL, 8, .inr (.inl (fun c => lN (mk c))))), (e0, .inr (3, [.ref e1, .long (lN ((u).2.1))])), (e1, .inl (cL, 33, .inr (.inl (fun c => lN ((u).1 c)))))] := hD
  refine lv_goto (tgt := 21) hx hb d_L_faults_10 (by decide) ?_
  refine lv_iconst (v := nI 0) hx hb d_L_faults_21 (by decide) ?_
  have hP := hP.sub (ws' := [(s0, .inr (0, [.ref m0, .ref c0, .ref e0, .ref q1, .long (lN vr)])), (m0, .inr (1, [.long (lN p), .int (nI n), .long (lN (px_r p 2))])), (c0, .inr (2, [.ref k1, .ref k2, .ref k3, .ref k4, .ref k5, .int (nI cc), .int (nI gc), .int (nI oc)])), (k1, .inl (cI, 24, .inl (fun c => nI (kd c)))), (k2, .inl (cI, 24, .inl (fun c => nI (lf c)))), (k3, .inl (cI, 24, .inl (fun c => nI (rg c)))), (k4, .inl (cI, 16, .inl (fun c => nI (ol c)))), (k5, .inl (cL, 32, .inr (.inl (fun c => lN ((u).2.2 c))))), (q1, .inl (cL, 8, .inr (.inl (fun c => lN (mk c))))), (e0, .inr (3, [.ref e1, .long (lN ((u).2.1))])), (e1, .inl (cL, 33, .inr (.inl (fun c => lN ((u).1 c))))), (x0, .inl (cL, 1, .inr (.inl (fun c => lN ((va_up ou 0 wv) c)))))]) [1, 2, 3, 4, 5, 6, 7, 8, 9, 10, 11, 0] rfl
  have hD := hD.sub (ws' := [(s0, .inr (0, [.ref m0, .ref c0, .ref e0, .ref q1, .long (lN vr)])), (m0, .inr (1, [.long (lN p), .int (nI n), .long (lN (px_r p 2))])), (c0, .inr (2, [.ref k1, .ref k2, .ref k3, .ref k4, .ref k5, .int (nI cc), .int (nI gc), .int (nI oc)])), (k1, .inl (cI, 24, .inl (fun c => nI (kd c)))), (k2, .inl (cI, 24, .inl (fun c => nI (lf c)))), (k3, .inl (cI, 24, .inl (fun c => nI (rg c)))), (k4, .inl (cI, 16, .inl (fun c => nI (ol c)))), (k5, .inl (cL, 32, .inr (.inl (fun c => lN ((u).2.2 c))))), (q1, .inl (cL, 8, .inr (.inl (fun c => lN (mk c))))), (e0, .inr (3, [.ref e1, .long (lN ((u).2.1))])), (e1, .inl (cL, 33, .inr (.inl (fun c => lN ((u).1 c))))), (x0, .inl (cL, 1, .inr (.inl (fun c => lN ((va_up ou 0 wv) c)))))]) [1, 2, 3, 4, 5, 6, 7, 8, 9, 10, 11, 0] (by decide) rfl
  exact W.iret (v := nI 0) hx hb hr (fun t9 ht hW => ⟨⟨nI 0, (u, wv), rfl, ⟨rfl, r, hwv, hq⟩, by rw [ht]; exact hP, va_K.moved hW.alike hK, hD⟩, hS.F ht⟩) hS.2.2 d_L_faults_22
set_option maxHeartbeats 4000000 in
set_option maxRecDepth 100000 in
theorem c_L_polynomialX (l : Launch) (dC : Nat → ClassId) (dI : Nat → Nat → Nat) (cI cL : ClassId) (hlt : l.stackTraces = false) (sz : Nat) (s0 m0 c0 e0 q1 : Nat) (vr : Nat) (p : Nat) (hp0 : p < 2 ^ 64) (hbad : ∀ n, ¬ md p n) (x0 : Nat) (ou : Nat → Nat) : Met l y_L_polynomial w_L_polynomial ({ frames := 7, cells := 1, slots := 6, locals := 105 } : Room) (va_Pc [.ref s0, .long (lN p), .ref x0] (wq_E (dC, dI) classes [(s0, .inr (0, [.ref m0, .ref c0, .ref e0, .ref q1, .long (lN vr)])), (x0, .inl (cL, 1, .inr (.inl (fun c => lN (ou c)))))] [(cI, .int), (cL, .long)] sz)) (va_Qi (fun (r : Int32) (u : Unit) => r = nI 1) (fun (u : Unit) t => wq_B (dC, dI) classes [(cI, .int), (cL, .long)] (va_A [(s0, .inr (0, [.ref m0, .ref c0, .ref e0, .ref q1, .long (lN vr)])), (x0, .inl (cL, 1, .inr (.inl (fun c => lN (ou c)))))] sz) [(s0, .inr (0, [.ref m0, .ref c0, .ref e0, .ref q1, .long (lN vr)])), (x0, .inl (cL, 1, .inr (.inl (fun c => lN (ou c)))))] t) (va_A [(s0, .inr (0, [.ref m0, .ref c0, .ref e0, .ref q1, .long (lN vr)])), (x0, .inl (cL, 1, .inr (.inl (fun c => lN (ou c)))))] sz)) 1 6 (va_A [(s0, .inr (0, [.ref m0, .ref c0, .ref e0, .ref q1, .long (lN vr)])), (x0, .inl (cL, 1, .inr (.inl (fun c => lN (ou c)))))] sz) := by
  refine mt_ofWH (cc := b_L_polynomial) (maxL := 5) (ret := (Option.some Jvm.ClassFile.FieldType.int)) (hh := [((0 : Nat), (9 : Nat), (12 : Nat), (13 : Nat))]) (by decide) rfl ?_
  intro pg en st mm ar bw me co s₁ B hml htab hv
  obtain ⟨rfl, ⟨hsz, hP, hK, hD0, hN⟩, hE, hZ, hC⟩ := hv
  have hx := B.exec
  have hb := B.bytes
  have hr := B.returns
  have hlocks := B.notSynchronized
  have hts0 := atoms_spec (ws := w_L_polynomial) B.pre
  have hts : ∀ w ∈ gw, w.before _ st = true := fun w h => hts0 w (List.mem_cons_of_mem _ h)
  have hown : st.vm.findClass R_L = some mm.cls := findClass_of_methodNamed B.named
  subst hsz
  have hD := hD0.self (sz := st.heap.size)
  generalize hAe : va_A [(s0, .inr (0, [.ref m0, .ref c0, .ref e0, .ref q1, .long (lN vr)])), (x0, .inl (cL, 1, .inr (.inl (fun c => lN (ou c)))))] st.heap.size = A at hD ⊢
  have hA : ∀ q : Nat, st.heap.size ≤ q → A q := fun q h => by rw [← hAe]; exact Or.inr h
  have hS : va_S A st.heap st.heap [] := va_S.rf
  have hl := lv_entry ([.ref s0, .long (lN p), .ref x0]) (n := 5) (Nat.le_of_ble_eq_true rfl)
  rw [lg_entry_eq]
  generalize (lg_sl ([.ref s0, .long (lN p), .ref x0]) ++ List.replicate (5 - (lg_sl ([.ref s0, .long (lN p), .ref x0])).length) Slot.unset).toArray = ls at hl ⊢
  have hl : lv_has ls 5 [(0, .ref s0), (1, .long (lN p)), (3, .ref x0)] := hl
  refine lv_aload_n hx hb d_L_polynomial_0 rfl (lv_at hl 2 rfl) ?_
  refine lv_iconst (v := nI 0) hx hb d_L_polynomial_1 (by decide) ?_
  refine lv_aload_n hx hb d_L_polynomial_2 rfl (lv_at hl 0 rfl) ?_
  refine lv_lload_n hx hb d_L_polynomial_3 rfl (lv_at hl 1 rfl) ?_
  refine xk_i (vx_runV (As := [.long (lN p)]) (rest := [.int (nI 0), .ref x0]) ⟨hx, hb, hml, hown, hts⟩ (x_S_polynomial l dC dI cI cL hlt st.heap.size s0 m0 c0 e0 q1 vr p hp0 hbad) (cwV 1 hts (gi_V kw_207 kw_208 kw_209 kw_1 gi_S_polynomial) rfl rfl rfl ⟨rfl, by decide, by decide, by decide⟩ ⟨Nat.le_of_ble_eq_true rfl, Nat.le_of_ble_eq_true rfl⟩) (wq_preVX hP hK hN hE hZ [0] rfl (q0 := 0) (ci := 0) rfl rfl rfl) rfl rfl hl.1 rfl (lv_room (Nat.le_of_ble_eq_true rfl)) d_L_polynomial_4 ⟨Nat.le_of_ble_eq_true rfl, Nat.le_of_ble_eq_true rfl⟩) hA hown [] ⟨0, 9, 12, 13⟩ [] (htab.trans rfl) (fun z hz => by cases hz) rfl (by decide) (hts _ kw_206) (va_Nw.use rfl (hE.1 _ xw_IA)) (fun q9 H locs hS hkk => ?_)
  have hP := hP.kept (fun k x hx => hkk _ ((hP k x hx).lt))
  have hP : va_P (dC, dI) classes [(s0, .inr (0, [.ref m0, .ref c0, .ref e0, .ref q1, .long (lN vr)])), (x0, .inl (cL, 1, .inr (.inl (fun c => lN (ou c)))))] H := hP
  have hD : va_D A [(s0, .inr (0, [.ref m0, .ref c0, .ref e0, .ref q1, .long (lN vr)])), (x0, .inl (cL, 1, .inr (.inl (fun c => lN (ou c)))))] := hD
  refine lv_astore (lv' := [(4, .ref q9), (0, .ref s0), (1, .long (lN p)), (3, .ref x0)]) hx hb d_L_polynomial_12 hl (by decide) rfl (fun ls hl => ?_)
  refine lv_iconst (v := nI 1) hx hb d_L_polynomial_14 (by decide) ?_
  have hP := hP.sub (ws' := [(s0, .inr (0, [.ref m0, .ref c0, .ref e0, .ref q1, .long (lN vr)])), (x0, .inl (cL, 1, .inr (.inl (fun c => lN (ou c)))))]) [0, 1] rfl
  have hD := hD.sub (ws' := [(s0, .inr (0, [.ref m0, .ref c0, .ref e0, .ref q1, .long (lN vr)])), (x0, .inl (cL, 1, .inr (.inl (fun c => lN (ou c)))))]) [0, 1] (by decide) rfl
  exact W.iret (v := nI 1) hx hb hr (fun t9 ht hW => ⟨⟨nI 1, (), rfl, rfl, by rw [ht]; exact hP, va_K.moved hW.alike hK, hD⟩, hS.F ht⟩) hS.2.2 d_L_polynomial_15
set_option maxHeartbeats 4000000 in
set_option maxRecDepth 100000 in
theorem c_L_timesXA (l : Launch) (dC : Nat → ClassId) (dI : Nat → Nat → Nat) (cI cL : ClassId) (hlt : l.stackTraces = false) (sz : Nat) (s0 m0 c0 e0 q1 : Nat) (vr : Nat) (p n : Nat) (hm : md p n) (a : Nat) (y : Int64) (ha2 : a < 2 ^ 64) (ha : ¬ a < 2 ^ n) (x0 : Nat) (ou : Nat → Nat) : Met l y_L_times w_L_times ({ frames := 8, cells := 1, slots := 6, locals := 128 } : Room) (va_Pc [.ref s0, .long (lN a), .long y, .ref x0] (wq_E (dC, dI) classes [(s0, .inr (0, [.ref m0, .ref c0, .ref e0, .ref q1, .long (lN vr)])), (m0, .inr (1, [.long (lN p), .int (nI n), .long (lN (px_r p 2))])), (x0, .inl (cL, 1, .inr (.inl (fun c => lN (ou c)))))] [(cI, .int), (cL, .long)] sz)) (va_Qi (fun (r : Int32) (u : Unit) => r = nI 1) (fun (u : Unit) t => wq_B (dC, dI) classes [(cI, .int), (cL, .long)] (va_A [(s0, .inr (0, [.ref m0, .ref c0, .ref e0, .ref q1, .long (lN vr)])), (m0, .inr (1, [.long (lN p), .int (nI n), .long (lN (px_r p 2))])), (x0, .inl (cL, 1, .inr (.inl (fun c => lN (ou c)))))] sz) [(s0, .inr (0, [.ref m0, .ref c0, .ref e0, .ref q1, .long (lN vr)])), (m0, .inr (1, [.long (lN p), .int (nI n), .long (lN (px_r p 2))])), (x0, .inl (cL, 1, .inr (.inl (fun c => lN (ou c)))))] t) (va_A [(s0, .inr (0, [.ref m0, .ref c0, .ref e0, .ref q1, .long (lN vr)])), (m0, .inr (1, [.long (lN p), .int (nI n), .long (lN (px_r p 2))])), (x0, .inl (cL, 1, .inr (.inl (fun c => lN (ou c)))))] sz)) 1 6 (va_A [(s0, .inr (0, [.ref m0, .ref c0, .ref e0, .ref q1, .long (lN vr)])), (m0, .inr (1, [.long (lN p), .int (nI n), .long (lN (px_r p 2))])), (x0, .inl (cL, 1, .inr (.inl (fun c => lN (ou c)))))] sz) := by
  refine mt_ofWH (cc := b_L_times) (maxL := 7) (ret := (Option.some Jvm.ClassFile.FieldType.int)) (hh := [((0 : Nat), (10 : Nat), (13 : Nat), (13 : Nat))]) (by decide) rfl ?_
  intro pg en st mm ar bw me co s₁ B hml htab hv
  obtain ⟨rfl, ⟨hsz, hP, hK, hD0, hN⟩, hE, hZ, hC⟩ := hv
  have hx := B.exec
  have hb := B.bytes
  have hr := B.returns
  have hlocks := B.notSynchronized
  have hts0 := atoms_spec (ws := w_L_times) B.pre
  have hts : ∀ w ∈ gw, w.before _ st = true := fun w h => hts0 w (List.mem_cons_of_mem _ h)
  have hown : st.vm.findClass R_L = some mm.cls := findClass_of_methodNamed B.named
  subst hsz
  have hD := hD0.self (sz := st.heap.size)
  generalize hAe : va_A [(s0, .inr (0, [.ref m0, .ref c0, .ref e0, .ref q1, .long (lN vr)])), (m0, .inr (1, [.long (lN p), .int (nI n), .long (lN (px_r p 2))])), (x0, .inl (cL, 1, .inr (.inl (fun c => lN (ou c)))))] st.heap.size = A at hD ⊢
  have hA : ∀ q : Nat, st.heap.size ≤ q → A q := fun q h => by rw [← hAe]; exact Or.inr h
  have hS : va_S A st.heap st.heap [] := va_S.rf
  have hl := lv_entry ([.ref s0, .long (lN a), .long y, .ref x0]) (n := 7) (Nat.le_of_ble_eq_true rfl)
  rw [lg_entry_eq]
  generalize (lg_sl ([.ref s0, .long (lN a), .long y, .ref x0]) ++ List.replicate (7 - (lg_sl ([.ref s0, .long (lN a), .long y, .ref x0])).length) Slot.unset).toArray = ls at hl ⊢
  have hl : lv_has ls 7 [(0, .ref s0), (1, .long (lN a)), (3, .long y), (5, .ref x0)] := hl
  refine lv_aload hx hb d_L_times_0 (lv_at hl 3 rfl) ?_
  refine lv_iconst (v := nI 0) hx hb d_L_times_2 (by decide) ?_
  refine lv_aload_n hx hb d_L_times_3 rfl (lv_at hl 0 rfl) ?_
  refine lv_lload_n hx hb d_L_times_4 rfl (lv_at hl 1 rfl) ?_
  refine lv_lload_n hx hb d_L_times_5 rfl (lv_at hl 2 rfl) ?_
  refine xk_l (vx_runV (As := [.long (lN a), .long y]) (rest := [.int (nI 0), .ref x0]) ⟨hx, hb, hml, hown, hts⟩ (x_S_timesA l dC dI cI cL hlt st.heap.size s0 m0 c0 e0 q1 vr p n hm a y ha2 ha) (cwV 2 hts (gi_V kw_293 kw_294 kw_295 kw_1 gi_S_times) rfl rfl rfl ⟨rfl, by decide, by decide, by decide⟩ ⟨Nat.le_of_ble_eq_true rfl, Nat.le_of_ble_eq_true rfl⟩) (wq_preVX hP hK hN hE hZ [0, 1] rfl (q0 := 0) (ci := 0) rfl rfl rfl) rfl rfl hl.1 rfl (lv_room (Nat.le_of_ble_eq_true rfl)) d_L_times_6 ⟨Nat.le_of_ble_eq_true rfl, Nat.le_of_ble_eq_true rfl⟩) hA hown [] ⟨0, 10, 13, 13⟩ [] (htab.trans rfl) (fun z hz => by cases hz) rfl (by decide) (hts _ kw_206) (va_Nw.use rfl (hE.1 _ xw_IA)) (fun q9 H locs hS hkk => ?_)
  have hP := hP.kept (fun k x hx => hkk _ ((hP k x hx).lt))
  have hP : va_P (dC, dI) classes [(s0, .inr (0, [.ref m0, .ref c0, .ref e0, .ref q1, .long (lN vr)])), (m0, .inr (1, [.long (lN p), .int (nI n), .long (lN (px_r p 2))])), (x0, .inl (cL, 1, .inr (.inl (fun c => lN (ou c)))))] H := hP
  have hD : va_D A [(s0, .inr (0, [.ref m0, .ref c0, .ref e0, .ref q1, .long (lN vr)])), (m0, .inr (1, [.long (lN p), .int (nI n), .long (lN (px_r p 2))])), (x0, .inl (cL, 1, .inr (.inl (fun c => lN (ou c)))))] := hD
  refine lv_astore (lv' := [(6, .ref q9), (0, .ref s0), (1, .long (lN a)), (3, .long y), (5, .ref x0)]) hx hb d_L_times_13 hl (by decide) rfl (fun ls hl => ?_)
  refine lv_iconst (v := nI 1) hx hb d_L_times_15 (by decide) ?_
  have hP := hP.sub (ws' := [(s0, .inr (0, [.ref m0, .ref c0, .ref e0, .ref q1, .long (lN vr)])), (m0, .inr (1, [.long (lN p), .int (nI n), .long (lN (px_r p 2))])), (x0, .inl (cL, 1, .inr (.inl (fun c => lN (ou c)))))]) [0, 1, 2] rfl
  have hD := hD.sub (ws' := [(s0, .inr (0, [.ref m0, .ref c0, .ref e0, .ref q1, .long (lN vr)])), (m0, .inr (1, [.long (lN p), .int (nI n), .long (lN (px_r p 2))])), (x0, .inl (cL, 1, .inr (.inl (fun c => lN (ou c)))))]) [0, 1, 2] (by decide) rfl
  exact W.iret (v := nI 1) hx hb hr (fun t9 ht hW => ⟨⟨nI 1, (), rfl, rfl, by rw [ht]; exact hP, va_K.moved hW.alike hK, hD⟩, hS.F ht⟩) hS.2.2 d_L_times_16
set_option maxHeartbeats 4000000 in
set_option maxRecDepth 100000 in
theorem c_L_timesXB (l : Launch) (dC : Nat → ClassId) (dI : Nat → Nat → Nat) (cI cL : ClassId) (hlt : l.stackTraces = false) (sz : Nat) (s0 m0 c0 e0 q1 : Nat) (vr : Nat) (p n : Nat) (hm : md p n) (a b : Nat) (ha : a < 2 ^ n) (hb2 : b < 2 ^ 64) (hb3 : ¬ b < 2 ^ n) (x0 : Nat) (ou : Nat → Nat) : Met l y_L_times w_L_times ({ frames := 8, cells := 1, slots := 6, locals := 128 } : Room) (va_Pc [.ref s0, .long (lN a), .long (lN b), .ref x0] (wq_E (dC, dI) classes [(s0, .inr (0, [.ref m0, .ref c0, .ref e0, .ref q1, .long (lN vr)])), (m0, .inr (1, [.long (lN p), .int (nI n), .long (lN (px_r p 2))])), (x0, .inl (cL, 1, .inr (.inl (fun c => lN (ou c)))))] [(cI, .int), (cL, .long)] sz)) (va_Qi (fun (r : Int32) (u : Unit) => r = nI 1) (fun (u : Unit) t => wq_B (dC, dI) classes [(cI, .int), (cL, .long)] (va_A [(s0, .inr (0, [.ref m0, .ref c0, .ref e0, .ref q1, .long (lN vr)])), (m0, .inr (1, [.long (lN p), .int (nI n), .long (lN (px_r p 2))])), (x0, .inl (cL, 1, .inr (.inl (fun c => lN (ou c)))))] sz) [(s0, .inr (0, [.ref m0, .ref c0, .ref e0, .ref q1, .long (lN vr)])), (m0, .inr (1, [.long (lN p), .int (nI n), .long (lN (px_r p 2))])), (x0, .inl (cL, 1, .inr (.inl (fun c => lN (ou c)))))] t) (va_A [(s0, .inr (0, [.ref m0, .ref c0, .ref e0, .ref q1, .long (lN vr)])), (m0, .inr (1, [.long (lN p), .int (nI n), .long (lN (px_r p 2))])), (x0, .inl (cL, 1, .inr (.inl (fun c => lN (ou c)))))] sz)) 1 6 (va_A [(s0, .inr (0, [.ref m0, .ref c0, .ref e0, .ref q1, .long (lN vr)])), (m0, .inr (1, [.long (lN p), .int (nI n), .long (lN (px_r p 2))])), (x0, .inl (cL, 1, .inr (.inl (fun c => lN (ou c)))))] sz) := by
  refine mt_ofWH (cc := b_L_times) (maxL := 7) (ret := (Option.some Jvm.ClassFile.FieldType.int)) (hh := [((0 : Nat), (10 : Nat), (13 : Nat), (13 : Nat))]) (by decide) rfl ?_
  intro pg en st mm ar bw me co s₁ B hml htab hv
  obtain ⟨rfl, ⟨hsz, hP, hK, hD0, hN⟩, hE, hZ, hC⟩ := hv
  have hx := B.exec
  have hb := B.bytes
  have hr := B.returns
  have hlocks := B.notSynchronized
  have hts0 := atoms_spec (ws := w_L_times) B.pre
  have hts : ∀ w ∈ gw, w.before _ st = true := fun w h => hts0 w (List.mem_cons_of_mem _ h)
  have hown : st.vm.findClass R_L = some mm.cls := findClass_of_methodNamed B.named
  subst hsz
  have hD := hD0.self (sz := st.heap.size)
  generalize hAe : va_A [(s0, .inr (0, [.ref m0, .ref c0, .ref e0, .ref q1, .long (lN vr)])), (m0, .inr (1, [.long (lN p), .int (nI n), .long (lN (px_r p 2))])), (x0, .inl (cL, 1, .inr (.inl (fun c => lN (ou c)))))] st.heap.size = A at hD ⊢
  have hA : ∀ q : Nat, st.heap.size ≤ q → A q := fun q h => by rw [← hAe]; exact Or.inr h
  have hS : va_S A st.heap st.heap [] := va_S.rf
  have hl := lv_entry ([.ref s0, .long (lN a), .long (lN b), .ref x0]) (n := 7) (Nat.le_of_ble_eq_true rfl)
  rw [lg_entry_eq]
  generalize (lg_sl ([.ref s0, .long (lN a), .long (lN b), .ref x0]) ++ List.replicate (7 - (lg_sl ([.ref s0, .long (lN a), .long (lN b), .ref x0])).length) Slot.unset).toArray = ls at hl ⊢
  have hl : lv_has ls 7 [(0, .ref s0), (1, .long (lN a)), (3, .long (lN b)), (5, .ref x0)] := hl
  refine lv_aload hx hb d_L_times_0 (lv_at hl 3 rfl) ?_
  refine lv_iconst (v := nI 0) hx hb d_L_times_2 (by decide) ?_
  refine lv_aload_n hx hb d_L_times_3 rfl (lv_at hl 0 rfl) ?_
  refine lv_lload_n hx hb d_L_times_4 rfl (lv_at hl 1 rfl) ?_
  refine lv_lload_n hx hb d_L_times_5 rfl (lv_at hl 2 rfl) ?_
  refine xk_l (vx_runV (As := [.long (lN a), .long (lN b)]) (rest := [.int (nI 0), .ref x0]) ⟨hx, hb, hml, hown, hts⟩ (x_S_timesB l dC dI cI cL hlt st.heap.size s0 m0 c0 e0 q1 vr p n hm a b ha hb2 hb3) (cwV 2 hts (gi_V kw_293 kw_294 kw_295 kw_1 gi_S_times) rfl rfl rfl ⟨rfl, by decide, by decide, by decide⟩ ⟨Nat.le_of_ble_eq_true rfl, Nat.le_of_ble_eq_true rfl⟩) (wq_preVX hP hK hN hE hZ [0, 1] rfl (q0 := 0) (ci := 0) rfl rfl rfl) rfl rfl hl.1 rfl (lv_room (Nat.le_of_ble_eq_true rfl)) d_L_times_6 ⟨Nat.le_of_ble_eq_true rfl, Nat.le_of_ble_eq_true rfl⟩) hA hown [] ⟨0, 10, 13, 13⟩ [] (htab.trans rfl) (fun z hz => by cases hz) rfl (by decide) (hts _ kw_206) (va_Nw.use rfl (hE.1 _ xw_IA)) (fun q9 H locs hS hkk => ?_)
  have hP := hP.kept (fun k x hx => hkk _ ((hP k x hx).lt))
  have hP : va_P (dC, dI) classes [(s0, .inr (0, [.ref m0, .ref c0, .ref e0, .ref q1, .long (lN vr)])), (m0, .inr (1, [.long (lN p), .int (nI n), .long (lN (px_r p 2))])), (x0, .inl (cL, 1, .inr (.inl (fun c => lN (ou c)))))] H := hP
  have hD : va_D A [(s0, .inr (0, [.ref m0, .ref c0, .ref e0, .ref q1, .long (lN vr)])), (m0, .inr (1, [.long (lN p), .int (nI n), .long (lN (px_r p 2))])), (x0, .inl (cL, 1, .inr (.inl (fun c => lN (ou c)))))] := hD
  refine lv_astore (lv' := [(6, .ref q9), (0, .ref s0), (1, .long (lN a)), (3, .long (lN b)), (5, .ref x0)]) hx hb d_L_times_13 hl (by decide) rfl (fun ls hl => ?_)
  refine lv_iconst (v := nI 1) hx hb d_L_times_15 (by decide) ?_
  have hP := hP.sub (ws' := [(s0, .inr (0, [.ref m0, .ref c0, .ref e0, .ref q1, .long (lN vr)])), (m0, .inr (1, [.long (lN p), .int (nI n), .long (lN (px_r p 2))])), (x0, .inl (cL, 1, .inr (.inl (fun c => lN (ou c)))))]) [0, 1, 2] rfl
  have hD := hD.sub (ws' := [(s0, .inr (0, [.ref m0, .ref c0, .ref e0, .ref q1, .long (lN vr)])), (m0, .inr (1, [.long (lN p), .int (nI n), .long (lN (px_r p 2))])), (x0, .inl (cL, 1, .inr (.inl (fun c => lN (ou c)))))]) [0, 1, 2] (by decide) rfl
  exact W.iret (v := nI 1) hx hb hr (fun t9 ht hW => ⟨⟨nI 1, (), rfl, rfl, by rw [ht]; exact hP, va_K.moved hW.alike hK, hD⟩, hS.F ht⟩) hS.2.2 d_L_times_16
set_option maxHeartbeats 4000000 in
set_option maxRecDepth 100000 in
theorem c_L_powerXA (l : Launch) (dC : Nat → ClassId) (dI : Nat → Nat → Nat) (cI cL : ClassId) (hlt : l.stackTraces = false) (sz : Nat) (s0 m0 c0 e0 q1 : Nat) (vr : Nat) (p n : Nat) (hm : md p n) (a : Nat) (y : Int64) (ha2 : a < 2 ^ 64) (ha : ¬ a < 2 ^ n) (x0 : Nat) (ou : Nat → Nat) : Met l y_L_power w_L_power ({ frames := 8, cells := 1, slots := 6, locals := 128 } : Room) (va_Pc [.ref s0, .long (lN a), .long y, .ref x0] (wq_E (dC, dI) classes [(s0, .inr (0, [.ref m0, .ref c0, .ref e0, .ref q1, .long (lN vr)])), (m0, .inr (1, [.long (lN p), .int (nI n), .long (lN (px_r p 2))])), (x0, .inl (cL, 1, .inr (.inl (fun c => lN (ou c)))))] [(cI, .int), (cL, .long)] sz)) (va_Qi (fun (r : Int32) (u : Unit) => r = nI 1) (fun (u : Unit) t => wq_B (dC, dI) classes [(cI, .int), (cL, .long)] (va_A [(s0, .inr (0, [.ref m0, .ref c0, .ref e0, .ref q1, .long (lN vr)])), (m0, .inr (1, [.long (lN p), .int (nI n), .long (lN (px_r p 2))])), (x0, .inl (cL, 1, .inr (.inl (fun c => lN (ou c)))))] sz) [(s0, .inr (0, [.ref m0, .ref c0, .ref e0, .ref q1, .long (lN vr)])), (m0, .inr (1, [.long (lN p), .int (nI n), .long (lN (px_r p 2))])), (x0, .inl (cL, 1, .inr (.inl (fun c => lN (ou c)))))] t) (va_A [(s0, .inr (0, [.ref m0, .ref c0, .ref e0, .ref q1, .long (lN vr)])), (m0, .inr (1, [.long (lN p), .int (nI n), .long (lN (px_r p 2))])), (x0, .inl (cL, 1, .inr (.inl (fun c => lN (ou c)))))] sz)) 1 6 (va_A [(s0, .inr (0, [.ref m0, .ref c0, .ref e0, .ref q1, .long (lN vr)])), (m0, .inr (1, [.long (lN p), .int (nI n), .long (lN (px_r p 2))])), (x0, .inl (cL, 1, .inr (.inl (fun c => lN (ou c)))))] sz) := by
  refine mt_ofWH (cc := b_L_power) (maxL := 7) (ret := (Option.some Jvm.ClassFile.FieldType.int)) (hh := [((0 : Nat), (10 : Nat), (13 : Nat), (13 : Nat))]) (by decide) rfl ?_
  intro pg en st mm ar bw me co s₁ B hml htab hv
  obtain ⟨rfl, ⟨hsz, hP, hK, hD0, hN⟩, hE, hZ, hC⟩ := hv
  have hx := B.exec
  have hb := B.bytes
  have hr := B.returns
  have hlocks := B.notSynchronized
  have hts0 := atoms_spec (ws := w_L_power) B.pre
  have hts : ∀ w ∈ gw, w.before _ st = true := fun w h => hts0 w (List.mem_cons_of_mem _ h)
  have hown : st.vm.findClass R_L = some mm.cls := findClass_of_methodNamed B.named
  subst hsz
  have hD := hD0.self (sz := st.heap.size)
  generalize hAe : va_A [(s0, .inr (0, [.ref m0, .ref c0, .ref e0, .ref q1, .long (lN vr)])), (m0, .inr (1, [.long (lN p), .int (nI n), .long (lN (px_r p 2))])), (x0, .inl (cL, 1, .inr (.inl (fun c => lN (ou c)))))] st.heap.size = A at hD ⊢
  have hA : ∀ q : Nat, st.heap.size ≤ q → A q := fun q h => by rw [← hAe]; exact Or.inr h
  have hS : va_S A st.heap st.heap [] := va_S.rf
  have hl := lv_entry ([.ref s0, .long (lN a), .long y, .ref x0]) (n := 7) (Nat.le_of_ble_eq_true rfl)
  rw [lg_entry_eq]
  generalize (lg_sl ([.ref s0, .long (lN a), .long y, .ref x0]) ++ List.replicate (7 - (lg_sl ([.ref s0, .long (lN a), .long y, .ref x0])).length) Slot.unset).toArray = ls at hl ⊢
  have hl : lv_has ls 7 [(0, .ref s0), (1, .long (lN a)), (3, .long y), (5, .ref x0)] := hl
  refine lv_aload hx hb d_L_power_0 (lv_at hl 3 rfl) ?_
  refine lv_iconst (v := nI 0) hx hb d_L_power_2 (by decide) ?_
  refine lv_aload_n hx hb d_L_power_3 rfl (lv_at hl 0 rfl) ?_
  refine lv_lload_n hx hb d_L_power_4 rfl (lv_at hl 1 rfl) ?_
  refine lv_lload_n hx hb d_L_power_5 rfl (lv_at hl 2 rfl) ?_
  refine xk_l (vx_runV (As := [.long (lN a), .long y]) (rest := [.int (nI 0), .ref x0]) ⟨hx, hb, hml, hown, hts⟩ (x_S_powerA l dC dI cI cL hlt st.heap.size s0 m0 c0 e0 q1 vr p n hm a y ha2 ha) (cwV 2 hts (gi_V kw_310 kw_311 kw_312 kw_1 gi_S_power) rfl rfl rfl ⟨rfl, by decide, by decide, by decide⟩ ⟨Nat.le_of_ble_eq_true rfl, Nat.le_of_ble_eq_true rfl⟩) (wq_preVX hP hK hN hE hZ [0, 1] rfl (q0 := 0) (ci := 0) rfl rfl rfl) rfl rfl hl.1 rfl (lv_room (Nat.le_of_ble_eq_true rfl)) d_L_power_6 ⟨Nat.le_of_ble_eq_true rfl, Nat.le_of_ble_eq_true rfl⟩) hA hown [] ⟨0, 10, 13, 13⟩ [] (htab.trans rfl) (fun z hz => by cases hz) rfl (by decide) (hts _ kw_206) (va_Nw.use rfl (hE.1 _ xw_IA)) (fun q9 H locs hS hkk => ?_)
  have hP := hP.kept (fun k x hx => hkk _ ((hP k x hx).lt))
  have hP : va_P (dC, dI) classes [(s0, .inr (0, [.ref m0, .ref c0, .ref e0, .ref q1, .long (lN vr)])), (m0, .inr (1, [.long (lN p), .int (nI n), .long (lN (px_r p 2))])), (x0, .inl (cL, 1, .inr (.inl (fun c => lN (ou c)))))] H := hP
  have hD : va_D A [(s0, .inr (0, [.ref m0, .ref c0, .ref e0, .ref q1, .long (lN vr)])), (m0, .inr (1, [.long (lN p), .int (nI n), .long (lN (px_r p 2))])), (x0, .inl (cL, 1, .inr (.inl (fun c => lN (ou c)))))] := hD
  refine lv_astore (lv' := [(6, .ref q9), (0, .ref s0), (1, .long (lN a)), (3, .long y), (5, .ref x0)]) hx hb d_L_power_13 hl (by decide) rfl (fun ls hl => ?_)
  refine lv_iconst (v := nI 1) hx hb d_L_power_15 (by decide) ?_
  have hP := hP.sub (ws' := [(s0, .inr (0, [.ref m0, .ref c0, .ref e0, .ref q1, .long (lN vr)])), (m0, .inr (1, [.long (lN p), .int (nI n), .long (lN (px_r p 2))])), (x0, .inl (cL, 1, .inr (.inl (fun c => lN (ou c)))))]) [0, 1, 2] rfl
  have hD := hD.sub (ws' := [(s0, .inr (0, [.ref m0, .ref c0, .ref e0, .ref q1, .long (lN vr)])), (m0, .inr (1, [.long (lN p), .int (nI n), .long (lN (px_r p 2))])), (x0, .inl (cL, 1, .inr (.inl (fun c => lN (ou c)))))]) [0, 1, 2] (by decide) rfl
  exact W.iret (v := nI 1) hx hb hr (fun t9 ht hW => ⟨⟨nI 1, (), rfl, rfl, by rw [ht]; exact hP, va_K.moved hW.alike hK, hD⟩, hS.F ht⟩) hS.2.2 d_L_power_16
set_option maxHeartbeats 4000000 in
set_option maxRecDepth 100000 in
theorem c_L_powerXB (l : Launch) (dC : Nat → ClassId) (dI : Nat → Nat → Nat) (cI cL : ClassId) (hlt : l.stackTraces = false) (sz : Nat) (s0 m0 c0 e0 q1 : Nat) (vr : Nat) (p n : Nat) (hm : md p n) (a e : Nat) (ha : a < 2 ^ n) (he2 : e < 2 ^ 64) (he : ¬ e < 2 ^ 63) (x0 : Nat) (ou : Nat → Nat) : Met l y_L_power w_L_power ({ frames := 8, cells := 1, slots := 6, locals := 128 } : Room) (va_Pc [.ref s0, .long (lN a), .long (lN e), .ref x0] (wq_E (dC, dI) classes [(s0, .inr (0, [.ref m0, .ref c0, .ref e0, .ref q1, .long (lN vr)])), (m0, .inr (1, [.long (lN p), .int (nI n), .long (lN (px_r p 2))])), (x0, .inl (cL, 1, .inr (.inl (fun c => lN (ou c)))))] [(cI, .int), (cL, .long)] sz)) (va_Qi (fun (r : Int32) (u : Unit) => r = nI 1) (fun (u : Unit) t => wq_B (dC, dI) classes [(cI, .int), (cL, .long)] (va_A [(s0, .inr (0, [.ref m0, .ref c0, .ref e0, .ref q1, .long (lN vr)])), (m0, .inr (1, [.long (lN p), .int (nI n), .long (lN (px_r p 2))])), (x0, .inl (cL, 1, .inr (.inl (fun c => lN (ou c)))))] sz) [(s0, .inr (0, [.ref m0, .ref c0, .ref e0, .ref q1, .long (lN vr)])), (m0, .inr (1, [.long (lN p), .int (nI n), .long (lN (px_r p 2))])), (x0, .inl (cL, 1, .inr (.inl (fun c => lN (ou c)))))] t) (va_A [(s0, .inr (0, [.ref m0, .ref c0, .ref e0, .ref q1, .long (lN vr)])), (m0, .inr (1, [.long (lN p), .int (nI n), .long (lN (px_r p 2))])), (x0, .inl (cL, 1, .inr (.inl (fun c => lN (ou c)))))] sz)) 1 6 (va_A [(s0, .inr (0, [.ref m0, .ref c0, .ref e0, .ref q1, .long (lN vr)])), (m0, .inr (1, [.long (lN p), .int (nI n), .long (lN (px_r p 2))])), (x0, .inl (cL, 1, .inr (.inl (fun c => lN (ou c)))))] sz) := by
  refine mt_ofWH (cc := b_L_power) (maxL := 7) (ret := (Option.some Jvm.ClassFile.FieldType.int)) (hh := [((0 : Nat), (10 : Nat), (13 : Nat), (13 : Nat))]) (by decide) rfl ?_
  intro pg en st mm ar bw me co s₁ B hml htab hv
  obtain ⟨rfl, ⟨hsz, hP, hK, hD0, hN⟩, hE, hZ, hC⟩ := hv
  have hx := B.exec
  have hb := B.bytes
  have hr := B.returns
  have hlocks := B.notSynchronized
  have hts0 := atoms_spec (ws := w_L_power) B.pre
  have hts : ∀ w ∈ gw, w.before _ st = true := fun w h => hts0 w (List.mem_cons_of_mem _ h)
  have hown : st.vm.findClass R_L = some mm.cls := findClass_of_methodNamed B.named
  subst hsz
  have hD := hD0.self (sz := st.heap.size)
  generalize hAe : va_A [(s0, .inr (0, [.ref m0, .ref c0, .ref e0, .ref q1, .long (lN vr)])), (m0, .inr (1, [.long (lN p), .int (nI n), .long (lN (px_r p 2))])), (x0, .inl (cL, 1, .inr (.inl (fun c => lN (ou c)))))] st.heap.size = A at hD ⊢
  have hA : ∀ q : Nat, st.heap.size ≤ q → A q := fun q h => by rw [← hAe]; exact Or.inr h
  have hS : va_S A st.heap st.heap [] := va_S.rf
  have hl := lv_entry ([.ref s0, .long (lN a), .long (lN e), .ref x0]) (n := 7) (Nat.le_of_ble_eq_true rfl)
  rw [lg_entry_eq]
  generalize (lg_sl ([.ref s0, .long (lN a), .long (lN e), .ref x0]) ++ List.replicate (7 - (lg_sl ([.ref s0, .long (lN a), .long (lN e), .ref x0])).length) Slot.unset).toArray = ls at hl ⊢
  have hl : lv_has ls 7 [(0, .ref s0), (1, .long (lN a)), (3, .long (lN e)), (5, .ref x0)] := hl
  refine lv_aload hx hb d_L_power_0 (lv_at hl 3 rfl) ?_
  refine lv_iconst (v := nI 0) hx hb d_L_power_2 (by decide) ?_
  refine lv_aload_n hx hb d_L_power_3 rfl (lv_at hl 0 rfl) ?_
  refine lv_lload_n hx hb d_L_power_4 rfl (lv_at hl 1 rfl) ?_
  refine lv_lload_n hx hb d_L_power_5 rfl (lv_at hl 2 rfl) ?_
  refine xk_l (vx_runV (As := [.long (lN a), .long (lN e)]) (rest := [.int (nI 0), .ref x0]) ⟨hx, hb, hml, hown, hts⟩ (x_S_powerB l dC dI cI cL hlt st.heap.size s0 m0 c0 e0 q1 vr p n hm a e ha he2 he) (cwV 2 hts (gi_V kw_310 kw_311 kw_312 kw_1 gi_S_power) rfl rfl rfl ⟨rfl, by decide, by decide, by decide⟩ ⟨Nat.le_of_ble_eq_true rfl, Nat.le_of_ble_eq_true rfl⟩) (wq_preVX hP hK hN hE hZ [0, 1] rfl (q0 := 0) (ci := 0) rfl rfl rfl) rfl rfl hl.1 rfl (lv_room (Nat.le_of_ble_eq_true rfl)) d_L_power_6 ⟨Nat.le_of_ble_eq_true rfl, Nat.le_of_ble_eq_true rfl⟩) hA hown [] ⟨0, 10, 13, 13⟩ [] (htab.trans rfl) (fun z hz => by cases hz) rfl (by decide) (hts _ kw_206) (va_Nw.use rfl (hE.1 _ xw_IA)) (fun q9 H locs hS hkk => ?_)
  have hP := hP.kept (fun k x hx => hkk _ ((hP k x hx).lt))
  have hP : va_P (dC, dI) classes [(s0, .inr (0, [.ref m0, .ref c0, .ref e0, .ref q1, .long (lN vr)])), (m0, .inr (1, [.long (lN p), .int (nI n), .long (lN (px_r p 2))])), (x0, .inl (cL, 1, .inr (.inl (fun c => lN (ou c)))))] H := hP
  have hD : va_D A [(s0, .inr (0, [.ref m0, .ref c0, .ref e0, .ref q1, .long (lN vr)])), (m0, .inr (1, [.long (lN p), .int (nI n), .long (lN (px_r p 2))])), (x0, .inl (cL, 1, .inr (.inl (fun c => lN (ou c)))))] := hD
  refine lv_astore (lv' := [(6, .ref q9), (0, .ref s0), (1, .long (lN a)), (3, .long (lN e)), (5, .ref x0)]) hx hb d_L_power_13 hl (by decide) rfl (fun ls hl => ?_)
  refine lv_iconst (v := nI 1) hx hb d_L_power_15 (by decide) ?_
  have hP := hP.sub (ws' := [(s0, .inr (0, [.ref m0, .ref c0, .ref e0, .ref q1, .long (lN vr)])), (m0, .inr (1, [.long (lN p), .int (nI n), .long (lN (px_r p 2))])), (x0, .inl (cL, 1, .inr (.inl (fun c => lN (ou c)))))]) [0, 1, 2] rfl
  have hD := hD.sub (ws' := [(s0, .inr (0, [.ref m0, .ref c0, .ref e0, .ref q1, .long (lN vr)])), (m0, .inr (1, [.long (lN p), .int (nI n), .long (lN (px_r p 2))])), (x0, .inl (cL, 1, .inr (.inl (fun c => lN (ou c)))))]) [0, 1, 2] (by decide) rfl
  exact W.iret (v := nI 1) hx hb hr (fun t9 ht hW => ⟨⟨nI 1, (), rfl, rfl, by rw [ht]; exact hP, va_K.moved hW.alike hK, hD⟩, hS.F ht⟩) hS.2.2 d_L_power_16
set_option maxHeartbeats 4000000 in
set_option maxRecDepth 100000 in
theorem c_L_loadX (l : Launch) (dC : Nat → ClassId) (dI : Nat → Nat → Nat) (cI cL : ClassId) (hlt : l.stackTraces = false) (sz : Nat) (s0 m0 c0 e0 q1 : Nat) (vr : Nat) (p n : Nat) (hm : md p n) (a : Nat) (ha2 : a < 2 ^ 64) (ha : ¬ a < 2 ^ n) (x0 : Nat) (ou : Nat → Nat) : Met l y_L_load w_L_load ({ frames := 8, cells := 1, slots := 6, locals := 128 } : Room) (va_Pc [.ref s0, .long (lN a), .ref x0] (wq_E (dC, dI) classes [(s0, .inr (0, [.ref m0, .ref c0, .ref e0, .ref q1, .long (lN vr)])), (m0, .inr (1, [.long (lN p), .int (nI n), .long (lN (px_r p 2))])), (x0, .inl (cL, 1, .inr (.inl (fun c => lN (ou c)))))] [(cI, .int), (cL, .long)] sz)) (va_Qi (fun (r : Int32) (u : Unit) => r = nI 1) (fun (u : Unit) t => wq_B (dC, dI) classes [(cI, .int), (cL, .long)] (va_A [(s0, .inr (0, [.ref m0, .ref c0, .ref e0, .ref q1, .long (lN vr)])), (m0, .inr (1, [.long (lN p), .int (nI n), .long (lN (px_r p 2))])), (x0, .inl (cL, 1, .inr (.inl (fun c => lN (ou c)))))] sz) [(s0, .inr (0, [.ref m0, .ref c0, .ref e0, .ref q1, .long (lN vr)])), (m0, .inr (1, [.long (lN p), .int (nI n), .long (lN (px_r p 2))])), (x0, .inl (cL, 1, .inr (.inl (fun c => lN (ou c)))))] t) (va_A [(s0, .inr (0, [.ref m0, .ref c0, .ref e0, .ref q1, .long (lN vr)])), (m0, .inr (1, [.long (lN p), .int (nI n), .long (lN (px_r p 2))])), (x0, .inl (cL, 1, .inr (.inl (fun c => lN (ou c)))))] sz)) 1 6 (va_A [(s0, .inr (0, [.ref m0, .ref c0, .ref e0, .ref q1, .long (lN vr)])), (m0, .inr (1, [.long (lN p), .int (nI n), .long (lN (px_r p 2))])), (x0, .inl (cL, 1, .inr (.inl (fun c => lN (ou c)))))] sz) := by
  refine mt_ofWH (cc := b_L_load) (maxL := 5) (ret := (Option.some Jvm.ClassFile.FieldType.int)) (hh := [((0 : Nat), (8 : Nat), (11 : Nat), (13 : Nat))]) (by decide) rfl ?_
  intro pg en st mm ar bw me co s₁ B hml htab hv
  obtain ⟨rfl, ⟨hsz, hP, hK, hD0, hN⟩, hE, hZ, hC⟩ := hv
  have hx := B.exec
  have hb := B.bytes
  have hr := B.returns
  have hlocks := B.notSynchronized
  have hts0 := atoms_spec (ws := w_L_load) B.pre
  have hts : ∀ w ∈ gw, w.before _ st = true := fun w h => hts0 w (List.mem_cons_of_mem _ h)
  have hown : st.vm.findClass R_L = some mm.cls := findClass_of_methodNamed B.named
  subst hsz
  have hD := hD0.self (sz := st.heap.size)
  generalize hAe : va_A [(s0, .inr (0, [.ref m0, .ref c0, .ref e0, .ref q1, .long (lN vr)])), (m0, .inr (1, [.long (lN p), .int (nI n), .long (lN (px_r p 2))])), (x0, .inl (cL, 1, .inr (.inl (fun c => lN (ou c)))))] st.heap.size = A at hD ⊢
  have hA : ∀ q : Nat, st.heap.size ≤ q → A q := fun q h => by rw [← hAe]; exact Or.inr h
  have hS : va_S A st.heap st.heap [] := va_S.rf
  have hl := lv_entry ([.ref s0, .long (lN a), .ref x0]) (n := 5) (Nat.le_of_ble_eq_true rfl)
  rw [lg_entry_eq]
  generalize (lg_sl ([.ref s0, .long (lN a), .ref x0]) ++ List.replicate (5 - (lg_sl ([.ref s0, .long (lN a), .ref x0])).length) Slot.unset).toArray = ls at hl ⊢
  have hl : lv_has ls 5 [(0, .ref s0), (1, .long (lN a)), (3, .ref x0)] := hl
  refine lv_aload_n hx hb d_L_load_0 rfl (lv_at hl 2 rfl) ?_
  refine lv_iconst (v := nI 0) hx hb d_L_load_1 (by decide) ?_
  refine lv_aload_n hx hb d_L_load_2 rfl (lv_at hl 0 rfl) ?_
  refine lv_lload_n hx hb d_L_load_3 rfl (lv_at hl 1 rfl) ?_
  refine xk_l (vx_runV (As := [.long (lN a)]) (rest := [.int (nI 0), .ref x0]) ⟨hx, hb, hml, hown, hts⟩ (x_S_load l dC dI cI cL hlt st.heap.size s0 m0 c0 e0 q1 vr p n hm a ha2 ha) (cwV 1 hts (gi_V kw_323 kw_324 kw_325 kw_1 gi_S_load) rfl rfl rfl ⟨rfl, by decide, by decide, by decide⟩ ⟨Nat.le_of_ble_eq_true rfl, Nat.le_of_ble_eq_true rfl⟩) (wq_preVX hP hK hN hE hZ [0, 1] rfl (q0 := 0) (ci := 0) rfl rfl rfl) rfl rfl hl.1 rfl (lv_room (Nat.le_of_ble_eq_true rfl)) d_L_load_4 ⟨Nat.le_of_ble_eq_true rfl, Nat.le_of_ble_eq_true rfl⟩) hA hown [] ⟨0, 8, 11, 13⟩ [] (htab.trans rfl) (fun z hz => by cases hz) rfl (by decide) (hts _ kw_206) (va_Nw.use rfl (hE.1 _ xw_IA)) (fun q9 H locs hS hkk => ?_)
  have hP := hP.kept (fun k x hx => hkk _ ((hP k x hx).lt))
  have hP : va_P (dC, dI) classes [(s0, .inr (0, [.ref m0, .ref c0, .ref e0, .ref q1, .long (lN vr)])), (m0, .inr (1, [.long (lN p), .int (nI n), .long (lN (px_r p 2))])), (x0, .inl (cL, 1, .inr (.inl (fun c => lN (ou c)))))] H := hP
  have hD : va_D A [(s0, .inr (0, [.ref m0, .ref c0, .ref e0, .ref q1, .long (lN vr)])), (m0, .inr (1, [.long (lN p), .int (nI n), .long (lN (px_r p 2))])), (x0, .inl (cL, 1, .inr (.inl (fun c => lN (ou c)))))] := hD
  refine lv_astore (lv' := [(4, .ref q9), (0, .ref s0), (1, .long (lN a)), (3, .ref x0)]) hx hb d_L_load_11 hl (by decide) rfl (fun ls hl => ?_)
  refine lv_iconst (v := nI 1) hx hb d_L_load_13 (by decide) ?_
  have hP := hP.sub (ws' := [(s0, .inr (0, [.ref m0, .ref c0, .ref e0, .ref q1, .long (lN vr)])), (m0, .inr (1, [.long (lN p), .int (nI n), .long (lN (px_r p 2))])), (x0, .inl (cL, 1, .inr (.inl (fun c => lN (ou c)))))]) [0, 1, 2] rfl
  have hD := hD.sub (ws' := [(s0, .inr (0, [.ref m0, .ref c0, .ref e0, .ref q1, .long (lN vr)])), (m0, .inr (1, [.long (lN p), .int (nI n), .long (lN (px_r p 2))])), (x0, .inl (cL, 1, .inr (.inl (fun c => lN (ou c)))))]) [0, 1, 2] (by decide) rfl
  exact W.iret (v := nI 1) hx hb hr (fun t9 ht hW => ⟨⟨nI 1, (), rfl, rfl, by rw [ht]; exact hP, va_K.moved hW.alike hK, hD⟩, hS.F ht⟩) hS.2.2 d_L_load_14
set_option maxHeartbeats 4000000 in
set_option maxRecDepth 100000 in
theorem c_L_stepsX (l : Launch) (dC : Nat → ClassId) (dI : Nat → Nat → Nat) (cI cL : ClassId) (hlt : l.stackTraces = false) (sz : Nat) (s0 m0 c0 e0 q1 : Nat) (vr : Nat) (e : Nat) (he2 : e < 2 ^ 64) (he : ¬ e < 2 ^ 63) (x0 : Nat) (ou : Nat → Nat) : Met l y_L_steps w_L_steps ({ frames := 8, cells := 1, slots := 6, locals := 126 } : Room) (va_Pc [.ref s0, .long (lN e), .ref x0] (wq_E (dC, dI) classes [(s0, .inr (0, [.ref m0, .ref c0, .ref e0, .ref q1, .long (lN vr)])), (x0, .inl (cL, 1, .inr (.inl (fun c => lN (ou c)))))] [(cI, .int), (cL, .long)] sz)) (va_Qi (fun (r : Int32) (u : Unit) => r = nI 1) (fun (u : Unit) t => wq_B (dC, dI) classes [(cI, .int), (cL, .long)] (va_A [(s0, .inr (0, [.ref m0, .ref c0, .ref e0, .ref q1, .long (lN vr)])), (x0, .inl (cL, 1, .inr (.inl (fun c => lN (ou c)))))] sz) [(s0, .inr (0, [.ref m0, .ref c0, .ref e0, .ref q1, .long (lN vr)])), (x0, .inl (cL, 1, .inr (.inl (fun c => lN (ou c)))))] t) (va_A [(s0, .inr (0, [.ref m0, .ref c0, .ref e0, .ref q1, .long (lN vr)])), (x0, .inl (cL, 1, .inr (.inl (fun c => lN (ou c)))))] sz)) 1 6 (va_A [(s0, .inr (0, [.ref m0, .ref c0, .ref e0, .ref q1, .long (lN vr)])), (x0, .inl (cL, 1, .inr (.inl (fun c => lN (ou c)))))] sz) := by
  refine mt_ofWH (cc := b_L_steps) (maxL := 5) (ret := (Option.some Jvm.ClassFile.FieldType.int)) (hh := [((0 : Nat), (8 : Nat), (11 : Nat), (13 : Nat))]) (by decide) rfl ?_
  intro pg en st mm ar bw me co s₁ B hml htab hv
  obtain ⟨rfl, ⟨hsz, hP, hK, hD0, hN⟩, hE, hZ, hC⟩ := hv
  have hx := B.exec
  have hb := B.bytes
  have hr := B.returns
  have hlocks := B.notSynchronized
  have hts0 := atoms_spec (ws := w_L_steps) B.pre
  have hts : ∀ w ∈ gw, w.before _ st = true := fun w h => hts0 w (List.mem_cons_of_mem _ h)
  have hown : st.vm.findClass R_L = some mm.cls := findClass_of_methodNamed B.named
  subst hsz
  have hD := hD0.self (sz := st.heap.size)
  generalize hAe : va_A [(s0, .inr (0, [.ref m0, .ref c0, .ref e0, .ref q1, .long (lN vr)])), (x0, .inl (cL, 1, .inr (.inl (fun c => lN (ou c)))))] st.heap.size = A at hD ⊢
  have hA : ∀ q : Nat, st.heap.size ≤ q → A q := fun q h => by rw [← hAe]; exact Or.inr h
  have hS : va_S A st.heap st.heap [] := va_S.rf
  have hl := lv_entry ([.ref s0, .long (lN e), .ref x0]) (n := 5) (Nat.le_of_ble_eq_true rfl)
  rw [lg_entry_eq]
  generalize (lg_sl ([.ref s0, .long (lN e), .ref x0]) ++ List.replicate (5 - (lg_sl ([.ref s0, .long (lN e), .ref x0])).length) Slot.unset).toArray = ls at hl ⊢
  have hl : lv_has ls 5 [(0, .ref s0), (1, .long (lN e)), (3, .ref x0)] := hl
  refine lv_aload_n hx hb d_L_steps_0 rfl (lv_at hl 2 rfl) ?_
  refine lv_iconst (v := nI 0) hx hb d_L_steps_1 (by decide) ?_
  refine lv_aload_n hx hb d_L_steps_2 rfl (lv_at hl 0 rfl) ?_
  refine lv_lload_n hx hb d_L_steps_3 rfl (lv_at hl 1 rfl) ?_
  refine xk_l (vx_runV (As := [.long (lN e)]) (rest := [.int (nI 0), .ref x0]) ⟨hx, hb, hml, hown, hts⟩ (x_S_steps l dC dI cI cL hlt st.heap.size s0 m0 c0 e0 q1 vr e he2 he) (cwV 1 hts (gi_V kw_330 kw_331 kw_332 kw_1 gi_S_steps) rfl rfl rfl ⟨rfl, by decide, by decide, by decide⟩ ⟨Nat.le_of_ble_eq_true rfl, Nat.le_of_ble_eq_true rfl⟩) (wq_preVX hP hK hN hE hZ [0] rfl (q0 := 0) (ci := 0) rfl rfl rfl) rfl rfl hl.1 rfl (lv_room (Nat.le_of_ble_eq_true rfl)) d_L_steps_4 ⟨Nat.le_of_ble_eq_true rfl, Nat.le_of_ble_eq_true rfl⟩) hA hown [] ⟨0, 8, 11, 13⟩ [] (htab.trans rfl) (fun z hz => by cases hz) rfl (by decide) (hts _ kw_206) (va_Nw.use rfl (hE.1 _ xw_IA)) (fun q9 H locs hS hkk => ?_)
  have hP := hP.kept (fun k x hx => hkk _ ((hP k x hx).lt))
  have hP : va_P (dC, dI) classes [(s0, .inr (0, [.ref m0, .ref c0, .ref e0, .ref q1, .long (lN vr)])), (x0, .inl (cL, 1, .inr (.inl (fun c => lN (ou c)))))] H := hP
  have hD : va_D A [(s0, .inr (0, [.ref m0, .ref c0, .ref e0, .ref q1, .long (lN vr)])), (x0, .inl (cL, 1, .inr (.inl (fun c => lN (ou c)))))] := hD
  refine lv_astore (lv' := [(4, .ref q9), (0, .ref s0), (1, .long (lN e)), (3, .ref x0)]) hx hb d_L_steps_11 hl (by decide) rfl (fun ls hl => ?_)
  refine lv_iconst (v := nI 1) hx hb d_L_steps_13 (by decide) ?_
  have hP := hP.sub (ws' := [(s0, .inr (0, [.ref m0, .ref c0, .ref e0, .ref q1, .long (lN vr)])), (x0, .inl (cL, 1, .inr (.inl (fun c => lN (ou c)))))]) [0, 1] rfl
  have hD := hD.sub (ws' := [(s0, .inr (0, [.ref m0, .ref c0, .ref e0, .ref q1, .long (lN vr)])), (x0, .inl (cL, 1, .inr (.inl (fun c => lN (ou c)))))]) [0, 1] (by decide) rfl
  exact W.iret (v := nI 1) hx hb hr (fun t9 ht hW => ⟨⟨nI 1, (), rfl, rfl, by rw [ht]; exact hP, va_K.moved hW.alike hK, hD⟩, hS.F ht⟩) hS.2.2 d_L_steps_14
set_option maxHeartbeats 4000000 in
set_option maxRecDepth 100000 in
theorem c_L_channelXA (l : Launch) (dC : Nat → ClassId) (dI : Nat → Nat → Nat) (cI cL : ClassId) (hlt : l.stackTraces = false) (sz : Nat) (s0 m0 c0 e0 q1 : Nat) (vr : Nat) (p n : Nat) (hm : md p n) (a : Nat) (ha2 : a < 2 ^ 64) (ha : ¬ a < 2 ^ n) (x0 : Nat) (ou : Nat → Nat) : Met l y_L_channel w_L_channel ({ frames := 8, cells := 1, slots := 6, locals := 127 } : Room) (va_Pc [.ref s0, .long (lN a), .ref x0] (wq_E (dC, dI) classes [(s0, .inr (0, [.ref m0, .ref c0, .ref e0, .ref q1, .long (lN vr)])), (m0, .inr (1, [.long (lN p), .int (nI n), .long (lN (px_r p 2))])), (x0, .inl (cL, 1, .inr (.inl (fun c => lN (ou c)))))] [(cI, .int), (cL, .long)] sz)) (va_Qi (fun (r : Int32) (u : Unit) => r = nI 1) (fun (u : Unit) t => wq_B (dC, dI) classes [(cI, .int), (cL, .long)] (va_A [(s0, .inr (0, [.ref m0, .ref c0, .ref e0, .ref q1, .long (lN vr)])), (m0, .inr (1, [.long (lN p), .int (nI n), .long (lN (px_r p 2))])), (x0, .inl (cL, 1, .inr (.inl (fun c => lN (ou c)))))] sz) [(s0, .inr (0, [.ref m0, .ref c0, .ref e0, .ref q1, .long (lN vr)])), (m0, .inr (1, [.long (lN p), .int (nI n), .long (lN (px_r p 2))])), (x0, .inl (cL, 1, .inr (.inl (fun c => lN (ou c)))))] t) (va_A [(s0, .inr (0, [.ref m0, .ref c0, .ref e0, .ref q1, .long (lN vr)])), (m0, .inr (1, [.long (lN p), .int (nI n), .long (lN (px_r p 2))])), (x0, .inl (cL, 1, .inr (.inl (fun c => lN (ou c)))))] sz)) 1 6 (va_A [(s0, .inr (0, [.ref m0, .ref c0, .ref e0, .ref q1, .long (lN vr)])), (m0, .inr (1, [.long (lN p), .int (nI n), .long (lN (px_r p 2))])), (x0, .inl (cL, 1, .inr (.inl (fun c => lN (ou c)))))] sz) := by
  refine mt_ofWH (cc := b_L_channel) (maxL := 5) (ret := (Option.some Jvm.ClassFile.FieldType.int)) (hh := [((0 : Nat), (9 : Nat), (12 : Nat), (13 : Nat)), ((0 : Nat), (9 : Nat), (16 : Nat), (32 : Nat))]) (by decide) rfl ?_
  intro pg en st mm ar bw me co s₁ B hml htab hv
  obtain ⟨rfl, ⟨hsz, hP, hK, hD0, hN⟩, hE, hZ, hC⟩ := hv
  have hx := B.exec
  have hb := B.bytes
  have hr := B.returns
  have hlocks := B.notSynchronized
  have hts0 := atoms_spec (ws := w_L_channel) B.pre
  have hts : ∀ w ∈ gw, w.before _ st = true := fun w h => hts0 w (List.mem_cons_of_mem _ h)
  have hown : st.vm.findClass R_L = some mm.cls := findClass_of_methodNamed B.named
  subst hsz
  have hD := hD0.self (sz := st.heap.size)
  generalize hAe : va_A [(s0, .inr (0, [.ref m0, .ref c0, .ref e0, .ref q1, .long (lN vr)])), (m0, .inr (1, [.long (lN p), .int (nI n), .long (lN (px_r p 2))])), (x0, .inl (cL, 1, .inr (.inl (fun c => lN (ou c)))))] st.heap.size = A at hD ⊢
  have hA : ∀ q : Nat, st.heap.size ≤ q → A q := fun q h => by rw [← hAe]; exact Or.inr h
  have hS : va_S A st.heap st.heap [] := va_S.rf
  have hl := lv_entry ([.ref s0, .long (lN a), .ref x0]) (n := 5) (Nat.le_of_ble_eq_true rfl)
  rw [lg_entry_eq]
  generalize (lg_sl ([.ref s0, .long (lN a), .ref x0]) ++ List.replicate (5 - (lg_sl ([.ref s0, .long (lN a), .ref x0])).length) Slot.unset).toArray = ls at hl ⊢
  have hl : lv_has ls 5 [(0, .ref s0), (1, .long (lN a)), (3, .ref x0)] := hl
  refine lv_aload_n hx hb d_L_channel_0 rfl (lv_at hl 2 rfl) ?_
  refine lv_iconst (v := nI 0) hx hb d_L_channel_1 (by decide) ?_
  refine lv_aload_n hx hb d_L_channel_2 rfl (lv_at hl 0 rfl) ?_
  refine lv_lload_n hx hb d_L_channel_3 rfl (lv_at hl 1 rfl) ?_
  refine xk_i (vx_runV (As := [.long (lN a)]) (rest := [.int (nI 0), .ref x0]) ⟨hx, hb, hml, hown, hts⟩ (x_S_channelA l dC dI cI cL hlt st.heap.size s0 m0 c0 e0 q1 vr p n hm a ha2 ha) (cwV 1 hts (gi_V kw_338 kw_339 kw_340 kw_1 gi_S_channel) rfl rfl rfl ⟨rfl, by decide, by decide, by decide⟩ ⟨Nat.le_of_ble_eq_true rfl, Nat.le_of_ble_eq_true rfl⟩) (wq_preVX hP hK hN hE hZ [0, 1] rfl (q0 := 0) (ci := 0) rfl rfl rfl) rfl rfl hl.1 rfl (lv_room (Nat.le_of_ble_eq_true rfl)) d_L_channel_4 ⟨Nat.le_of_ble_eq_true rfl, Nat.le_of_ble_eq_true rfl⟩) hA hown [] ⟨0, 9, 12, 13⟩ [⟨0, 9, 16, 32⟩] (htab.trans rfl) (fun z hz => by cases hz) rfl (by decide) (hts _ kw_206) (va_Nw.use rfl (hE.1 _ xw_IA)) (fun q9 H locs hS hkk => ?_)
  have hP := hP.kept (fun k x hx => hkk _ ((hP k x hx).lt))
  have hP : va_P (dC, dI) classes [(s0, .inr (0, [.ref m0, .ref c0, .ref e0, .ref q1, .long (lN vr)])), (m0, .inr (1, [.long (lN p), .int (nI n), .long (lN (px_r p 2))])), (x0, .inl (cL, 1, .inr (.inl (fun c => lN (ou c)))))] H := hP
  have hD : va_D A [(s0, .inr (0, [.ref m0, .ref c0, .ref e0, .ref q1, .long (lN vr)])), (m0, .inr (1, [.long (lN p), .int (nI n), .long (lN (px_r p 2))])), (x0, .inl (cL, 1, .inr (.inl (fun c => lN (ou c)))))] := hD
  refine lv_astore (lv' := [(4, .ref q9), (0, .ref s0), (1, .long (lN a)), (3, .ref x0)]) hx hb d_L_channel_12 hl (by decide) rfl (fun ls hl => ?_)
  refine lv_iconst (v := nI 1) hx hb d_L_channel_14 (by decide) ?_
  have hP := hP.sub (ws' := [(s0, .inr (0, [.ref m0, .ref c0, .ref e0, .ref q1, .long (lN vr)])), (m0, .inr (1, [.long (lN p), .int (nI n), .long (lN (px_r p 2))])), (x0, .inl (cL, 1, .inr (.inl (fun c => lN (ou c)))))]) [0, 1, 2] rfl
  have hD := hD.sub (ws' := [(s0, .inr (0, [.ref m0, .ref c0, .ref e0, .ref q1, .long (lN vr)])), (m0, .inr (1, [.long (lN p), .int (nI n), .long (lN (px_r p 2))])), (x0, .inl (cL, 1, .inr (.inl (fun c => lN (ou c)))))]) [0, 1, 2] (by decide) rfl
  exact W.iret (v := nI 1) hx hb hr (fun t9 ht hW => ⟨⟨nI 1, (), rfl, rfl, by rw [ht]; exact hP, va_K.moved hW.alike hK, hD⟩, hS.F ht⟩) hS.2.2 d_L_channel_15
set_option maxHeartbeats 4000000 in
set_option maxRecDepth 100000 in
theorem c_L_channelXF (l : Launch) (dC : Nat → ClassId) (dI : Nat → Nat → Nat) (cI cL : ClassId) (hlt : l.stackTraces = false) (sz : Nat) (s0 m0 c0 e0 q1 : Nat) (vr : Nat) (p n : Nat) (hm : md p n) (k1 k2 k3 k4 k5 : Nat) (cc gc oc : Nat) (a : Nat) (ha : a < 2 ^ n) (hcc : cc = 8) (x0 : Nat) (ou : Nat → Nat) : Met l y_L_channel w_L_channel ({ frames := 7, cells := 1, slots := 6, locals := 105 } : Room) (va_Pc [.ref s0, .long (lN a), .ref x0] (wq_E (dC, dI) classes [(s0, .inr (0, [.ref m0, .ref c0, .ref e0, .ref q1, .long (lN vr)])), (m0, .inr (1, [.long (lN p), .int (nI n), .long (lN (px_r p 2))])), (c0, .inr (2, [.ref k1, .ref k2, .ref k3, .ref k4, .ref k5, .int (nI cc), .int (nI gc), .int (nI oc)])), (x0, .inl (cL, 1, .inr (.inl (fun c => lN (ou c)))))] [(cI, .int), (cL, .long)] sz)) (va_Qi (fun (r : Int32) (u : Unit) => r = nI 2) (fun (u : Unit) t => wq_B (dC, dI) classes [(cI, .int), (cL, .long)] (va_A [(s0, .inr (0, [.ref m0, .ref c0, .ref e0, .ref q1, .long (lN vr)])), (m0, .inr (1, [.long (lN p), .int (nI n), .long (lN (px_r p 2))])), (c0, .inr (2, [.ref k1, .ref k2, .ref k3, .ref k4, .ref k5, .int (nI cc), .int (nI gc), .int (nI oc)])), (x0, .inl (cL, 1, .inr (.inl (fun c => lN (ou c)))))] sz) [(s0, .inr (0, [.ref m0, .ref c0, .ref e0, .ref q1, .long (lN vr)])), (m0, .inr (1, [.long (lN p), .int (nI n), .long (lN (px_r p 2))])), (c0, .inr (2, [.ref k1, .ref k2, .ref k3, .ref k4, .ref k5, .int (nI cc), .int (nI gc), .int (nI oc)])), (x0, .inl (cL, 1, .inr (.inl (fun c => lN (ou c)))))] t) (va_A [(s0, .inr (0, [.ref m0, .ref c0, .ref e0, .ref q1, .long (lN vr)])), (m0, .inr (1, [.long (lN p), .int (nI n), .long (lN (px_r p 2))])), (c0, .inr (2, [.ref k1, .ref k2, .ref k3, .ref k4, .ref k5, .int (nI cc), .int (nI gc), .int (nI oc)])), (x0, .inl (cL, 1, .inr (.inl (fun c => lN (ou c)))))] sz)) 1 6 (va_A [(s0, .inr (0, [.ref m0, .ref c0, .ref e0, .ref q1, .long (lN vr)])), (m0, .inr (1, [.long (lN p), .int (nI n), .long (lN (px_r p 2))])), (c0, .inr (2, [.ref k1, .ref k2, .ref k3, .ref k4, .ref k5, .int (nI cc), .int (nI gc), .int (nI oc)])), (x0, .inl (cL, 1, .inr (.inl (fun c => lN (ou c)))))] sz) := by
  refine mt_ofWH (cc := b_L_channel) (maxL := 5) (ret := (Option.some Jvm.ClassFile.FieldType.int)) (hh := [((0 : Nat), (9 : Nat), (12 : Nat), (13 : Nat)), ((0 : Nat), (9 : Nat), (16 : Nat), (32 : Nat))]) (by decide) rfl ?_
  intro pg en st mm ar bw me co s₁ B hml htab hv
  obtain ⟨rfl, ⟨hsz, hP, hK, hD0, hN⟩, hE, hZ, hC⟩ := hv
  have hx := B.exec
  have hb := B.bytes
  have hr := B.returns
  have hlocks := B.notSynchronized
  have hts0 := atoms_spec (ws := w_L_channel) B.pre
  have hts : ∀ w ∈ gw, w.before _ st = true := fun w h => hts0 w (List.mem_cons_of_mem _ h)
  have hown : st.vm.findClass R_L = some mm.cls := findClass_of_methodNamed B.named
  subst hsz
  have hD := hD0.self (sz := st.heap.size)
  generalize hAe : va_A [(s0, .inr (0, [.ref m0, .ref c0, .ref e0, .ref q1, .long (lN vr)])), (m0, .inr (1, [.long (lN p), .int (nI n), .long (lN (px_r p 2))])), (c0, .inr (2, [.ref k1, .ref k2, .ref k3, .ref k4, .ref k5, .int (nI cc), .int (nI gc), .int (nI oc)])), (x0, .inl (cL, 1, .inr (.inl (fun c => lN (ou c)))))] st.heap.size = A at hD ⊢
  have hA : ∀ q : Nat, st.heap.size ≤ q → A q := fun q h => by rw [← hAe]; exact Or.inr h
  have hS : va_S A st.heap st.heap [] := va_S.rf
  have hl := lv_entry ([.ref s0, .long (lN a), .ref x0]) (n := 5) (Nat.le_of_ble_eq_true rfl)
  rw [lg_entry_eq]
  generalize (lg_sl ([.ref s0, .long (lN a), .ref x0]) ++ List.replicate (5 - (lg_sl ([.ref s0, .long (lN a), .ref x0])).length) Slot.unset).toArray = ls at hl ⊢
  have hl : lv_has ls 5 [(0, .ref s0), (1, .long (lN a)), (3, .ref x0)] := hl
  refine lv_aload_n hx hb d_L_channel_0 rfl (lv_at hl 2 rfl) ?_
  refine lv_iconst (v := nI 0) hx hb d_L_channel_1 (by decide) ?_
  refine lv_aload_n hx hb d_L_channel_2 rfl (lv_at hl 0 rfl) ?_
  refine lv_lload_n hx hb d_L_channel_3 rfl (lv_at hl 1 rfl) ?_
  refine xk_i (vx_runV (As := [.long (lN a)]) (rest := [.int (nI 0), .ref x0]) ⟨hx, hb, hml, hown, hts⟩ (x_S_channelF l dC dI cI cL hlt st.heap.size s0 m0 c0 e0 q1 vr p n hm k1 k2 k3 k4 k5 cc gc oc a ha hcc) (cwV 1 hts (gi_V kw_338 kw_339 kw_340 kw_1 gi_S_channel) rfl rfl rfl ⟨rfl, by decide, by decide, by decide⟩ ⟨Nat.le_of_ble_eq_true rfl, Nat.le_of_ble_eq_true rfl⟩) (wq_preVX hP hK hN hE hZ [0, 1, 2] rfl (q0 := 0) (ci := 0) rfl rfl rfl) rfl rfl hl.1 rfl (lv_room (Nat.le_of_ble_eq_true rfl)) d_L_channel_4 ⟨Nat.le_of_ble_eq_true rfl, Nat.le_of_ble_eq_true rfl⟩) hA hown [⟨0, 9, 12, 13⟩] ⟨0, 9, 16, 32⟩ [] (htab.trans rfl) (fun z hz => by
      simp only [List.mem_cons, List.not_mem_nil, or_false] at hz
      rcases hz with rfl
      exact Or.inr ⟨by decide, "java/lang/IllegalArgumentException", hts _ kw_206, xn_use hC xn_IS_IA⟩) rfl (by decide) (hts _ kw_337) (va_Nw.use rfl (hE.1 _ xw_IS)) (fun q9 H locs hS hkk => ?_)
  have hP := hP.kept (fun k x hx => hkk _ ((hP k x hx).lt))
  have hP : va_P (dC, dI) classes [(s0, .inr (0, [.ref m0, .ref c0, .ref e0, .ref q1, .long (lN vr)])), (m0, .inr (1, [.long (lN p), .int (nI n), .long (lN (px_r p 2))])), (c0, .inr (2, [.ref k1, .ref k2, .ref k3, .ref k4, .ref k5, .int (nI cc), .int (nI gc), .int (nI oc)])), (x0, .inl (cL, 1, .inr (.inl (fun c => lN (ou c)))))] H := hP
  have hD : va_D A [(s0, .inr (0, [.ref m0, .ref c0, .ref e0, .ref q1, .long (lN vr)])), (m0, .inr (1, [.long (lN p), .int (nI n), .long (lN (px_r p 2))])), (c0, .inr (2, [.ref k1, .ref k2, .ref k3, .ref k4, .ref k5, .int (nI cc), .int (nI gc), .int (nI oc)])), (x0, .inl (cL, 1, .inr (.inl (fun c => lN (ou c)))))] := hD
  refine lv_astore (lv' := [(4, .ref q9), (0, .ref s0), (1, .long (lN a)), (3, .ref x0)]) hx hb d_L_channel_16 hl (by decide) rfl (fun ls hl => ?_)
  refine lv_iconst (v := nI 2) hx hb d_L_channel_18 (by decide) ?_
  have hP := hP.sub (ws' := [(s0, .inr (0, [.ref m0, .ref c0, .ref e0, .ref q1, .long (lN vr)])), (m0, .inr (1, [.long (lN p), .int (nI n), .long (lN (px_r p 2))])), (c0, .inr (2, [.ref k1, .ref k2, .ref k3, .ref k4, .ref k5, .int (nI cc), .int (nI gc), .int (nI oc)])), (x0, .inl (cL, 1, .inr (.inl (fun c => lN (ou c)))))]) [0, 1, 2, 3] rfl
  have hD := hD.sub (ws' := [(s0, .inr (0, [.ref m0, .ref c0, .ref e0, .ref q1, .long (lN vr)])), (m0, .inr (1, [.long (lN p), .int (nI n), .long (lN (px_r p 2))])), (c0, .inr (2, [.ref k1, .ref k2, .ref k3, .ref k4, .ref k5, .int (nI cc), .int (nI gc), .int (nI oc)])), (x0, .inl (cL, 1, .inr (.inl (fun c => lN (ou c)))))]) [0, 1, 2, 3] (by decide) rfl
  exact W.iret (v := nI 2) hx hb hr (fun t9 ht hW => ⟨⟨nI 2, (), rfl, rfl, by rw [ht]; exact hP, va_K.moved hW.alike hK, hD⟩, hS.F ht⟩) hS.2.2 d_L_channel_19
set_option maxHeartbeats 4000000 in
set_option maxRecDepth 100000 in
theorem c_L_gateXK (l : Launch) (dC : Nat → ClassId) (dI : Nat → Nat → Nat) (cI cL : ClassId) (hlt : l.stackTraces = false) (sz : Nat) (s0 m0 c0 e0 q1 : Nat) (vr : Nat) (y0 y1 y2 : Int32) (hy : y0 < 0 ∨ ¬ y0 ≤ nI 5) (x0 : Nat) (ou : Nat → Nat) : Met l y_L_gate w_L_gate ({ frames := 7, cells := 1, slots := 6, locals := 106 } : Room) (va_Pc [.ref s0, .int y0, .int y1, .int y2, .ref x0] (wq_E (dC, dI) classes [(s0, .inr (0, [.ref m0, .ref c0, .ref e0, .ref q1, .long (lN vr)])), (x0, .inl (cL, 1, .inr (.inl (fun c => lN (ou c)))))] [(cI, .int), (cL, .long)] sz)) (va_Qi (fun (r : Int32) (u : Unit) => r = nI 1) (fun (u : Unit) t => wq_B (dC, dI) classes [(cI, .int), (cL, .long)] (va_A [(s0, .inr (0, [.ref m0, .ref c0, .ref e0, .ref q1, .long (lN vr)])), (x0, .inl (cL, 1, .inr (.inl (fun c => lN (ou c)))))] sz) [(s0, .inr (0, [.ref m0, .ref c0, .ref e0, .ref q1, .long (lN vr)])), (x0, .inl (cL, 1, .inr (.inl (fun c => lN (ou c)))))] t) (va_A [(s0, .inr (0, [.ref m0, .ref c0, .ref e0, .ref q1, .long (lN vr)])), (x0, .inl (cL, 1, .inr (.inl (fun c => lN (ou c)))))] sz)) 1 6 (va_A [(s0, .inr (0, [.ref m0, .ref c0, .ref e0, .ref q1, .long (lN vr)])), (x0, .inl (cL, 1, .inr (.inl (fun c => lN (ou c)))))] sz) := by
  refine mt_ofWH (cc := b_L_gate) (maxL := 6) (ret := (Option.some Jvm.ClassFile.FieldType.int)) (hh := [((0 : Nat), (12 : Nat), (15 : Nat), (13 : Nat)), ((0 : Nat), (12 : Nat), (19 : Nat), (38 : Nat)), ((0 : Nat), (12 : Nat), (23 : Nat), (32 : Nat))]) (by decide) rfl ?_
  intro pg en st mm ar bw me co s₁ B hml htab hv
  obtain ⟨rfl, ⟨hsz, hP, hK, hD0, hN⟩, hE, hZ, hC⟩ := hv
  have hx := B.exec
  have hb := B.bytes
  have hr := B.returns
  have hlocks := B.notSynchronized
  have hts0 := atoms_spec (ws := w_L_gate) B.pre
  have hts : ∀ w ∈ gw, w.before _ st = true := fun w h => hts0 w (List.mem_cons_of_mem _ h)
  have hown : st.vm.findClass R_L = some mm.cls := findClass_of_methodNamed B.named
  subst hsz
  have hD := hD0.self (sz := st.heap.size)
  generalize hAe : va_A [(s0, .inr (0, [.ref m0, .ref c0, .ref e0, .ref q1, .long (lN vr)])), (x0, .inl (cL, 1, .inr (.inl (fun c => lN (ou c)))))] st.heap.size = A at hD ⊢
  have hA : ∀ q : Nat, st.heap.size ≤ q → A q := fun q h => by rw [← hAe]; exact Or.inr h
  have hS : va_S A st.heap st.heap [] := va_S.rf
  have hl := lv_entry ([.ref s0, .int y0, .int y1, .int y2, .ref x0]) (n := 6) (Nat.le_of_ble_eq_true rfl)
  rw [lg_entry_eq]
  generalize (lg_sl ([.ref s0, .int y0, .int y1, .int y2, .ref x0]) ++ List.replicate (6 - (lg_sl ([.ref s0, .int y0, .int y1, .int y2, .ref x0])).length) Slot.unset).toArray = ls at hl ⊢
  have hl : lv_has ls 6 [(0, .ref s0), (1, .int y0), (2, .int y1), (3, .int y2), (4, .ref x0)] := hl
  refine lv_aload hx hb d_L_gate_0 (lv_at hl 4 rfl) ?_
  refine lv_iconst (v := nI 0) hx hb d_L_gate_2 (by decide) ?_
  refine lv_aload_n hx hb d_L_gate_3 rfl (lv_at hl 0 rfl) ?_
  refine lv_iload_n hx hb d_L_gate_4 rfl (lv_at hl 1 rfl) ?_
  refine lv_iload_n hx hb d_L_gate_5 rfl (lv_at hl 2 rfl) ?_
  refine lv_iload_n hx hb d_L_gate_6 rfl (lv_at hl 3 rfl) ?_
  refine xk_i (vx_runV (As := [.int y0, .int y1, .int y2]) (rest := [.int (nI 0), .ref x0]) ⟨hx, hb, hml, hown, hts⟩ (x_S_gateK l dC dI cI cL hlt st.heap.size s0 m0 c0 e0 q1 vr y0 y1 y2 hy) (cwV 3 hts (gi_V kw_362 kw_363 kw_364 kw_1 gi_S_gate) rfl rfl rfl ⟨rfl, by decide, by decide, by decide⟩ ⟨Nat.le_of_ble_eq_true rfl, Nat.le_of_ble_eq_true rfl⟩) (wq_preVX hP hK hN hE hZ [0] rfl (q0 := 0) (ci := 0) rfl rfl rfl) rfl rfl hl.1 rfl (lv_room (Nat.le_of_ble_eq_true rfl)) d_L_gate_7 ⟨Nat.le_of_ble_eq_true rfl, Nat.le_of_ble_eq_true rfl⟩) hA hown [] ⟨0, 12, 15, 13⟩ [⟨0, 12, 19, 38⟩, ⟨0, 12, 23, 32⟩] (htab.trans rfl) (fun z hz => by cases hz) rfl (by decide) (hts _ kw_206) (va_Nw.use rfl (hE.1 _ xw_IA)) (fun q9 H locs hS hkk => ?_)
  have hP := hP.kept (fun k x hx => hkk _ ((hP k x hx).lt))
  have hP : va_P (dC, dI) classes [(s0, .inr (0, [.ref m0, .ref c0, .ref e0, .ref q1, .long (lN vr)])), (x0, .inl (cL, 1, .inr (.inl (fun c => lN (ou c)))))] H := hP
  have hD : va_D A [(s0, .inr (0, [.ref m0, .ref c0, .ref e0, .ref q1, .long (lN vr)])), (x0, .inl (cL, 1, .inr (.inl (fun c => lN (ou c)))))] := hD
  refine lv_astore (lv' := [(5, .ref q9), (0, .ref s0), (1, .int y0), (2, .int y1), (3, .int y2), (4, .ref x0)]) hx hb d_L_gate_15 hl (by decide) rfl (fun ls hl => ?_)
  refine lv_iconst (v := nI 1) hx hb d_L_gate_17 (by decide) ?_
  have hP := hP.sub (ws' := [(s0, .inr (0, [.ref m0, .ref c0, .ref e0, .ref q1, .long (lN vr)])), (x0, .inl (cL, 1, .inr (.inl (fun c => lN (ou c)))))]) [0, 1] rfl
  have hD := hD.sub (ws' := [(s0, .inr (0, [.ref m0, .ref c0, .ref e0, .ref q1, .long (lN vr)])), (x0, .inl (cL, 1, .inr (.inl (fun c => lN (ou c)))))]) [0, 1] (by decide) rfl
  exact W.iret (v := nI 1) hx hb hr (fun t9 ht hW => ⟨⟨nI 1, (), rfl, rfl, by rw [ht]; exact hP, va_K.moved hW.alike hK, hD⟩, hS.F ht⟩) hS.2.2 d_L_gate_18
set_option maxHeartbeats 4000000 in
set_option maxRecDepth 100000 in
theorem c_L_gateXA (l : Launch) (dC : Nat → ClassId) (dI : Nat → Nat → Nat) (cI cL : ClassId) (hlt : l.stackTraces = false) (sz : Nat) (s0 m0 c0 e0 q1 : Nat) (vr : Nat) (k1 k2 k3 k4 k5 : Nat) (cc gc oc : Nat) (kk : Nat) (hkk : kk ≤ 5) (y1 y2 : Int32) (hy : y1 < 0 ∨ ¬ y1 < nI (cc + gc)) (x0 : Nat) (ou : Nat → Nat) : Met l y_L_gate w_L_gate ({ frames := 8, cells := 1, slots := 6, locals := 127 } : Room) (va_Pc [.ref s0, .int (nI kk), .int y1, .int y2, .ref x0] (wq_E (dC, dI) classes [(s0, .inr (0, [.ref m0, .ref c0, .ref e0, .ref q1, .long (lN vr)])), (c0, .inr (2, [.ref k1, .ref k2, .ref k3, .ref k4, .ref k5, .int (nI cc), .int (nI gc), .int (nI oc)])), (x0, .inl (cL, 1, .inr (.inl (fun c => lN (ou c)))))] [(cI, .int), (cL, .long)] sz)) (va_Qi (fun (r : Int32) (u : Unit) => r = nI 2) (fun (u : Unit) t => wq_B (dC, dI) classes [(cI, .int), (cL, .long)] (va_A [(s0, .inr (0, [.ref m0, .ref c0, .ref e0, .ref q1, .long (lN vr)])), (c0, .inr (2, [.ref k1, .ref k2, .ref k3, .ref k4, .ref k5, .int (nI cc), .int (nI gc), .int (nI oc)])), (x0, .inl (cL, 1, .inr (.inl (fun c => lN (ou c)))))] sz) [(s0, .inr (0, [.ref m0, .ref c0, .ref e0, .ref q1, .long (lN vr)])), (c0, .inr (2, [.ref k1, .ref k2, .ref k3, .ref k4, .ref k5, .int (nI cc), .int (nI gc), .int (nI oc)])), (x0, .inl (cL, 1, .inr (.inl (fun c => lN (ou c)))))] t) (va_A [(s0, .inr (0, [.ref m0, .ref c0, .ref e0, .ref q1, .long (lN vr)])), (c0, .inr (2, [.ref k1, .ref k2, .ref k3, .ref k4, .ref k5, .int (nI cc), .int (nI gc), .int (nI oc)])), (x0, .inl (cL, 1, .inr (.inl (fun c => lN (ou c)))))] sz)) 1 6 (va_A [(s0, .inr (0, [.ref m0, .ref c0, .ref e0, .ref q1, .long (lN vr)])), (c0, .inr (2, [.ref k1, .ref k2, .ref k3, .ref k4, .ref k5, .int (nI cc), .int (nI gc), .int (nI oc)])), (x0, .inl (cL, 1, .inr (.inl (fun c => lN (ou c)))))] sz) := by
  refine mt_ofWH (cc := b_L_gate) (maxL := 6) (ret := (Option.some Jvm.ClassFile.FieldType.int)) (hh := [((0 : Nat), (12 : Nat), (15 : Nat), (13 : Nat)), ((0 : Nat), (12 : Nat), (19 : Nat), (38 : Nat)), ((0 : Nat), (12 : Nat), (23 : Nat), (32 : Nat))]) (by decide) rfl ?_
  intro pg en st mm ar bw me co s₁ B hml htab hv
  obtain ⟨rfl, ⟨hsz, hP, hK, hD0, hN⟩, hE, hZ, hC⟩ := hv
  have hx := B.exec
  have hb := B.bytes
  have hr := B.returns
  have hlocks := B.notSynchronized
  have hts0 := atoms_spec (ws := w_L_gate) B.pre
  have hts : ∀ w ∈ gw, w.before _ st = true := fun w h => hts0 w (List.mem_cons_of_mem _ h)
  have hown : st.vm.findClass R_L = some mm.cls := findClass_of_methodNamed B.named
  subst hsz
  have hD := hD0.self (sz := st.heap.size)
  generalize hAe : va_A [(s0, .inr (0, [.ref m0, .ref c0, .ref e0, .ref q1, .long (lN vr)])), (c0, .inr (2, [.ref k1, .ref k2, .ref k3, .ref k4, .ref k5, .int (nI cc), .int (nI gc), .int (nI oc)])), (x0, .inl (cL, 1, .inr (.inl (fun c => lN (ou c)))))] st.heap.size = A at hD ⊢
  have hA : ∀ q : Nat, st.heap.size ≤ q → A q := fun q h => by rw [← hAe]; exact Or.inr h
  have hS : va_S A st.heap st.heap [] := va_S.rf
  have hl := lv_entry ([.ref s0, .int (nI kk), .int y1, .int y2, .ref x0]) (n := 6) (Nat.le_of_ble_eq_true rfl)
  rw [lg_entry_eq]
  generalize (lg_sl ([.ref s0, .int (nI kk), .int y1, .int y2, .ref x0]) ++ List.replicate (6 - (lg_sl ([.ref s0, .int (nI kk), .int y1, .int y2, .ref x0])).length) Slot.unset).toArray = ls at hl ⊢
  have hl : lv_has ls 6 [(0, .ref s0), (1, .int (nI kk)), (2, .int y1), (3, .int y2), (4, .ref x0)] := hl
  refine lv_aload hx hb d_L_gate_0 (lv_at hl 4 rfl) ?_
  refine lv_iconst (v := nI 0) hx hb d_L_gate_2 (by decide) ?_
  refine lv_aload_n hx hb d_L_gate_3 rfl (lv_at hl 0 rfl) ?_
  refine lv_iload_n hx hb d_L_gate_4 rfl (lv_at hl 1 rfl) ?_
  refine lv_iload_n hx hb d_L_gate_5 rfl (lv_at hl 2 rfl) ?_
  refine lv_iload_n hx hb d_L_gate_6 rfl (lv_at hl 3 rfl) ?_
  refine xk_i (vx_runV (As := [.int (nI kk), .int y1, .int y2]) (rest := [.int (nI 0), .ref x0]) ⟨hx, hb, hml, hown, hts⟩ (x_S_gateA l dC dI cI cL hlt st.heap.size s0 m0 c0 e0 q1 vr k1 k2 k3 k4 k5 cc gc oc kk hkk y1 y2 hy) (cwV 3 hts (gi_V kw_362 kw_363 kw_364 kw_1 gi_S_gate) rfl rfl rfl ⟨rfl, by decide, by decide, by decide⟩ ⟨Nat.le_of_ble_eq_true rfl, Nat.le_of_ble_eq_true rfl⟩) (wq_preVX hP hK hN hE hZ [0, 1] rfl (q0 := 0) (ci := 0) rfl rfl rfl) rfl rfl hl.1 rfl (lv_room (Nat.le_of_ble_eq_true rfl)) d_L_gate_7 ⟨Nat.le_of_ble_eq_true rfl, Nat.le_of_ble_eq_true rfl⟩) hA hown [⟨0, 12, 15, 13⟩] ⟨0, 12, 19, 38⟩ [⟨0, 12, 23, 32⟩] (htab.trans rfl) (fun z hz => by
      simp only [List.mem_cons, List.not_mem_nil, or_false] at hz
      rcases hz with rfl
      exact Or.inr ⟨by decide, "java/lang/IllegalArgumentException", hts _ kw_206, xn_use hC xn_IO_IA⟩) rfl (by decide) (hts _ kw_361) (va_Nw.use rfl (hE.1 _ xw_IO)) (fun q9 H locs hS hkk => ?_)
  have hP := hP.kept (fun k x hx => hkk _ ((hP k x hx).lt))
  have hP : va_P (dC, dI) classes [(s0, .inr (0, [.ref m0, .ref c0, .ref e0, .ref q1, .long (lN vr)])), (c0, .inr (2, [.ref k1, .ref k2, .ref k3, .ref k4, .ref k5, .int (nI cc), .int (nI gc), .int (nI oc)])), (x0, .inl (cL, 1, .inr (.inl (fun c => lN (ou c)))))] H := hP
  have hD : va_D A [(s0, .inr (0, [.ref m0, .ref c0, .ref e0, .ref q1, .long (lN vr)])), (c0, .inr (2, [.ref k1, .ref k2, .ref k3, .ref k4, .ref k5, .int (nI cc), .int (nI gc), .int (nI oc)])), (x0, .inl (cL, 1, .inr (.inl (fun c => lN (ou c)))))] := hD
  refine lv_astore (lv' := [(5, .ref q9), (0, .ref s0), (1, .int (nI kk)), (2, .int y1), (3, .int y2), (4, .ref x0)]) hx hb d_L_gate_19 hl (by decide) rfl (fun ls hl => ?_)
  refine lv_iconst (v := nI 2) hx hb d_L_gate_21 (by decide) ?_
  have hP := hP.sub (ws' := [(s0, .inr (0, [.ref m0, .ref c0, .ref e0, .ref q1, .long (lN vr)])), (c0, .inr (2, [.ref k1, .ref k2, .ref k3, .ref k4, .ref k5, .int (nI cc), .int (nI gc), .int (nI oc)])), (x0, .inl (cL, 1, .inr (.inl (fun c => lN (ou c)))))]) [0, 1, 2] rfl
  have hD := hD.sub (ws' := [(s0, .inr (0, [.ref m0, .ref c0, .ref e0, .ref q1, .long (lN vr)])), (c0, .inr (2, [.ref k1, .ref k2, .ref k3, .ref k4, .ref k5, .int (nI cc), .int (nI gc), .int (nI oc)])), (x0, .inl (cL, 1, .inr (.inl (fun c => lN (ou c)))))]) [0, 1, 2] (by decide) rfl
  exact W.iret (v := nI 2) hx hb hr (fun t9 ht hW => ⟨⟨nI 2, (), rfl, rfl, by rw [ht]; exact hP, va_K.moved hW.alike hK, hD⟩, hS.F ht⟩) hS.2.2 d_L_gate_22
set_option maxHeartbeats 4000000 in
set_option maxRecDepth 100000 in
theorem c_L_gateXB (l : Launch) (dC : Nat → ClassId) (dI : Nat → Nat → Nat) (cI cL : ClassId) (hlt : l.stackTraces = false) (sz : Nat) (s0 m0 c0 e0 q1 : Nat) (vr : Nat) (k1 k2 k3 k4 k5 : Nat) (cc gc oc : Nat) (kk a : Nat) (hkk : kk < 5) (ha : a < cc + gc) (hl1 : cc + gc < 2 ^ 31) (y2 : Int32) (hy : y2 < 0 ∨ ¬ y2 < nI (cc + gc)) (x0 : Nat) (ou : Nat → Nat) : Met l y_L_gate w_L_gate ({ frames := 8, cells := 1, slots := 6, locals := 127 } : Room) (va_Pc [.ref s0, .int (nI kk), .int (nI a), .int y2, .ref x0] (wq_E (dC, dI) classes [(s0, .inr (0, [.ref m0, .ref c0, .ref e0, .ref q1, .long (lN vr)])), (c0, .inr (2, [.ref k1, .ref k2, .ref k3, .ref k4, .ref k5, .int (nI cc), .int (nI gc), .int (nI oc)])), (x0, .inl (cL, 1, .inr (.inl (fun c => lN (ou c)))))] [(cI, .int), (cL, .long)] sz)) (va_Qi (fun (r : Int32) (u : Unit) => r = nI 2) (fun (u : Unit) t => wq_B (dC, dI) classes [(cI, .int), (cL, .long)] (va_A [(s0, .inr (0, [.ref m0, .ref c0, .ref e0, .ref q1, .long (lN vr)])), (c0, .inr (2, [.ref k1, .ref k2, .ref k3, .ref k4, .ref k5, .int (nI cc), .int (nI gc), .int (nI oc)])), (x0, .inl (cL, 1, .inr (.inl (fun c => lN (ou c)))))] sz) [(s0, .inr (0, [.ref m0, .ref c0, .ref e0, .ref q1, .long (lN vr)])), (c0, .inr (2, [.ref k1, .ref k2, .ref k3, .ref k4, .ref k5, .int (nI cc), .int (nI gc), .int (nI oc)])), (x0, .inl (cL, 1, .inr (.inl (fun c => lN (ou c)))))] t) (va_A [(s0, .inr (0, [.ref m0, .ref c0, .ref e0, .ref q1, .long (lN vr)])), (c0, .inr (2, [.ref k1, .ref k2, .ref k3, .ref k4, .ref k5, .int (nI cc), .int (nI gc), .int (nI oc)])), (x0, .inl (cL, 1, .inr (.inl (fun c => lN (ou c)))))] sz)) 1 6 (va_A [(s0, .inr (0, [.ref m0, .ref c0, .ref e0, .ref q1, .long (lN vr)])), (c0, .inr (2, [.ref k1, .ref k2, .ref k3, .ref k4, .ref k5, .int (nI cc), .int (nI gc), .int (nI oc)])), (x0, .inl (cL, 1, .inr (.inl (fun c => lN (ou c)))))] sz) := by
  refine mt_ofWH (cc := b_L_gate) (maxL := 6) (ret := (Option.some Jvm.ClassFile.FieldType.int)) (hh := [((0 : Nat), (12 : Nat), (15 : Nat), (13 : Nat)), ((0 : Nat), (12 : Nat), (19 : Nat), (38 : Nat)), ((0 : Nat), (12 : Nat), (23 : Nat), (32 : Nat))]) (by decide) rfl ?_
  intro pg en st mm ar bw me co s₁ B hml htab hv
  obtain ⟨rfl, ⟨hsz, hP, hK, hD0, hN⟩, hE, hZ, hC⟩ := hv
  have hx := B.exec
  have hb := B.bytes
  have hr := B.returns
  have hlocks := B.notSynchronized
  have hts0 := atoms_spec (ws := w_L_gate) B.pre
  have hts : ∀ w ∈ gw, w.before _ st = true := fun w h => hts0 w (List.mem_cons_of_mem _ h)
  have hown : st.vm.findClass R_L = some mm.cls := findClass_of_methodNamed B.named
  subst hsz
  have hD := hD0.self (sz := st.heap.size)
  generalize hAe : va_A [(s0, .inr (0, [.ref m0, .ref c0, .ref e0, .ref q1, .long (lN vr)])), (c0, .inr (2, [.ref k1, .ref k2, .ref k3, .ref k4, .ref k5, .int (nI cc), .int (nI gc), .int (nI oc)])), (x0, .inl (cL, 1, .inr (.inl (fun c => lN (ou c)))))] st.heap.size = A at hD ⊢
  have hA : ∀ q : Nat, st.heap.size ≤ q → A q := fun q h => by rw [← hAe]; exact Or.inr h
  have hS : va_S A st.heap st.heap [] := va_S.rf
  have hl := lv_entry ([.ref s0, .int (nI kk), .int (nI a), .int y2, .ref x0]) (n := 6) (Nat.le_of_ble_eq_true rfl)
  rw [lg_entry_eq]
  generalize (lg_sl ([.ref s0, .int (nI kk), .int (nI a), .int y2, .ref x0]) ++ List.replicate (6 - (lg_sl ([.ref s0, .int (nI kk), .int (nI a), .int y2, .ref x0])).length) Slot.unset).toArray = ls at hl ⊢
  have hl : lv_has ls 6 [(0, .ref s0), (1, .int (nI kk)), (2, .int (nI a)), (3, .int y2), (4, .ref x0)] := hl
  refine lv_aload hx hb d_L_gate_0 (lv_at hl 4 rfl) ?_
  refine lv_iconst (v := nI 0) hx hb d_L_gate_2 (by decide) ?_
  refine lv_aload_n hx hb d_L_gate_3 rfl (lv_at hl 0 rfl) ?_
  refine lv_iload_n hx hb d_L_gate_4 rfl (lv_at hl 1 rfl) ?_
  refine lv_iload_n hx hb d_L_gate_5 rfl (lv_at hl 2 rfl) ?_
  refine lv_iload_n hx hb d_L_gate_6 rfl (lv_at hl 3 rfl) ?_
  refine xk_i (vx_runV (As := [.int (nI kk), .int (nI a), .int y2]) (rest := [.int (nI 0), .ref x0]) ⟨hx, hb, hml, hown, hts⟩ (x_S_gateB l dC dI cI cL hlt st.heap.size s0 m0 c0 e0 q1 vr k1 k2 k3 k4 k5 cc gc oc kk a hkk ha hl1 y2 hy) (cwV 3 hts (gi_V kw_362 kw_363 kw_364 kw_1 gi_S_gate) rfl rfl rfl ⟨rfl, by decide, by decide, by decide⟩ ⟨Nat.le_of_ble_eq_true rfl, Nat.le_of_ble_eq_true rfl⟩) (wq_preVX hP hK hN hE hZ [0, 1] rfl (q0 := 0) (ci := 0) rfl rfl rfl) rfl rfl hl.1 rfl (lv_room (Nat.le_of_ble_eq_true rfl)) d_L_gate_7 ⟨Nat.le_of_ble_eq_true rfl, Nat.le_of_ble_eq_true rfl⟩) hA hown [⟨0, 12, 15, 13⟩] ⟨0, 12, 19, 38⟩ [⟨0, 12, 23, 32⟩] (htab.trans rfl) (fun z hz => by
      simp only [List.mem_cons, List.not_mem_nil, or_false] at hz
      rcases hz with rfl
      exact Or.inr ⟨by decide, "java/lang/IllegalArgumentException", hts _ kw_206, xn_use hC xn_IO_IA⟩) rfl (by decide) (hts _ kw_361) (va_Nw.use rfl (hE.1 _ xw_IO)) (fun q9 H locs hS hkk => ?_)
  have hP := hP.kept (fun k x hx => hkk _ ((hP k x hx).lt))
  have hP : va_P (dC, dI) classes [(s0, .inr (0, [.ref m0, .ref c0, .ref e0, .ref q1, .long (lN vr)])), (c0, .inr (2, [.ref k1, .ref k2, .ref k3, .ref k4, .ref k5, .int (nI cc), .int (nI gc), .int (nI oc)])), (x0, .inl (cL, 1, .inr (.inl (fun c => lN (ou c)))))] H := hP
  have hD : va_D A [(s0, .inr (0, [.ref m0, .ref c0, .ref e0, .ref q1, .long (lN vr)])), (c0, .inr (2, [.ref k1, .ref k2, .ref k3, .ref k4, .ref k5, .int (nI cc), .int (nI gc), .int (nI oc)])), (x0, .inl (cL, 1, .inr (.inl (fun c => lN (ou c)))))] := hD
  refine lv_astore (lv' := [(5, .ref q9), (0, .ref s0), (1, .int (nI kk)), (2, .int (nI a)), (3, .int y2), (4, .ref x0)]) hx hb d_L_gate_19 hl (by decide) rfl (fun ls hl => ?_)
  refine lv_iconst (v := nI 2) hx hb d_L_gate_21 (by decide) ?_
  have hP := hP.sub (ws' := [(s0, .inr (0, [.ref m0, .ref c0, .ref e0, .ref q1, .long (lN vr)])), (c0, .inr (2, [.ref k1, .ref k2, .ref k3, .ref k4, .ref k5, .int (nI cc), .int (nI gc), .int (nI oc)])), (x0, .inl (cL, 1, .inr (.inl (fun c => lN (ou c)))))]) [0, 1, 2] rfl
  have hD := hD.sub (ws' := [(s0, .inr (0, [.ref m0, .ref c0, .ref e0, .ref q1, .long (lN vr)])), (c0, .inr (2, [.ref k1, .ref k2, .ref k3, .ref k4, .ref k5, .int (nI cc), .int (nI gc), .int (nI oc)])), (x0, .inl (cL, 1, .inr (.inl (fun c => lN (ou c)))))]) [0, 1, 2] (by decide) rfl
  exact W.iret (v := nI 2) hx hb hr (fun t9 ht hW => ⟨⟨nI 2, (), rfl, rfl, by rw [ht]; exact hP, va_K.moved hW.alike hK, hD⟩, hS.F ht⟩) hS.2.2 d_L_gate_22
set_option maxHeartbeats 4000000 in
set_option maxRecDepth 100000 in
theorem c_L_gateXF5 (l : Launch) (dC : Nat → ClassId) (dI : Nat → Nat → Nat) (cI cL : ClassId) (hlt : l.stackTraces = false) (sz : Nat) (s0 m0 c0 e0 q1 : Nat) (vr : Nat) (k1 k2 k3 k4 k5 : Nat) (cc gc oc : Nat) (a : Nat) (y : Int32) (ha : a < cc + gc) (hl1 : cc + gc < 2 ^ 31) (hgc : gc = 24) (x0 : Nat) (ou : Nat → Nat) : Met l y_L_gate w_L_gate ({ frames := 7, cells := 1, slots := 6, locals := 106 } : Room) (va_Pc [.ref s0, .int (nI 5), .int (nI a), .int y, .ref x0] (wq_E (dC, dI) classes [(s0, .inr (0, [.ref m0, .ref c0, .ref e0, .ref q1, .long (lN vr)])), (c0, .inr (2, [.ref k1, .ref k2, .ref k3, .ref k4, .ref k5, .int (nI cc), .int (nI gc), .int (nI oc)])), (x0, .inl (cL, 1, .inr (.inl (fun c => lN (ou c)))))] [(cI, .int), (cL, .long)] sz)) (va_Qi (fun (r : Int32) (u : Unit) => r = nI 3) (fun (u : Unit) t => wq_B (dC, dI) classes [(cI, .int), (cL, .long)] (va_A [(s0, .inr (0, [.ref m0, .ref c0, .ref e0, .ref q1, .long (lN vr)])), (c0, .inr (2, [.ref k1, .ref k2, .ref k3, .ref k4, .ref k5, .int (nI cc), .int (nI gc), .int (nI oc)])), (x0, .inl (cL, 1, .inr (.inl (fun c => lN (ou c)))))] sz) [(s0, .inr (0, [.ref m0, .ref c0, .ref e0, .ref q1, .long (lN vr)])), (c0, .inr (2, [.ref k1, .ref k2, .ref k3, .ref k4, .ref k5, .int (nI cc), .int (nI gc), .int (nI oc)])), (x0, .inl (cL, 1, .inr (.inl (fun c => lN (ou c)))))] t) (va_A [(s0, .inr (0, [.ref m0, .ref c0, .ref e0, .ref q1, .long (lN vr)])), (c0, .inr (2, [.ref k1, .ref k2, .ref k3, .ref k4, .ref k5, .int (nI cc), .int (nI gc), .int (nI oc)])), (x0, .inl (cL, 1, .inr (.inl (fun c => lN (ou c)))))] sz)) 1 6 (va_A [(s0, .inr (0, [.ref m0, .ref c0, .ref e0, .ref q1, .long (lN vr)])), (c0, .inr (2, [.ref k1, .ref k2, .ref k3, .ref k4, .ref k5, .int (nI cc), .int (nI gc), .int (nI oc)])), (x0, .inl (cL, 1, .inr (.inl (fun c => lN (ou c)))))] sz) := by
  refine mt_ofWH (cc := b_L_gate) (maxL := 6) (ret := (Option.some Jvm.ClassFile.FieldType.int)) (hh := [((0 : Nat), (12 : Nat), (15 : Nat), (13 : Nat)), ((0 : Nat), (12 : Nat), (19 : Nat), (38 : Nat)), ((0 : Nat), (12 : Nat), (23 : Nat), (32 : Nat))]) (by decide) rfl ?_
  intro pg en st mm ar bw me co s₁ B hml htab hv
  obtain ⟨rfl, ⟨hsz, hP, hK, hD0, hN⟩, hE, hZ, hC⟩ := hv
  have hx := B.exec
  have hb := B.bytes
  have hr := B.returns
  have hlocks := B.notSynchronized
  have hts0 := atoms_spec (ws := w_L_gate) B.pre
  have hts : ∀ w ∈ gw, w.before _ st = true := fun w h => hts0 w (List.mem_cons_of_mem _ h)
  have hown : st.vm.findClass R_L = some mm.cls := findClass_of_methodNamed B.named
  subst hsz
  have hD := hD0.self (sz := st.heap.size)
  generalize hAe : va_A [(s0, .inr (0, [.ref m0, .ref c0, .ref e0, .ref q1, .long (lN vr)])), (c0, .inr (2, [.ref k1, .ref k2, .ref k3, .ref k4, .ref k5, .int (nI cc), .int (nI gc), .int (nI oc)])), (x0, .inl (cL, 1, .inr (.inl (fun c => lN (ou c)))))] st.heap.size = A at hD ⊢
  have hA : ∀ q : Nat, st.heap.size ≤ q → A q := fun q h => by rw [← hAe]; exact Or.inr h
  have hS : va_S A st.heap st.heap [] := va_S.rf
  have hl := lv_entry ([.ref s0, .int (nI 5), .int (nI a), .int y, .ref x0]) (n := 6) (Nat.le_of_ble_eq_true rfl)
  rw [lg_entry_eq]
  generalize (lg_sl ([.ref s0, .int (nI 5), .int (nI a), .int y, .ref x0]) ++ List.replicate (6 - (lg_sl ([.ref s0, .int (nI 5), .int (nI a), .int y, .ref x0])).length) Slot.unset).toArray = ls at hl ⊢
  have hl : lv_has ls 6 [(0, .ref s0), (1, .int (nI 5)), (2, .int (nI a)), (3, .int y), (4, .ref x0)] := hl
  refine lv_aload hx hb d_L_gate_0 (lv_at hl 4 rfl) ?_
  refine lv_iconst (v := nI 0) hx hb d_L_gate_2 (by decide) ?_
  refine lv_aload_n hx hb d_L_gate_3 rfl (lv_at hl 0 rfl) ?_
  refine lv_iload_n hx hb d_L_gate_4 rfl (lv_at hl 1 rfl) ?_
  refine lv_iload_n hx hb d_L_gate_5 rfl (lv_at hl 2 rfl) ?_
  refine lv_iload_n hx hb d_L_gate_6 rfl (lv_at hl 3 rfl) ?_
  refine xk_i (vx_runV (As := [.int (nI 5), .int (nI a), .int y]) (rest := [.int (nI 0), .ref x0]) ⟨hx, hb, hml, hown, hts⟩ (x_S_gateF5 l dC dI cI cL hlt st.heap.size s0 m0 c0 e0 q1 vr k1 k2 k3 k4 k5 cc gc oc a y ha hl1 hgc) (cwV 3 hts (gi_V kw_362 kw_363 kw_364 kw_1 gi_S_gate) rfl rfl rfl ⟨rfl, by decide, by decide, by decide⟩ ⟨Nat.le_of_ble_eq_true rfl, Nat.le_of_ble_eq_true rfl⟩) (wq_preVX hP hK hN hE hZ [0, 1] rfl (q0 := 0) (ci := 0) rfl rfl rfl) rfl rfl hl.1 rfl (lv_room (Nat.le_of_ble_eq_true rfl)) d_L_gate_7 ⟨Nat.le_of_ble_eq_true rfl, Nat.le_of_ble_eq_true rfl⟩) hA hown [⟨0, 12, 15, 13⟩, ⟨0, 12, 19, 38⟩] ⟨0, 12, 23, 32⟩ [] (htab.trans rfl) (fun z hz => by
      simp only [List.mem_cons, List.not_mem_nil, or_false] at hz
      rcases hz with rfl | rfl
      · exact Or.inr ⟨by decide, "java/lang/IllegalArgumentException", hts _ kw_206, xn_use hC xn_IS_IA⟩
      · exact Or.inr ⟨by decide, "java/lang/IndexOutOfBoundsException", hts _ kw_361, xn_use hC xn_IS_IO⟩) rfl (by decide) (hts _ kw_337) (va_Nw.use rfl (hE.1 _ xw_IS)) (fun q9 H locs hS hkk => ?_)
  have hP := hP.kept (fun k x hx => hkk _ ((hP k x hx).lt))
  have hP : va_P (dC, dI) classes [(s0, .inr (0, [.ref m0, .ref c0, .ref e0, .ref q1, .long (lN vr)])), (c0, .inr (2, [.ref k1, .ref k2, .ref k3, .ref k4, .ref k5, .int (nI cc), .int (nI gc), .int (nI oc)])), (x0, .inl (cL, 1, .inr (.inl (fun c => lN (ou c)))))] H := hP
  have hD : va_D A [(s0, .inr (0, [.ref m0, .ref c0, .ref e0, .ref q1, .long (lN vr)])), (c0, .inr (2, [.ref k1, .ref k2, .ref k3, .ref k4, .ref k5, .int (nI cc), .int (nI gc), .int (nI oc)])), (x0, .inl (cL, 1, .inr (.inl (fun c => lN (ou c)))))] := hD
  refine lv_astore (lv' := [(5, .ref q9), (0, .ref s0), (1, .int (nI 5)), (2, .int (nI a)), (3, .int y), (4, .ref x0)]) hx hb d_L_gate_23 hl (by decide) rfl (fun ls hl => ?_)
  refine lv_iconst (v := nI 3) hx hb d_L_gate_25 (by decide) ?_
  have hP := hP.sub (ws' := [(s0, .inr (0, [.ref m0, .ref c0, .ref e0, .ref q1, .long (lN vr)])), (c0, .inr (2, [.ref k1, .ref k2, .ref k3, .ref k4, .ref k5, .int (nI cc), .int (nI gc), .int (nI oc)])), (x0, .inl (cL, 1, .inr (.inl (fun c => lN (ou c)))))]) [0, 1, 2] rfl
  have hD := hD.sub (ws' := [(s0, .inr (0, [.ref m0, .ref c0, .ref e0, .ref q1, .long (lN vr)])), (c0, .inr (2, [.ref k1, .ref k2, .ref k3, .ref k4, .ref k5, .int (nI cc), .int (nI gc), .int (nI oc)])), (x0, .inl (cL, 1, .inr (.inl (fun c => lN (ou c)))))]) [0, 1, 2] (by decide) rfl
  exact W.iret (v := nI 3) hx hb hr (fun t9 ht hW => ⟨⟨nI 3, (), rfl, rfl, by rw [ht]; exact hP, va_K.moved hW.alike hK, hD⟩, hS.F ht⟩) hS.2.2 d_L_gate_26
set_option maxHeartbeats 4000000 in
set_option maxRecDepth 100000 in
theorem c_L_gateXFK (l : Launch) (dC : Nat → ClassId) (dI : Nat → Nat → Nat) (cI cL : ClassId) (hlt : l.stackTraces = false) (sz : Nat) (s0 m0 c0 e0 q1 : Nat) (vr : Nat) (k1 k2 k3 k4 k5 : Nat) (cc gc oc : Nat) (kk a b : Nat) (hkk : kk < 5) (ha : a < cc + gc) (hb2 : b < cc + gc) (hl1 : cc + gc < 2 ^ 31) (hgc : gc = 24) (x0 : Nat) (ou : Nat → Nat) : Met l y_L_gate w_L_gate ({ frames := 7, cells := 1, slots := 6, locals := 106 } : Room) (va_Pc [.ref s0, .int (nI kk), .int (nI a), .int (nI b), .ref x0] (wq_E (dC, dI) classes [(s0, .inr (0, [.ref m0, .ref c0, .ref e0, .ref q1, .long (lN vr)])), (c0, .inr (2, [.ref k1, .ref k2, .ref k3, .ref k4, .ref k5, .int (nI cc), .int (nI gc), .int (nI oc)])), (x0, .inl (cL, 1, .inr (.inl (fun c => lN (ou c)))))] [(cI, .int), (cL, .long)] sz)) (va_Qi (fun (r : Int32) (u : Unit) => r = nI 3) (fun (u : Unit) t => wq_B (dC, dI) classes [(cI, .int), (cL, .long)] (va_A [(s0, .inr (0, [.ref m0, .ref c0, .ref e0, .ref q1, .long (lN vr)])), (c0, .inr (2, [.ref k1, .ref k2, .ref k3, .ref k4, .ref k5, .int (nI cc), .int (nI gc), .int (nI oc)])), (x0, .inl (cL, 1, .inr (.inl (fun c => lN (ou c)))))] sz) [(s0, .inr (0, [.ref m0, .ref c0, .ref e0, .ref q1, .long (lN vr)])), (c0, .inr (2, [.ref k1, .ref k2, .ref k3, .ref k4, .ref k5, .int (nI cc), .int (nI gc), .int (nI oc)])), (x0, .inl (cL, 1, .inr (.inl (fun c => lN (ou c)))))] t) (va_A [(s0, .inr (0, [.ref m0, .ref c0, .ref e0, .ref q1, .long (lN vr)])), (c0, .inr (2, [.ref k1, .ref k2, .ref k3, .ref k4, .ref k5, .int (nI cc), .int (nI gc), .int (nI oc)])), (x0, .inl (cL, 1, .inr (.inl (fun c => lN (ou c)))))] sz)) 1 6 (va_A [(s0, .inr (0, [.ref m0, .ref c0, .ref e0, .ref q1, .long (lN vr)])), (c0, .inr (2, [.ref k1, .ref k2, .ref k3, .ref k4, .ref k5, .int (nI cc), .int (nI gc), .int (nI oc)])), (x0, .inl (cL, 1, .inr (.inl (fun c => lN (ou c)))))] sz) := by
  refine mt_ofWH (cc := b_L_gate) (maxL := 6) (ret := (Option.some Jvm.ClassFile.FieldType.int)) (hh := [((0 : Nat), (12 : Nat), (15 : Nat), (13 : Nat)), ((0 : Nat), (12 : Nat), (19 : Nat), (38 : Nat)), ((0 : Nat), (12 : Nat), (23 : Nat), (32 : Nat))]) (by decide) rfl ?_
  intro pg en st mm ar bw me co s₁ B hml htab hv
  obtain ⟨rfl, ⟨hsz, hP, hK, hD0, hN⟩, hE, hZ, hC⟩ := hv
  have hx := B.exec
  have hb := B.bytes
  have hr := B.returns
  have hlocks := B.notSynchronized
  have hts0 := atoms_spec (ws := w_L_gate) B.pre
  have hts : ∀ w ∈ gw, w.before _ st = true := fun w h => hts0 w (List.mem_cons_of_mem _ h)
  have hown : st.vm.findClass R_L = some mm.cls := findClass_of_methodNamed B.named
  subst hsz
  have hD := hD0.self (sz := st.heap.size)
  generalize hAe : va_A [(s0, .inr (0, [.ref m0, .ref c0, .ref e0, .ref q1, .long (lN vr)])), (c0, .inr (2, [.ref k1, .ref k2, .ref k3, .ref k4, .ref k5, .int (nI cc), .int (nI gc), .int (nI oc)])), (x0, .inl (cL, 1, .inr (.inl (fun c => lN (ou c)))))] st.heap.size = A at hD ⊢
  have hA : ∀ q : Nat, st.heap.size ≤ q → A q := fun q h => by rw [← hAe]; exact Or.inr h
  have hS : va_S A st.heap st.heap [] := va_S.rf
  have hl := lv_entry ([.ref s0, .int (nI kk), .int (nI a), .int (nI b), .ref x0]) (n := 6) (Nat.le_of_ble_eq_true rfl)
  rw [lg_entry_eq]
  generalize (lg_sl ([.ref s0, .int (nI kk), .int (nI a), .int (nI b), .ref x0]) ++ List.replicate (6 - (lg_sl ([.ref s0, .int (nI kk), .int (nI a), .int (nI b), .ref x0])).length) Slot.unset).toArray = ls at hl ⊢
  have hl : lv_has ls 6 [(0, .ref s0), (1, .int (nI kk)), (2, .int (nI a)), (3, .int (nI b)), (4, .ref x0)] := hl
  refine lv_aload hx hb d_L_gate_0 (lv_at hl 4 rfl) ?_
  refine lv_iconst (v := nI 0) hx hb d_L_gate_2 (by decide) ?_
  refine lv_aload_n hx hb d_L_gate_3 rfl (lv_at hl 0 rfl) ?_
  refine lv_iload_n hx hb d_L_gate_4 rfl (lv_at hl 1 rfl) ?_
  refine lv_iload_n hx hb d_L_gate_5 rfl (lv_at hl 2 rfl) ?_
  refine lv_iload_n hx hb d_L_gate_6 rfl (lv_at hl 3 rfl) ?_
  refine xk_i (vx_runV (As := [.int (nI kk), .int (nI a), .int (nI b)]) (rest := [.int (nI 0), .ref x0]) ⟨hx, hb, hml, hown, hts⟩ (x_S_gateFK l dC dI cI cL hlt st.heap.size s0 m0 c0 e0 q1 vr k1 k2 k3 k4 k5 cc gc oc kk a b hkk ha hb2 hl1 hgc) (cwV 3 hts (gi_V kw_362 kw_363 kw_364 kw_1 gi_S_gate) rfl rfl rfl ⟨rfl, by decide, by decide, by decide⟩ ⟨Nat.le_of_ble_eq_true rfl, Nat.le_of_ble_eq_true rfl⟩) (wq_preVX hP hK hN hE hZ [0, 1] rfl (q0 := 0) (ci := 0) rfl rfl rfl) rfl rfl hl.1 rfl (lv_room (Nat.le_of_ble_eq_true rfl)) d_L_gate_7 ⟨Nat.le_of_ble_eq_true rfl, Nat.le_of_ble_eq_true rfl⟩) hA hown [⟨0, 12, 15, 13⟩, ⟨0, 12, 19, 38⟩] ⟨0, 12, 23, 32⟩ [] (htab.trans rfl) (fun z hz => by
      simp only [List.mem_cons, List.not_mem_nil, or_false] at hz
      rcases hz with rfl | rfl
      · exact Or.inr ⟨by decide, "java/lang/IllegalArgumentException", hts _ kw_206, xn_use hC xn_IS_IA⟩
      · exact Or.inr ⟨by decide, "java/lang/IndexOutOfBoundsException", hts _ kw_361, xn_use hC xn_IS_IO⟩) rfl (by decide) (hts _ kw_337) (va_Nw.use rfl (hE.1 _ xw_IS)) (fun q9 H locs hS hkk => ?_)
  have hP := hP.kept (fun k x hx => hkk _ ((hP k x hx).lt))
  have hP : va_P (dC, dI) classes [(s0, .inr (0, [.ref m0, .ref c0, .ref e0, .ref q1, .long (lN vr)])), (c0, .inr (2, [.ref k1, .ref k2, .ref k3, .ref k4, .ref k5, .int (nI cc), .int (nI gc), .int (nI oc)])), (x0, .inl (cL, 1, .inr (.inl (fun c => lN (ou c)))))] H := hP
  have hD : va_D A [(s0, .inr (0, [.ref m0, .ref c0, .ref e0, .ref q1, .long (lN vr)])), (c0, .inr (2, [.ref k1, .ref k2, .ref k3, .ref k4, .ref k5, .int (nI cc), .int (nI gc), .int (nI oc)])), (x0, .inl (cL, 1, .inr (.inl (fun c => lN (ou c)))))] := hD
  refine lv_astore (lv' := [(5, .ref q9), (0, .ref s0), (1, .int (nI kk)), (2, .int (nI a)), (3, .int (nI b)), (4, .ref x0)]) hx hb d_L_gate_23 hl (by decide) rfl (fun ls hl => ?_)
  refine lv_iconst (v := nI 3) hx hb d_L_gate_25 (by decide) ?_
  have hP := hP.sub (ws' := [(s0, .inr (0, [.ref m0, .ref c0, .ref e0, .ref q1, .long (lN vr)])), (c0, .inr (2, [.ref k1, .ref k2, .ref k3, .ref k4, .ref k5, .int (nI cc), .int (nI gc), .int (nI oc)])), (x0, .inl (cL, 1, .inr (.inl (fun c => lN (ou c)))))]) [0, 1, 2] rfl
  have hD := hD.sub (ws' := [(s0, .inr (0, [.ref m0, .ref c0, .ref e0, .ref q1, .long (lN vr)])), (c0, .inr (2, [.ref k1, .ref k2, .ref k3, .ref k4, .ref k5, .int (nI cc), .int (nI gc), .int (nI oc)])), (x0, .inl (cL, 1, .inr (.inl (fun c => lN (ou c)))))]) [0, 1, 2] (by decide) rfl
  exact W.iret (v := nI 3) hx hb hr (fun t9 ht hW => ⟨⟨nI 3, (), rfl, rfl, by rw [ht]; exact hP, va_K.moved hW.alike hK, hD⟩, hS.F ht⟩) hS.2.2 d_L_gate_26
set_option maxHeartbeats 4000000 in
set_option maxRecDepth 100000 in
theorem c_L_outputXA (l : Launch) (dC : Nat → ClassId) (dI : Nat → Nat → Nat) (cI cL : ClassId) (hlt : l.stackTraces = false) (sz : Nat) (s0 m0 c0 e0 q1 : Nat) (vr : Nat) (k1 k2 k3 k4 k5 : Nat) (cc gc oc : Nat) (y1 : Int32) (hy : y1 < 0 ∨ ¬ y1 < nI (cc + gc)) (x0 : Nat) (ou : Nat → Nat) : Met l y_L_output w_L_output ({ frames := 8, cells := 1, slots := 6, locals := 124 } : Room) (va_Pc [.ref s0, .int y1, .ref x0] (wq_E (dC, dI) classes [(s0, .inr (0, [.ref m0, .ref c0, .ref e0, .ref q1, .long (lN vr)])), (c0, .inr (2, [.ref k1, .ref k2, .ref k3, .ref k4, .ref k5, .int (nI cc), .int (nI gc), .int (nI oc)])), (x0, .inl (cL, 1, .inr (.inl (fun c => lN (ou c)))))] [(cI, .int), (cL, .long)] sz)) (va_Qi (fun (r : Int32) (u : Unit) => r = nI 1) (fun (u : Unit) t => wq_B (dC, dI) classes [(cI, .int), (cL, .long)] (va_A [(s0, .inr (0, [.ref m0, .ref c0, .ref e0, .ref q1, .long (lN vr)])), (c0, .inr (2, [.ref k1, .ref k2, .ref k3, .ref k4, .ref k5, .int (nI cc), .int (nI gc), .int (nI oc)])), (x0, .inl (cL, 1, .inr (.inl (fun c => lN (ou c)))))] sz) [(s0, .inr (0, [.ref m0, .ref c0, .ref e0, .ref q1, .long (lN vr)])), (c0, .inr (2, [.ref k1, .ref k2, .ref k3, .ref k4, .ref k5, .int (nI cc), .int (nI gc), .int (nI oc)])), (x0, .inl (cL, 1, .inr (.inl (fun c => lN (ou c)))))] t) (va_A [(s0, .inr (0, [.ref m0, .ref c0, .ref e0, .ref q1, .long (lN vr)])), (c0, .inr (2, [.ref k1, .ref k2, .ref k3, .ref k4, .ref k5, .int (nI cc), .int (nI gc), .int (nI oc)])), (x0, .inl (cL, 1, .inr (.inl (fun c => lN (ou c)))))] sz)) 1 6 (va_A [(s0, .inr (0, [.ref m0, .ref c0, .ref e0, .ref q1, .long (lN vr)])), (c0, .inr (2, [.ref k1, .ref k2, .ref k3, .ref k4, .ref k5, .int (nI cc), .int (nI gc), .int (nI oc)])), (x0, .inl (cL, 1, .inr (.inl (fun c => lN (ou c)))))] sz) := by
  refine mt_ofWH (cc := b_L_output) (maxL := 4) (ret := (Option.some Jvm.ClassFile.FieldType.int)) (hh := [((0 : Nat), (9 : Nat), (12 : Nat), (38 : Nat)), ((0 : Nat), (9 : Nat), (15 : Nat), (32 : Nat))]) (by decide) rfl ?_
  intro pg en st mm ar bw me co s₁ B hml htab hv
  obtain ⟨rfl, ⟨hsz, hP, hK, hD0, hN⟩, hE, hZ, hC⟩ := hv
  have hx := B.exec
  have hb := B.bytes
  have hr := B.returns
  have hlocks := B.notSynchronized
  have hts0 := atoms_spec (ws := w_L_output) B.pre
  have hts : ∀ w ∈ gw, w.before _ st = true := fun w h => hts0 w (List.mem_cons_of_mem _ h)
  have hown : st.vm.findClass R_L = some mm.cls := findClass_of_methodNamed B.named
  subst hsz
  have hD := hD0.self (sz := st.heap.size)
  generalize hAe : va_A [(s0, .inr (0, [.ref m0, .ref c0, .ref e0, .ref q1, .long (lN vr)])), (c0, .inr (2, [.ref k1, .ref k2, .ref k3, .ref k4, .ref k5, .int (nI cc), .int (nI gc), .int (nI oc)])), (x0, .inl (cL, 1, .inr (.inl (fun c => lN (ou c)))))] st.heap.size = A at hD ⊢
  have hA : ∀ q : Nat, st.heap.size ≤ q → A q := fun q h => by rw [← hAe]; exact Or.inr h
  have hS : va_S A st.heap st.heap [] := va_S.rf
  have hl := lv_entry ([.ref s0, .int y1, .ref x0]) (n := 4) (Nat.le_of_ble_eq_true rfl)
  rw [lg_entry_eq]
  generalize (lg_sl ([.ref s0, .int y1, .ref x0]) ++ List.replicate (4 - (lg_sl ([.ref s0, .int y1, .ref x0])).length) Slot.unset).toArray = ls at hl ⊢
  have hl : lv_has ls 4 [(0, .ref s0), (1, .int y1), (2, .ref x0)] := hl
  refine lv_aload_n hx hb d_L_output_0 rfl (lv_at hl 2 rfl) ?_
  refine lv_iconst (v := nI 0) hx hb d_L_output_1 (by decide) ?_
  refine lv_aload_n hx hb d_L_output_2 rfl (lv_at hl 0 rfl) ?_
  refine lv_iload_n hx hb d_L_output_3 rfl (lv_at hl 1 rfl) ?_
  refine xk_i (vx_runV (As := [.int y1]) (rest := [.int (nI 0), .ref x0]) ⟨hx, hb, hml, hown, hts⟩ (x_S_outputA l dC dI cI cL hlt st.heap.size s0 m0 c0 e0 q1 vr k1 k2 k3 k4 k5 cc gc oc y1 hy) (cwV 1 hts (gi_V kw_400 kw_401 kw_402 kw_1 gi_S_output) rfl rfl rfl ⟨rfl, by decide, by decide, by decide⟩ ⟨Nat.le_of_ble_eq_true rfl, Nat.le_of_ble_eq_true rfl⟩) (wq_preVX hP hK hN hE hZ [0, 1] rfl (q0 := 0) (ci := 0) rfl rfl rfl) rfl rfl hl.1 rfl (lv_room (Nat.le_of_ble_eq_true rfl)) d_L_output_4 ⟨Nat.le_of_ble_eq_true rfl, Nat.le_of_ble_eq_true rfl⟩) hA hown [] ⟨0, 9, 12, 38⟩ [⟨0, 9, 15, 32⟩] (htab.trans rfl) (fun z hz => by cases hz) rfl (by decide) (hts _ kw_361) (va_Nw.use rfl (hE.1 _ xw_IO)) (fun q9 H locs hS hkk => ?_)
  have hP := hP.kept (fun k x hx => hkk _ ((hP k x hx).lt))
  have hP : va_P (dC, dI) classes [(s0, .inr (0, [.ref m0, .ref c0, .ref e0, .ref q1, .long (lN vr)])), (c0, .inr (2, [.ref k1, .ref k2, .ref k3, .ref k4, .ref k5, .int (nI cc), .int (nI gc), .int (nI oc)])), (x0, .inl (cL, 1, .inr (.inl (fun c => lN (ou c)))))] H := hP
  have hD : va_D A [(s0, .inr (0, [.ref m0, .ref c0, .ref e0, .ref q1, .long (lN vr)])), (c0, .inr (2, [.ref k1, .ref k2, .ref k3, .ref k4, .ref k5, .int (nI cc), .int (nI gc), .int (nI oc)])), (x0, .inl (cL, 1, .inr (.inl (fun c => lN (ou c)))))] := hD
  refine lv_astore_n (lv' := [(3, .ref q9), (0, .ref s0), (1, .int y1), (2, .ref x0)]) hx hb d_L_output_12 rfl hl (by decide) rfl (fun ls hl => ?_)
  refine lv_iconst (v := nI 1) hx hb d_L_output_13 (by decide) ?_
  have hP := hP.sub (ws' := [(s0, .inr (0, [.ref m0, .ref c0, .ref e0, .ref q1, .long (lN vr)])), (c0, .inr (2, [.ref k1, .ref k2, .ref k3, .ref k4, .ref k5, .int (nI cc), .int (nI gc), .int (nI oc)])), (x0, .inl (cL, 1, .inr (.inl (fun c => lN (ou c)))))]) [0, 1, 2] rfl
  have hD := hD.sub (ws' := [(s0, .inr (0, [.ref m0, .ref c0, .ref e0, .ref q1, .long (lN vr)])), (c0, .inr (2, [.ref k1, .ref k2, .ref k3, .ref k4, .ref k5, .int (nI cc), .int (nI gc), .int (nI oc)])), (x0, .inl (cL, 1, .inr (.inl (fun c => lN (ou c)))))]) [0, 1, 2] (by decide) rfl
  exact W.iret (v := nI 1) hx hb hr (fun t9 ht hW => ⟨⟨nI 1, (), rfl, rfl, by rw [ht]; exact hP, va_K.moved hW.alike hK, hD⟩, hS.F ht⟩) hS.2.2 d_L_output_14
set_option maxHeartbeats 4000000 in
set_option maxRecDepth 100000 in
theorem c_L_outputXF (l : Launch) (dC : Nat → ClassId) (dI : Nat → Nat → Nat) (cI cL : ClassId) (hlt : l.stackTraces = false) (sz : Nat) (s0 m0 c0 e0 q1 : Nat) (vr : Nat) (k1 k2 k3 k4 k5 : Nat) (cc gc oc : Nat) (a : Nat) (ha : a < cc + gc) (hl1 : cc + gc < 2 ^ 31) (hoc : oc = 16) (x0 : Nat) (ou : Nat → Nat) : Met l y_L_output w_L_output ({ frames := 7, cells := 1, slots := 6, locals := 103 } : Room) (va_Pc [.ref s0, .int (nI a), .ref x0] (wq_E (dC, dI) classes [(s0, .inr (0, [.ref m0, .ref c0, .ref e0, .ref q1, .long (lN vr)])), (c0, .inr (2, [.ref k1, .ref k2, .ref k3, .ref k4, .ref k5, .int (nI cc), .int (nI gc), .int (nI oc)])), (x0, .inl (cL, 1, .inr (.inl (fun c => lN (ou c)))))] [(cI, .int), (cL, .long)] sz)) (va_Qi (fun (r : Int32) (u : Unit) => r = nI 2) (fun (u : Unit) t => wq_B (dC, dI) classes [(cI, .int), (cL, .long)] (va_A [(s0, .inr (0, [.ref m0, .ref c0, .ref e0, .ref q1, .long (lN vr)])), (c0, .inr (2, [.ref k1, .ref k2, .ref k3, .ref k4, .ref k5, .int (nI cc), .int (nI gc), .int (nI oc)])), (x0, .inl (cL, 1, .inr (.inl (fun c => lN (ou c)))))] sz) [(s0, .inr (0, [.ref m0, .ref c0, .ref e0, .ref q1, .long (lN vr)])), (c0, .inr (2, [.ref k1, .ref k2, .ref k3, .ref k4, .ref k5, .int (nI cc), .int (nI gc), .int (nI oc)])), (x0, .inl (cL, 1, .inr (.inl (fun c => lN (ou c)))))] t) (va_A [(s0, .inr (0, [.ref m0, .ref c0, .ref e0, .ref q1, .long (lN vr)])), (c0, .inr (2, [.ref k1, .ref k2, .ref k3, .ref k4, .ref k5, .int (nI cc), .int (nI gc), .int (nI oc)])), (x0, .inl (cL, 1, .inr (.inl (fun c => lN (ou c)))))] sz)) 1 6 (va_A [(s0, .inr (0, [.ref m0, .ref c0, .ref e0, .ref q1, .long (lN vr)])), (c0, .inr (2, [.ref k1, .ref k2, .ref k3, .ref k4, .ref k5, .int (nI cc), .int (nI gc), .int (nI oc)])), (x0, .inl (cL, 1, .inr (.inl (fun c => lN (ou c)))))] sz) := by
  refine mt_ofWH (cc := b_L_output) (maxL := 4) (ret := (Option.some Jvm.ClassFile.FieldType.int)) (hh := [((0 : Nat), (9 : Nat), (12 : Nat), (38 : Nat)), ((0 : Nat), (9 : Nat), (15 : Nat), (32 : Nat))]) (by decide) rfl ?_
  intro pg en st mm ar bw me co s₁ B hml htab hv
  obtain ⟨rfl, ⟨hsz, hP, hK, hD0, hN⟩, hE, hZ, hC⟩ := hv
  have hx := B.exec
  have hb := B.bytes
  have hr := B.returns
  have hlocks := B.notSynchronized
  have hts0 := atoms_spec (ws := w_L_output) B.pre
  have hts : ∀ w ∈ gw, w.before _ st = true := fun w h => hts0 w (List.mem_cons_of_mem _ h)
  have hown : st.vm.findClass R_L = some mm.cls := findClass_of_methodNamed B.named
  subst hsz
  have hD := hD0.self (sz := st.heap.size)
  generalize hAe : va_A [(s0, .inr (0, [.ref m0, .ref c0, .ref e0, .ref q1, .long (lN vr)])), (c0, .inr (2, [.ref k1, .ref k2, .ref k3, .ref k4, .ref k5, .int (nI cc), .int (nI gc), .int (nI oc)])), (x0, .inl (cL, 1, .inr (.inl (fun c => lN (ou c)))))] st.heap.size = A at hD ⊢
  have hA : ∀ q : Nat, st.heap.size ≤ q → A q := fun q h => by rw [← hAe]; exact Or.inr h
  have hS : va_S A st.heap st.heap [] := va_S.rf
  have hl := lv_entry ([.ref s0, .int (nI a), .ref x0]) (n := 4) (Nat.le_of_ble_eq_true rfl)
  rw [lg_entry_eq]
  generalize (lg_sl ([.ref s0, .int (nI a), .ref x0]) ++ List.replicate (4 - (lg_sl ([.ref s0, .int (nI a), .ref x0])).length) Slot.unset).toArray = ls at hl ⊢
  have hl : lv_has ls 4 [(0, .ref s0), (1, .int (nI a)), (2, .ref x0)] := hl
  refine lv_aload_n hx hb d_L_output_0 rfl (lv_at hl 2 rfl) ?_
  refine lv_iconst (v := nI 0) hx hb d_L_output_1 (by decide) ?_
  refine lv_aload_n hx hb d_L_output_2 rfl (lv_at hl 0 rfl) ?_
  refine lv_iload_n hx hb d_L_output_3 rfl (lv_at hl 1 rfl) ?_
  refine xk_i (vx_runV (As := [.int (nI a)]) (rest := [.int (nI 0), .ref x0]) ⟨hx, hb, hml, hown, hts⟩ (x_S_outputF l dC dI cI cL hlt st.heap.size s0 m0 c0 e0 q1 vr k1 k2 k3 k4 k5 cc gc oc a ha hl1 hoc) (cwV 1 hts (gi_V kw_400 kw_401 kw_402 kw_1 gi_S_output) rfl rfl rfl ⟨rfl, by decide, by decide, by decide⟩ ⟨Nat.le_of_ble_eq_true rfl, Nat.le_of_ble_eq_true rfl⟩) (wq_preVX hP hK hN hE hZ [0, 1] rfl (q0 := 0) (ci := 0) rfl rfl rfl) rfl rfl hl.1 rfl (lv_room (Nat.le_of_ble_eq_true rfl)) d_L_output_4 ⟨Nat.le_of_ble_eq_true rfl, Nat.le_of_ble_eq_true rfl⟩) hA hown [⟨0, 9, 12, 38⟩] ⟨0, 9, 15, 32⟩ [] (htab.trans rfl) (fun z hz => by
      simp only [List.mem_cons, List.not_mem_nil, or_false] at hz
      rcases hz with rfl
      exact Or.inr ⟨by decide, "java/lang/IndexOutOfBoundsException", hts _ kw_361, xn_use hC xn_IS_IO⟩) rfl (by decide) (hts _ kw_337) (va_Nw.use rfl (hE.1 _ xw_IS)) (fun q9 H locs hS hkk => ?_)
  have hP := hP.kept (fun k x hx => hkk _ ((hP k x hx).lt))
  have hP : va_P (dC, dI) classes [(s0, .inr (0, [.ref m0, .ref c0, .ref e0, .ref q1, .long (lN vr)])), (c0, .inr (2, [.ref k1, .ref k2, .ref k3, .ref k4, .ref k5, .int (nI cc), .int (nI gc), .int (nI oc)])), (x0, .inl (cL, 1, .inr (.inl (fun c => lN (ou c)))))] H := hP
  have hD : va_D A [(s0, .inr (0, [.ref m0, .ref c0, .ref e0, .ref q1, .long (lN vr)])), (c0, .inr (2, [.ref k1, .ref k2, .ref k3, .ref k4, .ref k5, .int (nI cc), .int (nI gc), .int (nI oc)])), (x0, .inl (cL, 1, .inr (.inl (fun c => lN (ou c)))))] := hD
  refine lv_astore_n (lv' := [(3, .ref q9), (0, .ref s0), (1, .int (nI a)), (2, .ref x0)]) hx hb d_L_output_15 rfl hl (by decide) rfl (fun ls hl => ?_)
  refine lv_iconst (v := nI 2) hx hb d_L_output_16 (by decide) ?_
  have hP := hP.sub (ws' := [(s0, .inr (0, [.ref m0, .ref c0, .ref e0, .ref q1, .long (lN vr)])), (c0, .inr (2, [.ref k1, .ref k2, .ref k3, .ref k4, .ref k5, .int (nI cc), .int (nI gc), .int (nI oc)])), (x0, .inl (cL, 1, .inr (.inl (fun c => lN (ou c)))))]) [0, 1, 2] rfl
  have hD := hD.sub (ws' := [(s0, .inr (0, [.ref m0, .ref c0, .ref e0, .ref q1, .long (lN vr)])), (c0, .inr (2, [.ref k1, .ref k2, .ref k3, .ref k4, .ref k5, .int (nI cc), .int (nI gc), .int (nI oc)])), (x0, .inl (cL, 1, .inr (.inl (fun c => lN (ou c)))))]) [0, 1, 2] (by decide) rfl
  exact W.iret (v := nI 2) hx hb hr (fun t9 ht hW => ⟨⟨nI 2, (), rfl, rfl, by rw [ht]; exact hP, va_K.moved hW.alike hK, hD⟩, hS.F ht⟩) hS.2.2 d_L_output_17
set_option maxHeartbeats 4000000 in
set_option maxRecDepth 100000 in
theorem c_L_answerX (l : Launch) (dC : Nat → ClassId) (dI : Nat → Nat → Nat) (cI cL : ClassId) (hlt : l.stackTraces = false) (sz : Nat) (s0 m0 c0 e0 q1 : Nat) (vr : Nat) (k1 k2 k3 k4 k5 : Nat) (cc gc oc : Nat) (y1 y : Int32) (hy : y < 0 ∨ ¬ y < nI (2 * (cc + gc))) (hm1 : y ≠ -1) (x0 : Nat) (ou : Nat → Nat) : Met l y_L_answer w_L_answer ({ frames := 9, cells := 1, slots := 6, locals := 146 } : Room) (va_Pc [.ref s0, .int y1, .int y, .ref x0] (wq_E (dC, dI) classes [(s0, .inr (0, [.ref m0, .ref c0, .ref e0, .ref q1, .long (lN vr)])), (c0, .inr (2, [.ref k1, .ref k2, .ref k3, .ref k4, .ref k5, .int (nI cc), .int (nI gc), .int (nI oc)])), (x0, .inl (cL, 1, .inr (.inl (fun c => lN (ou c)))))] [(cI, .int), (cL, .long)] sz)) (va_Qi (fun (r : Int32) (u : Unit) => r = nI 1) (fun (u : Unit) t => wq_B (dC, dI) classes [(cI, .int), (cL, .long)] (va_A [(s0, .inr (0, [.ref m0, .ref c0, .ref e0, .ref q1, .long (lN vr)])), (c0, .inr (2, [.ref k1, .ref k2, .ref k3, .ref k4, .ref k5, .int (nI cc), .int (nI gc), .int (nI oc)])), (x0, .inl (cL, 1, .inr (.inl (fun c => lN (ou c)))))] sz) [(s0, .inr (0, [.ref m0, .ref c0, .ref e0, .ref q1, .long (lN vr)])), (c0, .inr (2, [.ref k1, .ref k2, .ref k3, .ref k4, .ref k5, .int (nI cc), .int (nI gc), .int (nI oc)])), (x0, .inl (cL, 1, .inr (.inl (fun c => lN (ou c)))))] t) (va_A [(s0, .inr (0, [.ref m0, .ref c0, .ref e0, .ref q1, .long (lN vr)])), (c0, .inr (2, [.ref k1, .ref k2, .ref k3, .ref k4, .ref k5, .int (nI cc), .int (nI gc), .int (nI oc)])), (x0, .inl (cL, 1, .inr (.inl (fun c => lN (ou c)))))] sz)) 1 6 (va_A [(s0, .inr (0, [.ref m0, .ref c0, .ref e0, .ref q1, .long (lN vr)])), (c0, .inr (2, [.ref k1, .ref k2, .ref k3, .ref k4, .ref k5, .int (nI cc), .int (nI gc), .int (nI oc)])), (x0, .inl (cL, 1, .inr (.inl (fun c => lN (ou c)))))] sz) := by
  refine mt_ofWH (cc := b_L_answer) (maxL := 5) (ret := (Option.some Jvm.ClassFile.FieldType.int)) (hh := [((0 : Nat), (10 : Nat), (13 : Nat), (38 : Nat))]) (by decide) rfl ?_
  intro pg en st mm ar bw me co s₁ B hml htab hv
  obtain ⟨rfl, ⟨hsz, hP, hK, hD0, hN⟩, hE, hZ, hC⟩ := hv
  have hx := B.exec
  have hb := B.bytes
  have hr := B.returns
  have hlocks := B.notSynchronized
  have hts0 := atoms_spec (ws := w_L_answer) B.pre
  have hts : ∀ w ∈ gw, w.before _ st = true := fun w h => hts0 w (List.mem_cons_of_mem _ h)
  have hown : st.vm.findClass R_L = some mm.cls := findClass_of_methodNamed B.named
  subst hsz
  have hD := hD0.self (sz := st.heap.size)
  generalize hAe : va_A [(s0, .inr (0, [.ref m0, .ref c0, .ref e0, .ref q1, .long (lN vr)])), (c0, .inr (2, [.ref k1, .ref k2, .ref k3, .ref k4, .ref k5, .int (nI cc), .int (nI gc), .int (nI oc)])), (x0, .inl (cL, 1, .inr (.inl (fun c => lN (ou c)))))] st.heap.size = A at hD ⊢
  have hA : ∀ q : Nat, st.heap.size ≤ q → A q := fun q h => by rw [← hAe]; exact Or.inr h
  have hS : va_S A st.heap st.heap [] := va_S.rf
  have hl := lv_entry ([.ref s0, .int y1, .int y, .ref x0]) (n := 5) (Nat.le_of_ble_eq_true rfl)
  rw [lg_entry_eq]
  generalize (lg_sl ([.ref s0, .int y1, .int y, .ref x0]) ++ List.replicate (5 - (lg_sl ([.ref s0, .int y1, .int y, .ref x0])).length) Slot.unset).toArray = ls at hl ⊢
  have hl : lv_has ls 5 [(0, .ref s0), (1, .int y1), (2, .int y), (3, .ref x0)] := hl
  refine lv_aload_n hx hb d_L_answer_0 rfl (lv_at hl 3 rfl) ?_
  refine lv_iconst (v := nI 0) hx hb d_L_answer_1 (by decide) ?_
  refine lv_aload_n hx hb d_L_answer_2 rfl (lv_at hl 0 rfl) ?_
  refine lv_iload_n hx hb d_L_answer_3 rfl (lv_at hl 1 rfl) ?_
  refine lv_iload_n hx hb d_L_answer_4 rfl (lv_at hl 2 rfl) ?_
  refine xk_i (vx_runV (As := [.int y1, .int y]) (rest := [.int (nI 0), .ref x0]) ⟨hx, hb, hml, hown, hts⟩ (x_S_answer l dC dI cI cL hlt st.heap.size s0 m0 c0 e0 q1 vr k1 k2 k3 k4 k5 cc gc oc y1 y hy hm1) (cwV 2 hts (gi_V kw_412 kw_413 kw_414 kw_1 gi_S_answer) rfl rfl rfl ⟨rfl, by decide, by decide, by decide⟩ ⟨Nat.le_of_ble_eq_true rfl, Nat.le_of_ble_eq_true rfl⟩) (wq_preVX hP hK hN hE hZ [0, 1] rfl (q0 := 0) (ci := 0) rfl rfl rfl) rfl rfl hl.1 rfl (lv_room (Nat.le_of_ble_eq_true rfl)) d_L_answer_5 ⟨Nat.le_of_ble_eq_true rfl, Nat.le_of_ble_eq_true rfl⟩) hA hown [] ⟨0, 10, 13, 38⟩ [] (htab.trans rfl) (fun z hz => by cases hz) rfl (by decide) (hts _ kw_361) (va_Nw.use rfl (hE.1 _ xw_IO)) (fun q9 H locs hS hkk => ?_)
  have hP := hP.kept (fun k x hx => hkk _ ((hP k x hx).lt))
  have hP : va_P (dC, dI) classes [(s0, .inr (0, [.ref m0, .ref c0, .ref e0, .ref q1, .long (lN vr)])), (c0, .inr (2, [.ref k1, .ref k2, .ref k3, .ref k4, .ref k5, .int (nI cc), .int (nI gc), .int (nI oc)])), (x0, .inl (cL, 1, .inr (.inl (fun c => lN (ou c)))))] H := hP
  have hD : va_D A [(s0, .inr (0, [.ref m0, .ref c0, .ref e0, .ref q1, .long (lN vr)])), (c0, .inr (2, [.ref k1, .ref k2, .ref k3, .ref k4, .ref k5, .int (nI cc), .int (nI gc), .int (nI oc)])), (x0, .inl (cL, 1, .inr (.inl (fun c => lN (ou c)))))] := hD
  refine lv_astore (lv' := [(4, .ref q9), (0, .ref s0), (1, .int y1), (2, .int y), (3, .ref x0)]) hx hb d_L_answer_13 hl (by decide) rfl (fun ls hl => ?_)
  refine lv_iconst (v := nI 1) hx hb d_L_answer_15 (by decide) ?_
  have hP := hP.sub (ws' := [(s0, .inr (0, [.ref m0, .ref c0, .ref e0, .ref q1, .long (lN vr)])), (c0, .inr (2, [.ref k1, .ref k2, .ref k3, .ref k4, .ref k5, .int (nI cc), .int (nI gc), .int (nI oc)])), (x0, .inl (cL, 1, .inr (.inl (fun c => lN (ou c)))))]) [0, 1, 2] rfl
  have hD := hD.sub (ws' := [(s0, .inr (0, [.ref m0, .ref c0, .ref e0, .ref q1, .long (lN vr)])), (c0, .inr (2, [.ref k1, .ref k2, .ref k3, .ref k4, .ref k5, .int (nI cc), .int (nI gc), .int (nI oc)])), (x0, .inl (cL, 1, .inr (.inl (fun c => lN (ou c)))))]) [0, 1, 2] (by decide) rfl
  exact W.iret (v := nI 1) hx hb hr (fun t9 ht hW => ⟨⟨nI 1, (), rfl, rfl, by rw [ht]; exact hP, va_K.moved hW.alike hK, hD⟩, hS.F ht⟩) hS.2.2 d_L_answer_16
set_option maxHeartbeats 4000000 in
set_option maxRecDepth 100000 in
theorem c_L_sessionXA (l : Launch) (dC : Nat → ClassId) (dI : Nat → Nat → Nat) (cI cL : ClassId) (hlt : l.stackTraces = false) (sz : Nat) (s0 m0 c0 e0 q1 : Nat) (vr : Nat) (k1 k2 k3 k4 k5 : Nat) (cc gc oc : Nat) (y1 y : Int32) (hy : y < 0 ∨ ¬ y < nI (2 * (cc + gc))) (hm1 : y ≠ -1) (x0 : Nat) (ou : Nat → Nat) : Met l y_L_session w_L_session ({ frames := 9, cells := 1, slots := 6, locals := 152 } : Room) (va_Pc [.ref s0, .int y1, .int y, .ref x0] (wq_E (dC, dI) classes [(s0, .inr (0, [.ref m0, .ref c0, .ref e0, .ref q1, .long (lN vr)])), (c0, .inr (2, [.ref k1, .ref k2, .ref k3, .ref k4, .ref k5, .int (nI cc), .int (nI gc), .int (nI oc)])), (x0, .inl (cL, 1, .inr (.inl (fun c => lN (ou c)))))] [(cI, .int), (cL, .long)] sz)) (va_Qi (fun (r : Int32) (u : Unit) => r = nI 1) (fun (u : Unit) t => wq_B (dC, dI) classes [(cI, .int), (cL, .long)] (va_A [(s0, .inr (0, [.ref m0, .ref c0, .ref e0, .ref q1, .long (lN vr)])), (c0, .inr (2, [.ref k1, .ref k2, .ref k3, .ref k4, .ref k5, .int (nI cc), .int (nI gc), .int (nI oc)])), (x0, .inl (cL, 1, .inr (.inl (fun c => lN (ou c)))))] sz) [(s0, .inr (0, [.ref m0, .ref c0, .ref e0, .ref q1, .long (lN vr)])), (c0, .inr (2, [.ref k1, .ref k2, .ref k3, .ref k4, .ref k5, .int (nI cc), .int (nI gc), .int (nI oc)])), (x0, .inl (cL, 1, .inr (.inl (fun c => lN (ou c)))))] t) (va_A [(s0, .inr (0, [.ref m0, .ref c0, .ref e0, .ref q1, .long (lN vr)])), (c0, .inr (2, [.ref k1, .ref k2, .ref k3, .ref k4, .ref k5, .int (nI cc), .int (nI gc), .int (nI oc)])), (x0, .inl (cL, 1, .inr (.inl (fun c => lN (ou c)))))] sz)) 1 6 (va_A [(s0, .inr (0, [.ref m0, .ref c0, .ref e0, .ref q1, .long (lN vr)])), (c0, .inr (2, [.ref k1, .ref k2, .ref k3, .ref k4, .ref k5, .int (nI cc), .int (nI gc), .int (nI oc)])), (x0, .inl (cL, 1, .inr (.inl (fun c => lN (ou c)))))] sz) := by
  refine mt_ofWH (cc := b_L_session) (maxL := 5) (ret := (Option.some Jvm.ClassFile.FieldType.int)) (hh := [((0 : Nat), (9 : Nat), (12 : Nat), (38 : Nat)), ((0 : Nat), (9 : Nat), (16 : Nat), (13 : Nat))]) (by decide) rfl ?_
  intro pg en st mm ar bw me co s₁ B hml htab hv
  obtain ⟨rfl, ⟨hsz, hP, hK, hD0, hN⟩, hE, hZ, hC⟩ := hv
  have hx := B.exec
  have hb := B.bytes
  have hr := B.returns
  have hlocks := B.notSynchronized
  have hts0 := atoms_spec (ws := w_L_session) B.pre
  have hts : ∀ w ∈ gw, w.before _ st = true := fun w h => hts0 w (List.mem_cons_of_mem _ h)
  have hown : st.vm.findClass R_L = some mm.cls := findClass_of_methodNamed B.named
  subst hsz
  have hD := hD0.self (sz := st.heap.size)
  generalize hAe : va_A [(s0, .inr (0, [.ref m0, .ref c0, .ref e0, .ref q1, .long (lN vr)])), (c0, .inr (2, [.ref k1, .ref k2, .ref k3, .ref k4, .ref k5, .int (nI cc), .int (nI gc), .int (nI oc)])), (x0, .inl (cL, 1, .inr (.inl (fun c => lN (ou c)))))] st.heap.size = A at hD ⊢
  have hA : ∀ q : Nat, st.heap.size ≤ q → A q := fun q h => by rw [← hAe]; exact Or.inr h
  have hS : va_S A st.heap st.heap [] := va_S.rf
  have hl := lv_entry ([.ref s0, .int y1, .int y, .ref x0]) (n := 5) (Nat.le_of_ble_eq_true rfl)
  rw [lg_entry_eq]
  generalize (lg_sl ([.ref s0, .int y1, .int y, .ref x0]) ++ List.replicate (5 - (lg_sl ([.ref s0, .int y1, .int y, .ref x0])).length) Slot.unset).toArray = ls at hl ⊢
  have hl : lv_has ls 5 [(0, .ref s0), (1, .int y1), (2, .int y), (3, .ref x0)] := hl
  refine lv_aload_n hx hb d_L_session_0 rfl (lv_at hl 3 rfl) ?_
  refine lv_iconst (v := nI 0) hx hb d_L_session_1 (by decide) ?_
  refine lv_aload_n hx hb d_L_session_2 rfl (lv_at hl 0 rfl) ?_
  refine lv_iload_n hx hb d_L_session_3 rfl (lv_at hl 1 rfl) ?_
  refine lv_iload_n hx hb d_L_session_4 rfl (lv_at hl 2 rfl) ?_
  refine xk_l (vx_runV (As := [.int y1, .int y]) (rest := [.int (nI 0), .ref x0]) ⟨hx, hb, hml, hown, hts⟩ (x_S_sessionA l dC dI cI cL hlt st.heap.size s0 m0 c0 e0 q1 vr k1 k2 k3 k4 k5 cc gc oc y1 y hy hm1) (cwV 2 hts (gi_V kw_455 kw_456 kw_457 kw_1 gi_S_session) rfl rfl rfl ⟨rfl, by decide, by decide, by decide⟩ ⟨Nat.le_of_ble_eq_true rfl, Nat.le_of_ble_eq_true rfl⟩) (wq_preVX hP hK hN hE hZ [0, 1] rfl (q0 := 0) (ci := 0) rfl rfl rfl) rfl rfl hl.1 rfl (lv_room (Nat.le_of_ble_eq_true rfl)) d_L_session_5 ⟨Nat.le_of_ble_eq_true rfl, Nat.le_of_ble_eq_true rfl⟩) hA hown [] ⟨0, 9, 12, 38⟩ [⟨0, 9, 16, 13⟩] (htab.trans rfl) (fun z hz => by cases hz) rfl (by decide) (hts _ kw_361) (va_Nw.use rfl (hE.1 _ xw_IO)) (fun q9 H locs hS hkk => ?_)
  have hP := hP.kept (fun k x hx => hkk _ ((hP k x hx).lt))
  have hP : va_P (dC, dI) classes [(s0, .inr (0, [.ref m0, .ref c0, .ref e0, .ref q1, .long (lN vr)])), (c0, .inr (2, [.ref k1, .ref k2, .ref k3, .ref k4, .ref k5, .int (nI cc), .int (nI gc), .int (nI oc)])), (x0, .inl (cL, 1, .inr (.inl (fun c => lN (ou c)))))] H := hP
  have hD : va_D A [(s0, .inr (0, [.ref m0, .ref c0, .ref e0, .ref q1, .long (lN vr)])), (c0, .inr (2, [.ref k1, .ref k2, .ref k3, .ref k4, .ref k5, .int (nI cc), .int (nI gc), .int (nI oc)])), (x0, .inl (cL, 1, .inr (.inl (fun c => lN (ou c)))))] := hD
  refine lv_astore (lv' := [(4, .ref q9), (0, .ref s0), (1, .int y1), (2, .int y), (3, .ref x0)]) hx hb d_L_session_12 hl (by decide) rfl (fun ls hl => ?_)
  refine lv_iconst (v := nI 1) hx hb d_L_session_14 (by decide) ?_
  have hP := hP.sub (ws' := [(s0, .inr (0, [.ref m0, .ref c0, .ref e0, .ref q1, .long (lN vr)])), (c0, .inr (2, [.ref k1, .ref k2, .ref k3, .ref k4, .ref k5, .int (nI cc), .int (nI gc), .int (nI oc)])), (x0, .inl (cL, 1, .inr (.inl (fun c => lN (ou c)))))]) [0, 1, 2] rfl
  have hD := hD.sub (ws' := [(s0, .inr (0, [.ref m0, .ref c0, .ref e0, .ref q1, .long (lN vr)])), (c0, .inr (2, [.ref k1, .ref k2, .ref k3, .ref k4, .ref k5, .int (nI cc), .int (nI gc), .int (nI oc)])), (x0, .inl (cL, 1, .inr (.inl (fun c => lN (ou c)))))]) [0, 1, 2] (by decide) rfl
  exact W.iret (v := nI 1) hx hb hr (fun t9 ht hW => ⟨⟨nI 1, (), rfl, rfl, by rw [ht]; exact hP, va_K.moved hW.alike hK, hD⟩, hS.F ht⟩) hS.2.2 d_L_session_15
set_option maxHeartbeats 4000000 in
set_option maxRecDepth 100000 in
theorem c_L_sessionXBN (l : Launch) (dC : Nat → ClassId) (dI : Nat → Nat → Nat) (cI cL : ClassId) (hlt : l.stackTraces = false) (sz : Nat) (s0 m0 c0 e0 q1 : Nat) (vr : Nat) (k1 k2 k3 k4 k5 : Nat) (cc gc oc : Nat) (y1 : Int32) (hy : y1 < 0 ∨ ¬ y1 ≤ nI 256) (x0 : Nat) (ou : Nat → Nat) : Met l y_L_session w_L_session ({ frames := 8, cells := 1, slots := 6, locals := 131 } : Room) (va_Pc [.ref s0, .int y1, .int (-1), .ref x0] (wq_E (dC, dI) classes [(s0, .inr (0, [.ref m0, .ref c0, .ref e0, .ref q1, .long (lN vr)])), (c0, .inr (2, [.ref k1, .ref k2, .ref k3, .ref k4, .ref k5, .int (nI cc), .int (nI gc), .int (nI oc)])), (x0, .inl (cL, 1, .inr (.inl (fun c => lN (ou c)))))] [(cI, .int), (cL, .long)] sz)) (va_Qi (fun (r : Int32) (u : Unit) => r = nI 2) (fun (u : Unit) t => wq_B (dC, dI) classes [(cI, .int), (cL, .long)] (va_A [(s0, .inr (0, [.ref m0, .ref c0, .ref e0, .ref q1, .long (lN vr)])), (c0, .inr (2, [.ref k1, .ref k2, .ref k3, .ref k4, .ref k5, .int (nI cc), .int (nI gc), .int (nI oc)])), (x0, .inl (cL, 1, .inr (.inl (fun c => lN (ou c)))))] sz) [(s0, .inr (0, [.ref m0, .ref c0, .ref e0, .ref q1, .long (lN vr)])), (c0, .inr (2, [.ref k1, .ref k2, .ref k3, .ref k4, .ref k5, .int (nI cc), .int (nI gc), .int (nI oc)])), (x0, .inl (cL, 1, .inr (.inl (fun c => lN (ou c)))))] t) (va_A [(s0, .inr (0, [.ref m0, .ref c0, .ref e0, .ref q1, .long (lN vr)])), (c0, .inr (2, [.ref k1, .ref k2, .ref k3, .ref k4, .ref k5, .int (nI cc), .int (nI gc), .int (nI oc)])), (x0, .inl (cL, 1, .inr (.inl (fun c => lN (ou c)))))] sz)) 1 6 (va_A [(s0, .inr (0, [.ref m0, .ref c0, .ref e0, .ref q1, .long (lN vr)])), (c0, .inr (2, [.ref k1, .ref k2, .ref k3, .ref k4, .ref k5, .int (nI cc), .int (nI gc), .int (nI oc)])), (x0, .inl (cL, 1, .inr (.inl (fun c => lN (ou c)))))] sz) := by
  refine mt_ofWH (cc := b_L_session) (maxL := 5) (ret := (Option.some Jvm.ClassFile.FieldType.int)) (hh := [((0 : Nat), (9 : Nat), (12 : Nat), (38 : Nat)), ((0 : Nat), (9 : Nat), (16 : Nat), (13 : Nat))]) (by decide) rfl ?_
  intro pg en st mm ar bw me co s₁ B hml htab hv
  obtain ⟨rfl, ⟨hsz, hP, hK, hD0, hN⟩, hE, hZ, hC⟩ := hv
  have hx := B.exec
  have hb := B.bytes
  have hr := B.returns
  have hlocks := B.notSynchronized
  have hts0 := atoms_spec (ws := w_L_session) B.pre
  have hts : ∀ w ∈ gw, w.before _ st = true := fun w h => hts0 w (List.mem_cons_of_mem _ h)
  have hown : st.vm.findClass R_L = some mm.cls := findClass_of_methodNamed B.named
  subst hsz
  have hD := hD0.self (sz := st.heap.size)
  generalize hAe : va_A [(s0, .inr (0, [.ref m0, .ref c0, .ref e0, .ref q1, .long (lN vr)])), (c0, .inr (2, [.ref k1, .ref k2, .ref k3, .ref k4, .ref k5, .int (nI cc), .int (nI gc), .int (nI oc)])), (x0, .inl (cL, 1, .inr (.inl (fun c => lN (ou c)))))] st.heap.size = A at hD ⊢
  have hA : ∀ q : Nat, st.heap.size ≤ q → A q := fun q h => by rw [← hAe]; exact Or.inr h
  have hS : va_S A st.heap st.heap [] := va_S.rf
  have hl := lv_entry ([.ref s0, .int y1, .int (-1), .ref x0]) (n := 5) (Nat.le_of_ble_eq_true rfl)
  rw [lg_entry_eq]
  generalize (lg_sl ([.ref s0, .int y1, .int (-1), .ref x0]) ++ List.replicate (5 - (lg_sl ([.ref s0, .int y1, .int (-1), .ref x0])).length) Slot.unset).toArray = ls at hl ⊢
  have hl : lv_has ls 5 [(0, .ref s0), (1, .int y1), (2, .int (-1)), (3, .ref x0)] := hl
  refine lv_aload_n hx hb d_L_session_0 rfl (lv_at hl 3 rfl) ?_
  refine lv_iconst (v := nI 0) hx hb d_L_session_1 (by decide) ?_
  refine lv_aload_n hx hb d_L_session_2 rfl (lv_at hl 0 rfl) ?_
  refine lv_iload_n hx hb d_L_session_3 rfl (lv_at hl 1 rfl) ?_
  refine lv_iload_n hx hb d_L_session_4 rfl (lv_at hl 2 rfl) ?_
  refine xk_l (vx_runV (As := [.int y1, .int (-1)]) (rest := [.int (nI 0), .ref x0]) ⟨hx, hb, hml, hown, hts⟩ (x_S_sessionBN l dC dI cI cL hlt st.heap.size s0 m0 c0 e0 q1 vr k1 k2 k3 k4 k5 cc gc oc y1 hy) (cwV 2 hts (gi_V kw_455 kw_456 kw_457 kw_1 gi_S_session) rfl rfl rfl ⟨rfl, by decide, by decide, by decide⟩ ⟨Nat.le_of_ble_eq_true rfl, Nat.le_of_ble_eq_true rfl⟩) (wq_preVX hP hK hN hE hZ [0, 1] rfl (q0 := 0) (ci := 0) rfl rfl rfl) rfl rfl hl.1 rfl (lv_room (Nat.le_of_ble_eq_true rfl)) d_L_session_5 ⟨Nat.le_of_ble_eq_true rfl, Nat.le_of_ble_eq_true rfl⟩) hA hown [⟨0, 9, 12, 38⟩] ⟨0, 9, 16, 13⟩ [] (htab.trans rfl) (fun z hz => by
      simp only [List.mem_cons, List.not_mem_nil, or_false] at hz
      rcases hz with rfl
      exact Or.inr ⟨by decide, "java/lang/IndexOutOfBoundsException", hts _ kw_361, xn_use hC xn_IA_IO⟩) rfl (by decide) (hts _ kw_206) (va_Nw.use rfl (hE.1 _ xw_IA)) (fun q9 H locs hS hkk => ?_)
  have hP := hP.kept (fun k x hx => hkk _ ((hP k x hx).lt))
  have hP : va_P (dC, dI) classes [(s0, .inr (0, [.ref m0, .ref c0, .ref e0, .ref q1, .long (lN vr)])), (c0, .inr (2, [.ref k1, .ref k2, .ref k3, .ref k4, .ref k5, .int (nI cc), .int (nI gc), .int (nI oc)])), (x0, .inl (cL, 1, .inr (.inl (fun c => lN (ou c)))))] H := hP
  have hD : va_D A [(s0, .inr (0, [.ref m0, .ref c0, .ref e0, .ref q1, .long (lN vr)])), (c0, .inr (2, [.ref k1, .ref k2, .ref k3, .ref k4, .ref k5, .int (nI cc), .int (nI gc), .int (nI oc)])), (x0, .inl (cL, 1, .inr (.inl (fun c => lN (ou c)))))] := hD
  refine lv_astore (lv' := [(4, .ref q9), (0, .ref s0), (1, .int y1), (2, .int (-1)), (3, .ref x0)]) hx hb d_L_session_16 hl (by decide) rfl (fun ls hl => ?_)
  refine lv_iconst (v := nI 2) hx hb d_L_session_18 (by decide) ?_
  have hP := hP.sub (ws' := [(s0, .inr (0, [.ref m0, .ref c0, .ref e0, .ref q1, .long (lN vr)])), (c0, .inr (2, [.ref k1, .ref k2, .ref k3, .ref k4, .ref k5, .int (nI cc), .int (nI gc), .int (nI oc)])), (x0, .inl (cL, 1, .inr (.inl (fun c => lN (ou c)))))]) [0, 1, 2] rfl
  have hD := hD.sub (ws' := [(s0, .inr (0, [.ref m0, .ref c0, .ref e0, .ref q1, .long (lN vr)])), (c0, .inr (2, [.ref k1, .ref k2, .ref k3, .ref k4, .ref k5, .int (nI cc), .int (nI gc), .int (nI oc)])), (x0, .inl (cL, 1, .inr (.inl (fun c => lN (ou c)))))]) [0, 1, 2] (by decide) rfl
  exact W.iret (v := nI 2) hx hb hr (fun t9 ht hW => ⟨⟨nI 2, (), rfl, rfl, by rw [ht]; exact hP, va_K.moved hW.alike hK, hD⟩, hS.F ht⟩) hS.2.2 d_L_session_19
set_option maxHeartbeats 4000000 in
set_option maxRecDepth 100000 in
theorem c_L_sessionXBF (l : Launch) (dC : Nat → ClassId) (dI : Nat → Nat → Nat) (cI cL : ClassId) (hlt : l.stackTraces = false) (sz : Nat) (s0 m0 c0 e0 q1 : Nat) (vr : Nat) (k1 k2 k3 k4 k5 : Nat) (cc gc oc : Nat) (y1 : Int32) (hy : y1 < 0 ∨ ¬ y1 ≤ nI 256) (ff : Nat) (hff : ff < 2 * (cc + gc)) (hl1 : 2 * (cc + gc) < 2 ^ 31) (x0 : Nat) (ou : Nat → Nat) : Met l y_L_session w_L_session ({ frames := 8, cells := 1, slots := 6, locals := 131 } : Room) (va_Pc [.ref s0, .int y1, .int (nI ff), .ref x0] (wq_E (dC, dI) classes [(s0, .inr (0, [.ref m0, .ref c0, .ref e0, .ref q1, .long (lN vr)])), (c0, .inr (2, [.ref k1, .ref k2, .ref k3, .ref k4, .ref k5, .int (nI cc), .int (nI gc), .int (nI oc)])), (x0, .inl (cL, 1, .inr (.inl (fun c => lN (ou c)))))] [(cI, .int), (cL, .long)] sz)) (va_Qi (fun (r : Int32) (u : Unit) => r = nI 2) (fun (u : Unit) t => wq_B (dC, dI) classes [(cI, .int), (cL, .long)] (va_A [(s0, .inr (0, [.ref m0, .ref c0, .ref e0, .ref q1, .long (lN vr)])), (c0, .inr (2, [.ref k1, .ref k2, .ref k3, .ref k4, .ref k5, .int (nI cc), .int (nI gc), .int (nI oc)])), (x0, .inl (cL, 1, .inr (.inl (fun c => lN (ou c)))))] sz) [(s0, .inr (0, [.ref m0, .ref c0, .ref e0, .ref q1, .long (lN vr)])), (c0, .inr (2, [.ref k1, .ref k2, .ref k3, .ref k4, .ref k5, .int (nI cc), .int (nI gc), .int (nI oc)])), (x0, .inl (cL, 1, .inr (.inl (fun c => lN (ou c)))))] t) (va_A [(s0, .inr (0, [.ref m0, .ref c0, .ref e0, .ref q1, .long (lN vr)])), (c0, .inr (2, [.ref k1, .ref k2, .ref k3, .ref k4, .ref k5, .int (nI cc), .int (nI gc), .int (nI oc)])), (x0, .inl (cL, 1, .inr (.inl (fun c => lN (ou c)))))] sz)) 1 6 (va_A [(s0, .inr (0, [.ref m0, .ref c0, .ref e0, .ref q1, .long (lN vr)])), (c0, .inr (2, [.ref k1, .ref k2, .ref k3, .ref k4, .ref k5, .int (nI cc), .int (nI gc), .int (nI oc)])), (x0, .inl (cL, 1, .inr (.inl (fun c => lN (ou c)))))] sz) := by
  refine mt_ofWH (cc := b_L_session) (maxL := 5) (ret := (Option.some Jvm.ClassFile.FieldType.int)) (hh := [((0 : Nat), (9 : Nat), (12 : Nat), (38 : Nat)), ((0 : Nat), (9 : Nat), (16 : Nat), (13 : Nat))]) (by decide) rfl ?_
  intro pg en st mm ar bw me co s₁ B hml htab hv
  obtain ⟨rfl, ⟨hsz, hP, hK, hD0, hN⟩, hE, hZ, hC⟩ := hv
  have hx := B.exec
  have hb := B.bytes
  have hr := B.returns
  have hlocks := B.notSynchronized
  have hts0 := atoms_spec (ws := w_L_session) B.pre
  have hts : ∀ w ∈ gw, w.before _ st = true := fun w h => hts0 w (List.mem_cons_of_mem _ h)
  have hown : st.vm.findClass R_L = some mm.cls := findClass_of_methodNamed B.named
  subst hsz
  have hD := hD0.self (sz := st.heap.size)
  generalize hAe : va_A [(s0, .inr (0, [.ref m0, .ref c0, .ref e0, .ref q1, .long (lN vr)])), (c0, .inr (2, [.ref k1, .ref k2, .ref k3, .ref k4, .ref k5, .int (nI cc), .int (nI gc), .int (nI oc)])), (x0, .inl (cL, 1, .inr (.inl (fun c => lN (ou c)))))] st.heap.size = A at hD ⊢
  have hA : ∀ q : Nat, st.heap.size ≤ q → A q := fun q h => by rw [← hAe]; exact Or.inr h
  have hS : va_S A st.heap st.heap [] := va_S.rf
  have hl := lv_entry ([.ref s0, .int y1, .int (nI ff), .ref x0]) (n := 5) (Nat.le_of_ble_eq_true rfl)
  rw [lg_entry_eq]
  generalize (lg_sl ([.ref s0, .int y1, .int (nI ff), .ref x0]) ++ List.replicate (5 - (lg_sl ([.ref s0, .int y1, .int (nI ff), .ref x0])).length) Slot.unset).toArray = ls at hl ⊢
  have hl : lv_has ls 5 [(0, .ref s0), (1, .int y1), (2, .int (nI ff)), (3, .ref x0)] := hl
  refine lv_aload_n hx hb d_L_session_0 rfl (lv_at hl 3 rfl) ?_
  refine lv_iconst (v := nI 0) hx hb d_L_session_1 (by decide) ?_
  refine lv_aload_n hx hb d_L_session_2 rfl (lv_at hl 0 rfl) ?_
  refine lv_iload_n hx hb d_L_session_3 rfl (lv_at hl 1 rfl) ?_
  refine lv_iload_n hx hb d_L_session_4 rfl (lv_at hl 2 rfl) ?_
  refine xk_l (vx_runV (As := [.int y1, .int (nI ff)]) (rest := [.int (nI 0), .ref x0]) ⟨hx, hb, hml, hown, hts⟩ (x_S_sessionBF l dC dI cI cL hlt st.heap.size s0 m0 c0 e0 q1 vr k1 k2 k3 k4 k5 cc gc oc y1 hy ff hff hl1) (cwV 2 hts (gi_V kw_455 kw_456 kw_457 kw_1 gi_S_session) rfl rfl rfl ⟨rfl, by decide, by decide, by decide⟩ ⟨Nat.le_of_ble_eq_true rfl, Nat.le_of_ble_eq_true rfl⟩) (wq_preVX hP hK hN hE hZ [0, 1] rfl (q0 := 0) (ci := 0) rfl rfl rfl) rfl rfl hl.1 rfl (lv_room (Nat.le_of_ble_eq_true rfl)) d_L_session_5 ⟨Nat.le_of_ble_eq_true rfl, Nat.le_of_ble_eq_true rfl⟩) hA hown [⟨0, 9, 12, 38⟩] ⟨0, 9, 16, 13⟩ [] (htab.trans rfl) (fun z hz => by
      simp only [List.mem_cons, List.not_mem_nil, or_false] at hz
      rcases hz with rfl
      exact Or.inr ⟨by decide, "java/lang/IndexOutOfBoundsException", hts _ kw_361, xn_use hC xn_IA_IO⟩) rfl (by decide) (hts _ kw_206) (va_Nw.use rfl (hE.1 _ xw_IA)) (fun q9 H locs hS hkk => ?_)
  have hP := hP.kept (fun k x hx => hkk _ ((hP k x hx).lt))
  have hP : va_P (dC, dI) classes [(s0, .inr (0, [.ref m0, .ref c0, .ref e0, .ref q1, .long (lN vr)])), (c0, .inr (2, [.ref k1, .ref k2, .ref k3, .ref k4, .ref k5, .int (nI cc), .int (nI gc), .int (nI oc)])), (x0, .inl (cL, 1, .inr (.inl (fun c => lN (ou c)))))] H := hP
  have hD : va_D A [(s0, .inr (0, [.ref m0, .ref c0, .ref e0, .ref q1, .long (lN vr)])), (c0, .inr (2, [.ref k1, .ref k2, .ref k3, .ref k4, .ref k5, .int (nI cc), .int (nI gc), .int (nI oc)])), (x0, .inl (cL, 1, .inr (.inl (fun c => lN (ou c)))))] := hD
  refine lv_astore (lv' := [(4, .ref q9), (0, .ref s0), (1, .int y1), (2, .int (nI ff)), (3, .ref x0)]) hx hb d_L_session_16 hl (by decide) rfl (fun ls hl => ?_)
  refine lv_iconst (v := nI 2) hx hb d_L_session_18 (by decide) ?_
  have hP := hP.sub (ws' := [(s0, .inr (0, [.ref m0, .ref c0, .ref e0, .ref q1, .long (lN vr)])), (c0, .inr (2, [.ref k1, .ref k2, .ref k3, .ref k4, .ref k5, .int (nI cc), .int (nI gc), .int (nI oc)])), (x0, .inl (cL, 1, .inr (.inl (fun c => lN (ou c)))))]) [0, 1, 2] rfl
  have hD := hD.sub (ws' := [(s0, .inr (0, [.ref m0, .ref c0, .ref e0, .ref q1, .long (lN vr)])), (c0, .inr (2, [.ref k1, .ref k2, .ref k3, .ref k4, .ref k5, .int (nI cc), .int (nI gc), .int (nI oc)])), (x0, .inl (cL, 1, .inr (.inl (fun c => lN (ou c)))))]) [0, 1, 2] (by decide) rfl
  exact W.iret (v := nI 2) hx hb hr (fun t9 ht hW => ⟨⟨nI 2, (), rfl, rfl, by rw [ht]; exact hP, va_K.moved hW.alike hK, hD⟩, hS.F ht⟩) hS.2.2 d_L_session_19
set_option maxHeartbeats 4000000 in
set_option maxRecDepth 100000 in
theorem c_L_faultsXA (l : Launch) (dC : Nat → ClassId) (dI : Nat → Nat → Nat) (cI cL : ClassId) (hlt : l.stackTraces = false) (sz : Nat) (s0 m0 c0 e0 q1 : Nat) (vr : Nat) (y1 y2 : Int32) (hy : y2 < 0 ∨ ¬ y2 ≤ nI 3) (x0 : Nat) (ou : Nat → Nat) : Met l y_L_faults w_L_faults ({ frames := 7, cells := 1, slots := 6, locals := 106 } : Room) (va_Pc [.ref s0, .int y1, .int y2, .ref x0] (wq_E (dC, dI) classes [(s0, .inr (0, [.ref m0, .ref c0, .ref e0, .ref q1, .long (lN vr)])), (x0, .inl (cL, 1, .inr (.inl (fun c => lN (ou c)))))] [(cI, .int), (cL, .long)] sz)) (va_Qi (fun (r : Int32) (u : Unit) => r = nI 1) (fun (u : Unit) t => wq_B (dC, dI) classes [(cI, .int), (cL, .long)] (va_A [(s0, .inr (0, [.ref m0, .ref c0, .ref e0, .ref q1, .long (lN vr)])), (x0, .inl (cL, 1, .inr (.inl (fun c => lN (ou c)))))] sz) [(s0, .inr (0, [.ref m0, .ref c0, .ref e0, .ref q1, .long (lN vr)])), (x0, .inl (cL, 1, .inr (.inl (fun c => lN (ou c)))))] t) (va_A [(s0, .inr (0, [.ref m0, .ref c0, .ref e0, .ref q1, .long (lN vr)])), (x0, .inl (cL, 1, .inr (.inl (fun c => lN (ou c)))))] sz)) 1 6 (va_A [(s0, .inr (0, [.ref m0, .ref c0, .ref e0, .ref q1, .long (lN vr)])), (x0, .inl (cL, 1, .inr (.inl (fun c => lN (ou c)))))] sz) := by
  refine mt_ofWH (cc := b_L_faults) (maxL := 5) (ret := (Option.some Jvm.ClassFile.FieldType.int)) (hh := [((0 : Nat), (10 : Nat), (13 : Nat), (38 : Nat)), ((0 : Nat), (10 : Nat), (17 : Nat), (13 : Nat))]) (by decide) rfl ?_
  intro pg en st mm ar bw me co s₁ B hml htab hv
  obtain ⟨rfl, ⟨hsz, hP, hK, hD0, hN⟩, hE, hZ, hC⟩ := hv
  have hx := B.exec
  have hb := B.bytes
  have hr := B.returns
  have hlocks := B.notSynchronized
  have hts0 := atoms_spec (ws := w_L_faults) B.pre
  have hts : ∀ w ∈ gw, w.before _ st = true := fun w h => hts0 w (List.mem_cons_of_mem _ h)
  have hown : st.vm.findClass R_L = some mm.cls := findClass_of_methodNamed B.named
  subst hsz
  have hD := hD0.self (sz := st.heap.size)
  generalize hAe : va_A [(s0, .inr (0, [.ref m0, .ref c0, .ref e0, .ref q1, .long (lN vr)])), (x0, .inl (cL, 1, .inr (.inl (fun c => lN (ou c)))))] st.heap.size = A at hD ⊢
  have hA : ∀ q : Nat, st.heap.size ≤ q → A q := fun q h => by rw [← hAe]; exact Or.inr h
  have hS : va_S A st.heap st.heap [] := va_S.rf
  have hl := lv_entry ([.ref s0, .int y1, .int y2, .ref x0]) (n := 5) (Nat.le_of_ble_eq_true rfl)
  rw [lg_entry_eq]
  generalize (lg_sl ([.ref s0, .int y1, .int y2, .ref x0]) ++ List.replicate (5 - (lg_sl ([.ref s0, .int y1, .int y2, .ref x0])).length) Slot.unset).toArray = ls at hl ⊢
  have hl : lv_has ls 5 [(0, .ref s0), (1, .int y1), (2, .int y2), (3, .ref x0)] := hl
  refine lv_aload_n hx hb d_L_faults_0 rfl (lv_at hl 3 rfl) ?_
  refine lv_iconst (v := nI 0) hx hb d_L_faults_1 (by decide) ?_
  refine lv_aload_n hx hb d_L_faults_2 rfl (lv_at hl 0 rfl) ?_
  refine lv_iload_n hx hb d_L_faults_3 rfl (lv_at hl 1 rfl) ?_
  refine lv_iload_n hx hb d_L_faults_4 rfl (lv_at hl 2 rfl) ?_
  refine xk_i (vx_runV (As := [.int y1, .int y2]) (rest := [.int (nI 0), .ref x0]) ⟨hx, hb, hml, hown, hts⟩ (x_S_faultsA l dC dI cI cL hlt st.heap.size s0 m0 c0 e0 q1 vr y1 y2 hy) (cwV 2 hts (gi_V kw_468 kw_469 kw_470 kw_1 gi_S_faults) rfl rfl rfl ⟨rfl, by decide, by decide, by decide⟩ ⟨Nat.le_of_ble_eq_true rfl, Nat.le_of_ble_eq_true rfl⟩) (wq_preVX hP hK hN hE hZ [0] rfl (q0 := 0) (ci := 0) rfl rfl rfl) rfl rfl hl.1 rfl (lv_room (Nat.le_of_ble_eq_true rfl)) d_L_faults_5 ⟨Nat.le_of_ble_eq_true rfl, Nat.le_of_ble_eq_true rfl⟩) hA hown [] ⟨0, 10, 13, 38⟩ [⟨0, 10, 17, 13⟩] (htab.trans rfl) (fun z hz => by cases hz) rfl (by decide) (hts _ kw_361) (va_Nw.use rfl (hE.1 _ xw_IO)) (fun q9 H locs hS hkk => ?_)
  have hP := hP.kept (fun k x hx => hkk _ ((hP k x hx).lt))
  have hP : va_P (dC, dI) classes [(s0, .inr (0, [.ref m0, .ref c0, .ref e0, .ref q1, .long (lN vr)])), (x0, .inl (cL, 1, .inr (.inl (fun c => lN (ou c)))))] H := hP
  have hD : va_D A [(s0, .inr (0, [.ref m0, .ref c0, .ref e0, .ref q1, .long (lN vr)])), (x0, .inl (cL, 1, .inr (.inl (fun c => lN (ou c)))))] := hD
  refine lv_astore (lv' := [(4, .ref q9), (0, .ref s0), (1, .int y1), (2, .int y2), (3, .ref x0)]) hx hb d_L_faults_13 hl (by decide) rfl (fun ls hl => ?_)
  refine lv_iconst (v := nI 1) hx hb d_L_faults_15 (by decide) ?_
  have hP := hP.sub (ws' := [(s0, .inr (0, [.ref m0, .ref c0, .ref e0, .ref q1, .long (lN vr)])), (x0, .inl (cL, 1, .inr (.inl (fun c => lN (ou c)))))]) [0, 1] rfl
  have hD := hD.sub (ws' := [(s0, .inr (0, [.ref m0, .ref c0, .ref e0, .ref q1, .long (lN vr)])), (x0, .inl (cL, 1, .inr (.inl (fun c => lN (ou c)))))]) [0, 1] (by decide) rfl
  exact W.iret (v := nI 1) hx hb hr (fun t9 ht hW => ⟨⟨nI 1, (), rfl, rfl, by rw [ht]; exact hP, va_K.moved hW.alike hK, hD⟩, hS.F ht⟩) hS.2.2 d_L_faults_16
set_option maxHeartbeats 4000000 in
set_option maxRecDepth 100000 in
theorem c_L_faultsXB (l : Launch) (dC : Nat → ClassId) (dI : Nat → Nat → Nat) (cI cL : ClassId) (hlt : l.stackTraces = false) (sz : Nat) (s0 m0 c0 e0 q1 : Nat) (vr : Nat) (y1 : Int32) (hy : y1 < 0 ∨ ¬ y1 ≤ nI 256) (k : Nat) (hk3 : k ≤ 3) (x0 : Nat) (ou : Nat → Nat) : Met l y_L_faults w_L_faults ({ frames := 8, cells := 1, slots := 6, locals := 127 } : Room) (va_Pc [.ref s0, .int y1, .int (nI k), .ref x0] (wq_E (dC, dI) classes [(s0, .inr (0, [.ref m0, .ref c0, .ref e0, .ref q1, .long (lN vr)])), (x0, .inl (cL, 1, .inr (.inl (fun c => lN (ou c)))))] [(cI, .int), (cL, .long)] sz)) (va_Qi (fun (r : Int32) (u : Unit) => r = nI 2) (fun (u : Unit) t => wq_B (dC, dI) classes [(cI, .int), (cL, .long)] (va_A [(s0, .inr (0, [.ref m0, .ref c0, .ref e0, .ref q1, .long (lN vr)])), (x0, .inl (cL, 1, .inr (.inl (fun c => lN (ou c)))))] sz) [(s0, .inr (0, [.ref m0, .ref c0, .ref e0, .ref q1, .long (lN vr)])), (x0, .inl (cL, 1, .inr (.inl (fun c => lN (ou c)))))] t) (va_A [(s0, .inr (0, [.ref m0, .ref c0, .ref e0, .ref q1, .long (lN vr)])), (x0, .inl (cL, 1, .inr (.inl (fun c => lN (ou c)))))] sz)) 1 6 (va_A [(s0, .inr (0, [.ref m0, .ref c0, .ref e0, .ref q1, .long (lN vr)])), (x0, .inl (cL, 1, .inr (.inl (fun c => lN (ou c)))))] sz) := by
  refine mt_ofWH (cc := b_L_faults) (maxL := 5) (ret := (Option.some Jvm.ClassFile.FieldType.int)) (hh := [((0 : Nat), (10 : Nat), (13 : Nat), (38 : Nat)), ((0 : Nat), (10 : Nat), (17 : Nat), (13 : Nat))]) (by decide) rfl ?_
  intro pg en st mm ar bw me co s₁ B hml htab hv
  obtain ⟨rfl, ⟨hsz, hP, hK, hD0, hN⟩, hE, hZ, hC⟩ := hv
  have hx := B.exec
  have hb := B.bytes
  have hr := B.returns
  have hlocks := B.notSynchronized
  have hts0 := atoms_spec (ws := w_L_faults) B.pre
  have hts : ∀ w ∈ gw, w.before _ st = true := fun w h => hts0 w (List.mem_cons_of_mem _ h)
  have hown : st.vm.findClass R_L = some mm.cls := findClass_of_methodNamed B.named
  subst hsz
  have hD := hD0.self (sz := st.heap.size)
  generalize hAe : va_A [(s0, .inr (0, [.ref m0, .ref c0, .ref e0, .ref q1, .long (lN vr)])), (x0, .inl (cL, 1, .inr (.inl (fun c => lN (ou c)))))] st.heap.size = A at hD ⊢
  have hA : ∀ q : Nat, st.heap.size ≤ q → A q := fun q h => by rw [← hAe]; exact Or.inr h
  have hS : va_S A st.heap st.heap [] := va_S.rf
  have hl := lv_entry ([.ref s0, .int y1, .int (nI k), .ref x0]) (n := 5) (Nat.le_of_ble_eq_true rfl)
  rw [lg_entry_eq]
  generalize (lg_sl ([.ref s0, .int y1, .int (nI k), .ref x0]) ++ List.replicate (5 - (lg_sl ([.ref s0, .int y1, .int (nI k), .ref x0])).length) Slot.unset).toArray = ls at hl ⊢
  have hl : lv_has ls 5 [(0, .ref s0), (1, .int y1), (2, .int (nI k)), (3, .ref x0)] := hl
  refine lv_aload_n hx hb d_L_faults_0 rfl (lv_at hl 3 rfl) ?_
  refine lv_iconst (v := nI 0) hx hb d_L_faults_1 (by decide) ?_
  refine lv_aload_n hx hb d_L_faults_2 rfl (lv_at hl 0 rfl) ?_
  refine lv_iload_n hx hb d_L_faults_3 rfl (lv_at hl 1 rfl) ?_
  refine lv_iload_n hx hb d_L_faults_4 rfl (lv_at hl 2 rfl) ?_
  refine xk_i (vx_runV (As := [.int y1, .int (nI k)]) (rest := [.int (nI 0), .ref x0]) ⟨hx, hb, hml, hown, hts⟩ (x_S_faultsB l dC dI cI cL hlt st.heap.size s0 m0 c0 e0 q1 vr y1 hy k hk3) (cwV 2 hts (gi_V kw_468 kw_469 kw_470 kw_1 gi_S_faults) rfl rfl rfl ⟨rfl, by decide, by decide, by decide⟩ ⟨Nat.le_of_ble_eq_true rfl, Nat.le_of_ble_eq_true rfl⟩) (wq_preVX hP hK hN hE hZ [0] rfl (q0 := 0) (ci := 0) rfl rfl rfl) rfl rfl hl.1 rfl (lv_room (Nat.le_of_ble_eq_true rfl)) d_L_faults_5 ⟨Nat.le_of_ble_eq_true rfl, Nat.le_of_ble_eq_true rfl⟩) hA hown [⟨0, 10, 13, 38⟩] ⟨0, 10, 17, 13⟩ [] (htab.trans rfl) (fun z hz => by
      simp only [List.mem_cons, List.not_mem_nil, or_false] at hz
      rcases hz with rfl
      exact Or.inr ⟨by decide, "java/lang/IndexOutOfBoundsException", hts _ kw_361, xn_use hC xn_IA_IO⟩) rfl (by decide) (hts _ kw_206) (va_Nw.use rfl (hE.1 _ xw_IA)) (fun q9 H locs hS hkk => ?_)
  have hP := hP.kept (fun k x hx => hkk _ ((hP k x hx).lt))
  have hP : va_P (dC, dI) classes [(s0, .inr (0, [.ref m0, .ref c0, .ref e0, .ref q1, .long (lN vr)])), (x0, .inl (cL, 1, .inr (.inl (fun c => lN (ou c)))))] H := hP
  have hD : va_D A [(s0, .inr (0, [.ref m0, .ref c0, .ref e0, .ref q1, .long (lN vr)])), (x0, .inl (cL, 1, .inr (.inl (fun c => lN (ou c)))))] := hD
  refine lv_astore (lv' := [(4, .ref q9), (0, .ref s0), (1, .int y1), (2, .int (nI k)), (3, .ref x0)]) hx hb d_L_faults_17 hl (by decide) rfl (fun ls hl => ?_)
  refine lv_iconst (v := nI 2) hx hb d_L_faults_19 (by decide) ?_
  have hP := hP.sub (ws' := [(s0, .inr (0, [.ref m0, .ref c0, .ref e0, .ref q1, .long (lN vr)])), (x0, .inl (cL, 1, .inr (.inl (fun c => lN (ou c)))))]) [0, 1] rfl
  have hD := hD.sub (ws' := [(s0, .inr (0, [.ref m0, .ref c0, .ref e0, .ref q1, .long (lN vr)])), (x0, .inl (cL, 1, .inr (.inl (fun c => lN (ou c)))))]) [0, 1] (by decide) rfl
  exact W.iret (v := nI 2) hx hb hr (fun t9 ht hW => ⟨⟨nI 2, (), rfl, rfl, by rw [ht]; exact hP, va_K.moved hW.alike hK, hD⟩, hS.F ht⟩) hS.2.2 d_L_faults_20
set_option maxHeartbeats 4000000 in
set_option maxRecDepth 100000 in
theorem c_L_firstXA (l : Launch) (dC : Nat → ClassId) (dI : Nat → Nat → Nat) (cI cL : ClassId) (hlt : l.stackTraces = false) (sz : Nat) (s0 m0 c0 e0 q1 : Nat) (vr : Nat) (k1 k2 k3 k4 k5 : Nat) (cc gc oc : Nat) (y1 y : Int32) (hy : y < 0 ∨ ¬ y < nI (2 * (cc + gc))) (x0 : Nat) (ou : Nat → Nat) : Met l y_L_first w_L_first ({ frames := 8, cells := 1, slots := 6, locals := 129 } : Room) (va_Pc [.ref s0, .int y1, .int y, .ref x0] (wq_E (dC, dI) classes [(s0, .inr (0, [.ref m0, .ref c0, .ref e0, .ref q1, .long (lN vr)])), (c0, .inr (2, [.ref k1, .ref k2, .ref k3, .ref k4, .ref k5, .int (nI cc), .int (nI gc), .int (nI oc)])), (x0, .inl (cL, 1, .inr (.inl (fun c => lN (ou c)))))] [(cI, .int), (cL, .long)] sz)) (va_Qi (fun (r : Int32) (u : Unit) => r = nI 1) (fun (u : Unit) t => wq_B (dC, dI) classes [(cI, .int), (cL, .long)] (va_A [(s0, .inr (0, [.ref m0, .ref c0, .ref e0, .ref q1, .long (lN vr)])), (c0, .inr (2, [.ref k1, .ref k2, .ref k3, .ref k4, .ref k5, .int (nI cc), .int (nI gc), .int (nI oc)])), (x0, .inl (cL, 1, .inr (.inl (fun c => lN (ou c)))))] sz) [(s0, .inr (0, [.ref m0, .ref c0, .ref e0, .ref q1, .long (lN vr)])), (c0, .inr (2, [.ref k1, .ref k2, .ref k3, .ref k4, .ref k5, .int (nI cc), .int (nI gc), .int (nI oc)])), (x0, .inl (cL, 1, .inr (.inl (fun c => lN (ou c)))))] t) (va_A [(s0, .inr (0, [.ref m0, .ref c0, .ref e0, .ref q1, .long (lN vr)])), (c0, .inr (2, [.ref k1, .ref k2, .ref k3, .ref k4, .ref k5, .int (nI cc), .int (nI gc), .int (nI oc)])), (x0, .inl (cL, 1, .inr (.inl (fun c => lN (ou c)))))] sz)) 1 6 (va_A [(s0, .inr (0, [.ref m0, .ref c0, .ref e0, .ref q1, .long (lN vr)])), (c0, .inr (2, [.ref k1, .ref k2, .ref k3, .ref k4, .ref k5, .int (nI cc), .int (nI gc), .int (nI oc)])), (x0, .inl (cL, 1, .inr (.inl (fun c => lN (ou c)))))] sz) := by
  refine mt_ofWH (cc := b_L_first) (maxL := 5) (ret := (Option.some Jvm.ClassFile.FieldType.int)) (hh := [((0 : Nat), (10 : Nat), (13 : Nat), (38 : Nat)), ((0 : Nat), (10 : Nat), (17 : Nat), (13 : Nat))]) (by decide) rfl ?_
  intro pg en st mm ar bw me co s₁ B hml htab hv
  obtain ⟨rfl, ⟨hsz, hP, hK, hD0, hN⟩, hE, hZ, hC⟩ := hv
  have hx := B.exec
  have hb := B.bytes
  have hr := B.returns
  have hlocks := B.notSynchronized
  have hts0 := atoms_spec (ws := w_L_first) B.pre
  have hts : ∀ w ∈ gw, w.before _ st = true := fun w h => hts0 w (List.mem_cons_of_mem _ h)
  have hown : st.vm.findClass R_L = some mm.cls := findClass_of_methodNamed B.named
  subst hsz
  have hD := hD0.self (sz := st.heap.size)
  generalize hAe : va_A [(s0, .inr (0, [.ref m0, .ref c0, .ref e0, .ref q1, .long (lN vr)])), (c0, .inr (2, [.ref k1, .ref k2, .ref k3, .ref k4, .ref k5, .int (nI cc), .int (nI gc), .int (nI oc)])), (x0, .inl (cL, 1, .inr (.inl (fun c => lN (ou c)))))] st.heap.size = A at hD ⊢
  have hA : ∀ q : Nat, st.heap.size ≤ q → A q := fun q h => by rw [← hAe]; exact Or.inr h
  have hS : va_S A st.heap st.heap [] := va_S.rf
  have hl := lv_entry ([.ref s0, .int y1, .int y, .ref x0]) (n := 5) (Nat.le_of_ble_eq_true rfl)
  rw [lg_entry_eq]
  generalize (lg_sl ([.ref s0, .int y1, .int y, .ref x0]) ++ List.replicate (5 - (lg_sl ([.ref s0, .int y1, .int y, .ref x0])).length) Slot.unset).toArray = ls at hl ⊢
  have hl : lv_has ls 5 [(0, .ref s0), (1, .int y1), (2, .int y), (3, .ref x0)] := hl
  refine lv_aload_n hx hb d_L_first_0 rfl (lv_at hl 3 rfl) ?_
  refine lv_iconst (v := nI 0) hx hb d_L_first_1 (by decide) ?_
  refine lv_aload_n hx hb d_L_first_2 rfl (lv_at hl 0 rfl) ?_
  refine lv_iload_n hx hb d_L_first_3 rfl (lv_at hl 1 rfl) ?_
  refine lv_iload_n hx hb d_L_first_4 rfl (lv_at hl 2 rfl) ?_
  refine xk_i (vx_runV (As := [.int y1, .int y]) (rest := [.int (nI 0), .ref x0]) ⟨hx, hb, hml, hown, hts⟩ (x_S_firstA l dC dI cI cL hlt st.heap.size s0 m0 c0 e0 q1 vr k1 k2 k3 k4 k5 cc gc oc y1 y hy) (cwV 2 hts (gi_V kw_517 kw_518 kw_519 kw_1 gi_S_first) rfl rfl rfl ⟨rfl, by decide, by decide, by decide⟩ ⟨Nat.le_of_ble_eq_true rfl, Nat.le_of_ble_eq_true rfl⟩) (wq_preVX hP hK hN hE hZ [0, 1] rfl (q0 := 0) (ci := 0) rfl rfl rfl) rfl rfl hl.1 rfl (lv_room (Nat.le_of_ble_eq_true rfl)) d_L_first_5 ⟨Nat.le_of_ble_eq_true rfl, Nat.le_of_ble_eq_true rfl⟩) hA hown [] ⟨0, 10, 13, 38⟩ [⟨0, 10, 17, 13⟩] (htab.trans rfl) (fun z hz => by cases hz) rfl (by decide) (hts _ kw_361) (va_Nw.use rfl (hE.1 _ xw_IO)) (fun q9 H locs hS hkk => ?_)
  have hP := hP.kept (fun k x hx => hkk _ ((hP k x hx).lt))
  have hP : va_P (dC, dI) classes [(s0, .inr (0, [.ref m0, .ref c0, .ref e0, .ref q1, .long (lN vr)])), (c0, .inr (2, [.ref k1, .ref k2, .ref k3, .ref k4, .ref k5, .int (nI cc), .int (nI gc), .int (nI oc)])), (x0, .inl (cL, 1, .inr (.inl (fun c => lN (ou c)))))] H := hP
  have hD : va_D A [(s0, .inr (0, [.ref m0, .ref c0, .ref e0, .ref q1, .long (lN vr)])), (c0, .inr (2, [.ref k1, .ref k2, .ref k3, .ref k4, .ref k5, .int (nI cc), .int (nI gc), .int (nI oc)])), (x0, .inl (cL, 1, .inr (.inl (fun c => lN (ou c)))))] := hD
  refine lv_astore (lv' := [(4, .ref q9), (0, .ref s0), (1, .int y1), (2, .int y), (3, .ref x0)]) hx hb d_L_first_13 hl (by decide) rfl (fun ls hl => ?_)
  refine lv_iconst (v := nI 1) hx hb d_L_first_15 (by decide) ?_
  have hP := hP.sub (ws' := [(s0, .inr (0, [.ref m0, .ref c0, .ref e0, .ref q1, .long (lN vr)])), (c0, .inr (2, [.ref k1, .ref k2, .ref k3, .ref k4, .ref k5, .int (nI cc), .int (nI gc), .int (nI oc)])), (x0, .inl (cL, 1, .inr (.inl (fun c => lN (ou c)))))]) [0, 1, 2] rfl
  have hD := hD.sub (ws' := [(s0, .inr (0, [.ref m0, .ref c0, .ref e0, .ref q1, .long (lN vr)])), (c0, .inr (2, [.ref k1, .ref k2, .ref k3, .ref k4, .ref k5, .int (nI cc), .int (nI gc), .int (nI oc)])), (x0, .inl (cL, 1, .inr (.inl (fun c => lN (ou c)))))]) [0, 1, 2] (by decide) rfl
  exact W.iret (v := nI 1) hx hb hr (fun t9 ht hW => ⟨⟨nI 1, (), rfl, rfl, by rw [ht]; exact hP, va_K.moved hW.alike hK, hD⟩, hS.F ht⟩) hS.2.2 d_L_first_16
set_option maxHeartbeats 4000000 in
set_option maxRecDepth 100000 in
theorem c_L_firstXB (l : Launch) (dC : Nat → ClassId) (dI : Nat → Nat → Nat) (cI cL : ClassId) (hlt : l.stackTraces = false) (sz : Nat) (s0 m0 c0 e0 q1 : Nat) (vr : Nat) (k1 k2 k3 k4 k5 : Nat) (cc gc oc : Nat) (y1 : Int32) (hy : y1 < 0 ∨ ¬ y1 ≤ nI 256) (ff : Nat) (hff : ff < 2 * (cc + gc)) (hl1 : 2 * (cc + gc) < 2 ^ 31) (x0 : Nat) (ou : Nat → Nat) : Met l y_L_first w_L_first ({ frames := 8, cells := 1, slots := 6, locals := 129 } : Room) (va_Pc [.ref s0, .int y1, .int (nI ff), .ref x0] (wq_E (dC, dI) classes [(s0, .inr (0, [.ref m0, .ref c0, .ref e0, .ref q1, .long (lN vr)])), (c0, .inr (2, [.ref k1, .ref k2, .ref k3, .ref k4, .ref k5, .int (nI cc), .int (nI gc), .int (nI oc)])), (x0, .inl (cL, 1, .inr (.inl (fun c => lN (ou c)))))] [(cI, .int), (cL, .long)] sz)) (va_Qi (fun (r : Int32) (u : Unit) => r = nI 2) (fun (u : Unit) t => wq_B (dC, dI) classes [(cI, .int), (cL, .long)] (va_A [(s0, .inr (0, [.ref m0, .ref c0, .ref e0, .ref q1, .long (lN vr)])), (c0, .inr (2, [.ref k1, .ref k2, .ref k3, .ref k4, .ref k5, .int (nI cc), .int (nI gc), .int (nI oc)])), (x0, .inl (cL, 1, .inr (.inl (fun c => lN (ou c)))))] sz) [(s0, .inr (0, [.ref m0, .ref c0, .ref e0, .ref q1, .long (lN vr)])), (c0, .inr (2, [.ref k1, .ref k2, .ref k3, .ref k4, .ref k5, .int (nI cc), .int (nI gc), .int (nI oc)])), (x0, .inl (cL, 1, .inr (.inl (fun c => lN (ou c)))))] t) (va_A [(s0, .inr (0, [.ref m0, .ref c0, .ref e0, .ref q1, .long (lN vr)])), (c0, .inr (2, [.ref k1, .ref k2, .ref k3, .ref k4, .ref k5, .int (nI cc), .int (nI gc), .int (nI oc)])), (x0, .inl (cL, 1, .inr (.inl (fun c => lN (ou c)))))] sz)) 1 6 (va_A [(s0, .inr (0, [.ref m0, .ref c0, .ref e0, .ref q1, .long (lN vr)])), (c0, .inr (2, [.ref k1, .ref k2, .ref k3, .ref k4, .ref k5, .int (nI cc), .int (nI gc), .int (nI oc)])), (x0, .inl (cL, 1, .inr (.inl (fun c => lN (ou c)))))] sz) := by
  refine mt_ofWH (cc := b_L_first) (maxL := 5) (ret := (Option.some Jvm.ClassFile.FieldType.int)) (hh := [((0 : Nat), (10 : Nat), (13 : Nat), (38 : Nat)), ((0 : Nat), (10 : Nat), (17 : Nat), (13 : Nat))]) (by decide) rfl ?_
  intro pg en st mm ar bw me co s₁ B hml htab hv
  obtain ⟨rfl, ⟨hsz, hP, hK, hD0, hN⟩, hE, hZ, hC⟩ := hv
  have hx := B.exec
  have hb := B.bytes
  have hr := B.returns
  have hlocks := B.notSynchronized
  have hts0 := atoms_spec (ws := w_L_first) B.pre
  have hts : ∀ w ∈ gw, w.before _ st = true := fun w h => hts0 w (List.mem_cons_of_mem _ h)
  have hown : st.vm.findClass R_L = some mm.cls := findClass_of_methodNamed B.named
  subst hsz
  have hD := hD0.self (sz := st.heap.size)
  generalize hAe : va_A [(s0, .inr (0, [.ref m0, .ref c0, .ref e0, .ref q1, .long (lN vr)])), (c0, .inr (2, [.ref k1, .ref k2, .ref k3, .ref k4, .ref k5, .int (nI cc), .int (nI gc), .int (nI oc)])), (x0, .inl (cL, 1, .inr (.inl (fun c => lN (ou c)))))] st.heap.size = A at hD ⊢
  have hA : ∀ q : Nat, st.heap.size ≤ q → A q := fun q h => by rw [← hAe]; exact Or.inr h
  have hS : va_S A st.heap st.heap [] := va_S.rf
  have hl := lv_entry ([.ref s0, .int y1, .int (nI ff), .ref x0]) (n := 5) (Nat.le_of_ble_eq_true rfl)
  rw [lg_entry_eq]
  generalize (lg_sl ([.ref s0, .int y1, .int (nI ff), .ref x0]) ++ List.replicate (5 - (lg_sl ([.ref s0, .int y1, .int (nI ff), .ref x0])).length) Slot.unset).toArray = ls at hl ⊢
  have hl : lv_has ls 5 [(0, .ref s0), (1, .int y1), (2, .int (nI ff)), (3, .ref x0)] := hl
  refine lv_aload_n hx hb d_L_first_0 rfl (lv_at hl 3 rfl) ?_
  refine lv_iconst (v := nI 0) hx hb d_L_first_1 (by decide) ?_
  refine lv_aload_n hx hb d_L_first_2 rfl (lv_at hl 0 rfl) ?_
  refine lv_iload_n hx hb d_L_first_3 rfl (lv_at hl 1 rfl) ?_
  refine lv_iload_n hx hb d_L_first_4 rfl (lv_at hl 2 rfl) ?_
  refine xk_i (vx_runV (As := [.int y1, .int (nI ff)]) (rest := [.int (nI 0), .ref x0]) ⟨hx, hb, hml, hown, hts⟩ (x_S_firstB l dC dI cI cL hlt st.heap.size s0 m0 c0 e0 q1 vr k1 k2 k3 k4 k5 cc gc oc y1 hy ff hff hl1) (cwV 2 hts (gi_V kw_517 kw_518 kw_519 kw_1 gi_S_first) rfl rfl rfl ⟨rfl, by decide, by decide, by decide⟩ ⟨Nat.le_of_ble_eq_true rfl, Nat.le_of_ble_eq_true rfl⟩) (wq_preVX hP hK hN hE hZ [0, 1] rfl (q0 := 0) (ci := 0) rfl rfl rfl) rfl rfl hl.1 rfl (lv_room (Nat.le_of_ble_eq_true rfl)) d_L_first_5 ⟨Nat.le_of_ble_eq_true rfl, Nat.le_of_ble_eq_true rfl⟩) hA hown [⟨0, 10, 13, 38⟩] ⟨0, 10, 17, 13⟩ [] (htab.trans rfl) (fun z hz => by
      simp only [List.mem_cons, List.not_mem_nil, or_false] at hz
      rcases hz with rfl
      exact Or.inr ⟨by decide, "java/lang/IndexOutOfBoundsException", hts _ kw_361, xn_use hC xn_IA_IO⟩) rfl (by decide) (hts _ kw_206) (va_Nw.use rfl (hE.1 _ xw_IA)) (fun q9 H locs hS hkk => ?_)
  have hP := hP.kept (fun k x hx => hkk _ ((hP k x hx).lt))
  have hP : va_P (dC, dI) classes [(s0, .inr (0, [.ref m0, .ref c0, .ref e0, .ref q1, .long (lN vr)])), (c0, .inr (2, [.ref k1, .ref k2, .ref k3, .ref k4, .ref k5, .int (nI cc), .int (nI gc), .int (nI oc)])), (x0, .inl (cL, 1, .inr (.inl (fun c => lN (ou c)))))] H := hP
  have hD : va_D A [(s0, .inr (0, [.ref m0, .ref c0, .ref e0, .ref q1, .long (lN vr)])), (c0, .inr (2, [.ref k1, .ref k2, .ref k3, .ref k4, .ref k5, .int (nI cc), .int (nI gc), .int (nI oc)])), (x0, .inl (cL, 1, .inr (.inl (fun c => lN (ou c)))))] := hD
  refine lv_astore (lv' := [(4, .ref q9), (0, .ref s0), (1, .int y1), (2, .int (nI ff)), (3, .ref x0)]) hx hb d_L_first_17 hl (by decide) rfl (fun ls hl => ?_)
  refine lv_iconst (v := nI 2) hx hb d_L_first_19 (by decide) ?_
  have hP := hP.sub (ws' := [(s0, .inr (0, [.ref m0, .ref c0, .ref e0, .ref q1, .long (lN vr)])), (c0, .inr (2, [.ref k1, .ref k2, .ref k3, .ref k4, .ref k5, .int (nI cc), .int (nI gc), .int (nI oc)])), (x0, .inl (cL, 1, .inr (.inl (fun c => lN (ou c)))))]) [0, 1, 2] rfl
  have hD := hD.sub (ws' := [(s0, .inr (0, [.ref m0, .ref c0, .ref e0, .ref q1, .long (lN vr)])), (c0, .inr (2, [.ref k1, .ref k2, .ref k3, .ref k4, .ref k5, .int (nI cc), .int (nI gc), .int (nI oc)])), (x0, .inl (cL, 1, .inr (.inl (fun c => lN (ou c)))))]) [0, 1, 2] (by decide) rfl
  exact W.iret (v := nI 2) hx hb hr (fun t9 ht hW => ⟨⟨nI 2, (), rfl, rfl, by rw [ht]; exact hP, va_K.moved hW.alike hK, hD⟩, hS.F ht⟩) hS.2.2 d_L_first_20
