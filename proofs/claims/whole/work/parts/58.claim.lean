/-! what the Statement gives of the start, in the words of the walks; then the claim -/
def R_law : String := "ShiftSignaturesLaw"
abbrev gv_T : Cond := Jvm.Cond.and given_1 narrow_1
theorem gv_nw : ∀ w ∈ nw_l, w ∈ lw_tbl := by decide +kernel
theorem gv_xw : ∀ w ∈ xw_l, w ∈ lw_tbl := by decide +kernel
theorem gv_xs : ∀ q ∈ xs_l, Cond.stringRef "ShiftSignatures" q.1 q.2 ∈ lw_tbl := by decide +kernel
theorem gv_xe : ∀ q ∈ xs_l, Cond.exactly (.string "ShiftSignatures" q.1) "java/lang/String" ∈ flatC gv_T := by decide +kernel
theorem gv_xn : ∀ q ∈ xn_l, Cond.not (.castable q.1 q.2) ∈ flatC gv_T := by decide +kernel
theorem gv_z1 : Cond.laysStatic Bundle.tN "UNASSIGNED_STACK" Bundle.steD ∈ lw_tbl ∧ Cond.laysStatic Bundle.tN "SUPPRESSED_SENTINEL" Bundle.listD ∈ lw_tbl ∧ Cond.initialized Bundle.tN ∈ lw_tbl := by decide +kernel
theorem gv_z2 : Cond.isRef (.static Bundle.tN "UNASSIGNED_STACK" Bundle.steD) ∈ flatC gv_T ∧ Cond.isRef (.static Bundle.tN "SUPPRESSED_SENTINEL" Bundle.listD) ∈ flatC gv_T := by decide +kernel
theorem gv_p1 : Cond.laysStatic "ShiftSignatures$Modulus" "PRIMES" "[J" ∈ lw_tbl ∧ Cond.initialized "ShiftSignatures$Modulus" ∈ lw_tbl := by decide +kernel
theorem gv_p2 : Cond.arrayOf (.static "ShiftSignatures$Modulus" "PRIMES" "[J") .long ∈ flatC gv_T ∧ Cond.eq (.length (.static "ShiftSignatures$Modulus" "PRIMES" "[J")) (.int (Int32.ofNat 37)) ∈ flatC gv_T := by decide +kernel
theorem gv_p3 : ∀ j, j < 37 → Cond.eq (.elem (.static "ShiftSignatures$Modulus" "PRIMES" "[J") (.int (Int32.ofNat j))) (.long (lN (pr_T.getD j 0))) ∈ flatC gv_T := by decide +kernel
section ST
variable {s : State} {args : Array Value}
theorem st_nw (hts : ∀ w ∈ lw_tbl, w.before args s = true) : nw_ok s := fun w hw => va_Nw.of (nest_on (nw_nest w hw)) (hts w (gv_nw w hw))
theorem st_xe (hts : ∀ w ∈ lw_tbl, w.before args s = true) (hg : ∀ c ∈ flatC gv_T, c.before args s = true) : xe_ok s := by
  refine ⟨fun w hw => va_Nw.of (xw_on (xw_all w hw)) (hts w (gv_xw w hw)), fun q hq => ?_⟩
  obtain ⟨a, c, cA, kA, q1, -⟩ := Cond.exactly_spec (args := args) (first := s) (o := none) (s := s) (idx := []) (t := .string "ShiftSignatures" q.1) (cls := "java/lang/String") (hg _ (gv_xe q hq))
  exact ⟨a, vk_R.of (hts _ (gv_xs q hq)) q1⟩
theorem st_xz (hts : ∀ w ∈ lw_tbl, w.before args s = true) (hg : ∀ c ∈ flatC gv_T, c.before args s = true) : xz s.heap.size s s.heap :=
  ⟨vx_Zqof (hts _ gv_z1.1) (hts _ gv_z1.2.2) (hg _ gv_z2.1) (fun a h => by show ¬ s.heap.size ≤ a; omega), vx_Zqof (hts _ gv_z1.2.1) (hts _ gv_z1.2.2) (hg _ gv_z2.2) (fun a h => by show ¬ s.heap.size ≤ a; omega)⟩
theorem st_xn (hg : ∀ c ∈ flatC gv_T, c.before args s = true) : xn_ok s := fun q hq => va_Nc.of (hg _ (gv_xn q hq))
theorem st_pr (hts : ∀ w ∈ lw_tbl, w.before args s = true) (hg : ∀ c ∈ flatC gv_T, c.before args s = true) : pr_ok s.heap s := by
  obtain ⟨t, h1, h2⟩ := va_Tof (args := args) (s := s) (tm := .static "ShiftSignatures$Modulus" "PRIMES" "[J") (ty := .long) (N := 37) (f := pr_v) (A := fun _ => False) (by decide) (hg _ gv_p2.1) (va_eqt (hg _ gv_p2.2)) (fun j hj => va_eqtl (hg _ (gv_p3 j hj))) (fun _ _ => id)
  exact ⟨t, va_Zof (hts _ gv_p1.1) (hts _ gv_p1.2) h1 (fun _ _ => id), h2⟩
theorem st_arr {ty : FieldType} (h : (Cond.arrayClass ty).before args s = true) : ∃ cA, ArrOfT s cA ty ∧ s.vm.findClass ("[" ++ ty.toString) = some cA := by
  obtain ⟨c, k, comp, h1, h2, h3⟩ := Cond.arrayClass_spec (args := args) (first := s) (o := none) (s := s) (idx := []) h
  exact ⟨c, fun n z => ⟨fun k h => (by cases h), k, h2, comp, h3⟩, h1⟩
theorem st_K (hts : ∀ w ∈ gw, w.before args s = true) : ∃ (dC : Nat → ClassId) (dI : Nat → Nat → Nat) (cI cL : ClassId), va_K (dC, dI) classes [(cI, .int), (cL, .long)] s := by
  obtain ⟨c0, i0, h0⟩ := u_known hts in_S (hts _ kw_15)
  obtain ⟨c1, i1, h1⟩ := u_known hts in_M (hts _ kw_23)
  obtain ⟨c2, i2, h2⟩ := u_known hts in_C (hts _ kw_44)
  obtain ⟨c3, i3, h3⟩ := u_known hts in_D (hts _ kw_81)
  obtain ⟨c4, i4, h4⟩ := u_known hts in_O (hts _ kw_522)
  obtain ⟨cI, a1, a2⟩ := st_arr (hts _ kw_78)
  obtain ⟨cL, b1, b2⟩ := st_arr (hts _ kw_79)
  refine ⟨fun k => [c0, c1, c2, c3, c4].getD k c0, fun k => [i0, i1, i2, i3, i4].getD k i0, cI, cL, fun c q hq => ?_, fun k q hq => ?_⟩
  · rcases c with _ | _ | _ | _ | _ | c
    · cases hq; exact h0
    · cases hq; exact h1
    · cases hq; exact h2
    · cases hq; exact h3
    · cases hq; exact h4
    · cases hq
  · rcases k with _ | _ | k
    · cases hq; exact ⟨a1, a2⟩
    · cases hq; exact ⟨b1, b2⟩
    · cases hq
end ST
def lw_P (b : Addr) (xs : List Int32) (args : Array Value) (s : State) : Prop := args = #[.ref b] ∧ s.IntsAt b xs ∧ xs.length ≤ 2560 ∧ (Jvm.Cond.and given_1 narrow_1).before args s = true
def lw_Q (_ : Array Value) (s : State) (o : Outcome) (t : State) : Prop := o = .returned (some (.int 1)) ∧ Framed s o t [] 1056 9095
def lw_Z (below : List Frame) (a : Array Value) (s : State) : State → Prop := fun t => ∃ o, t.status = .running ∧ Ended t below o ∧ lw_Q a s o t
/-- the law's own end, with 1 on the stack, nothing written that was there before, its room as the claim has it -/
theorem lw_ret {p : Program} {l : Launch} {e : Env} {s : State} {m : MethodId} {below : List Frame} {meth : Method} {c : Code} {b : Nat} (hx : p.tables.exec = Jvm.exec) (hb : c.code = code) (hr : meth.sig.returnType = ret) (hlocks : meth.locks = false) {pc : Nat} {H : Heap} {ls : Array Slot} (hdg : decode code pc = .ok (.ireturn, 1)) : W p l e room_1 s m #[Value.ref b] below meth c H [] 1056 9095 (lw_Z below #[Value.ref b] s) (F0 m pc ls [.int 1]) := by
  intro T hT X
  obtain ⟨fs, hret, hrun, hended, hW, hframe⟩ := X.leave (v := some (.int 1)) (hlocks := hlocks) (fun h => by rw [hr] at h; cases h)
  have hmeth' : T.vm.method? m = some meth := X.method'
  refine ⟨T.setFrames fs, ?_, .returned (some (.int 1)), hrun, hended, rfl, ⟨_, rfl⟩, hW, hframe⟩
  jvm_step X.here [X.here.top, hx, hb, hdg, hmeth', hr, ret, narrow_b1]
  (try refine ⟨rfl, ?_⟩); (try refine ⟨rfl, ?_⟩)
  first | (intro acts; rw [hret _ acts rfl rfl rfl]) | rw [hret _ _ rfl rfl rfl]
  exact Steps.refl _
/-- what holds at the law's entry: the machine, the code, the tables' words (any of lw_tbl by 'hts w (by decide +kernel)'), the script of L ints xs at the cell b, what the Statement gives of the start (any of its parts by flat_of_before) -/
def lw_At (p : Program) (s : State) (m : MethodId) (meth : Method) (c : Code) (b L : Nat) (xs : Nat → Int32) : Prop :=
  p.tables.exec = Jvm.exec ∧ c.code = code ∧ meth.sig.returnType = ret ∧ c.maxLocals = 8 ∧ s.vm.findClass R_law = some m.cls ∧ (∀ w ∈ lw_tbl, w.before #[Value.ref b] s = true) ∧ va_X b L xs s s.heap ∧ b < s.heap.size ∧ meth.locks = false ∧ (Jvm.Cond.and given_1 narrow_1).before #[Value.ref b] s = true
/-- YOUR PART: from the entry, for every script of at most 2560 ints, the law comes to its end with true -/
theorem whole_start {p : Program} {e : Env} {s : State} {m : MethodId} {below : List Frame} {meth : Method} {c : Code} (l : Launch) {b L : Nat} {xs : Nat → Int32} (hlt : l.stackTraces = false) (hL : L ≤ 2560) (C0 : lw_At p s m meth c b L xs) : W p l e room_1 s m #[Value.ref b] below meth c s.heap [] 0 0 (lw_Z below #[Value.ref b] s) (entryFrame m ([Value.ref b] : List Value).toArray 8) := by
  obtain ⟨hx, hb, hr, hml, hown, hts, hX, hbl, hlocks, hgv⟩ := C0
  have hg := flat_of_before _ hgv
  have hg9 : ∀ w ∈ gw, w.before #[Value.ref b] s = true := fun w h => hts w (List.mem_filter.mp h).1
  obtain ⟨dC, dI, cI, cL, hK⟩ := st_K hg9
  have hl := lv_entry ([Value.ref b]) (n := 8) (Nat.le_of_ble_eq_true rfl)
  rw [lg_entry_eq]
  generalize (lg_sl ([Value.ref b]) ++ List.replicate (8 - (lg_sl ([Value.ref b])).length) Slot.unset).toArray = ls at hl ⊢
  have hl : lv_has ls 8 [(0, .ref b)] := hl
  refine law_entry (dC := dC) (dI := dI) (cI := cI) (cL := cL) (L := L) (xs := xs) ⟨hx, hb, hml, hown, hg9, hX, hbl, hK, st_nw hts, st_xe hts hg, st_xz hts hg, st_xn hg, st_pr hts hg, hlt, hL⟩ (fun H locs hS ls2 => ?_) hl
  refine lv_iconst (v := 1) hx hb d_L_law_1256 (by decide) ?_
  exact va_forget (fun q hq => hS.2.2 q hq) (lw_ret hx hb hr hlocks d_L_law_1257)
set_option maxHeartbeats 4000000 in
theorem lw_walk (l : Launch) (hlt : l.stackTraces = false) (b : Addr) (xs : List Int32) : MetFree l x (headSpec (Jvm.Cond.code x code maxLocals ret :: tables_1) room_1) (lw_P b xs) (fun _ _ _ _ _ => True) lw_Q := by
  refine MetFree.of_bodyS (code := code) (maxLocals := maxLocals) (ret := ret) (by decide) ?_ ?_
  · intro args s m h hn
    obtain ⟨meth, c, h1, h2, h3, h4, h5, h6, -, -⟩ := Cond.code_spec hn (atoms_spec (ws := Jvm.Cond.code x code maxLocals ret :: tables_1) h _ List.mem_cons_self)
    exact ⟨meth, c, h1, h2, h3, h4, h5, h6⟩
  · intro p e s m args below meth c s₁ B hml0 hP _
    obtain ⟨rfl, hx, hbd, hgv⟩ := hP
    obtain ⟨scr, harrAt, hlist, hof, hsmall⟩ := hx
    obtain ⟨hcb, hkn, -, -⟩ := State.arrayAt?_spec harrAt
    have hown : s.vm.findClass R_law = some m.cls := findClass_of_methodNamed B.named
    have hts0 : ∀ c ∈ (Jvm.Cond.code x code maxLocals ret :: tables_1), c.before #[Value.ref b] s = true := atoms_spec (ws := Jvm.Cond.code x code maxLocals ret :: tables_1) B.pre
    have hts : ∀ w ∈ lw_tbl, w.before #[Value.ref b] s = true := k2_hts_sels lw_privs (fun w hw => hts0 w (List.mem_cons_of_mem _ hw)) lw_privs_ok
    have hml : c.maxLocals = 8 := B.maxLocals_eq (hts0 _ List.mem_cons_self)
    have X₀ : Stand p l e room_1 s m #[Value.ref b] below meth c s₁ [] 0 0 := Stand.of_body B
    have hh0 : s₁.heap = s.heap := by rw [B.state]; rfl
    have hsz : scr.slots.size = xs.length := by rw [← Array.length_toList, hlist, List.length_map]
    have hval : ∀ j : Nat, j < xs.length → scr.slots[j]? = some (.int (xs.getD j 0)) := fun j hj => by
      rw [← Array.getElem?_toList, hlist]
      simp [hj]
    have hbl : b < s.heap.size := (Array.getElem?_eq_some_iff.mp hcb).1
    have hX : va_X b xs.length (fun j => xs.getD j 0) s s.heap := ⟨scr, hcb, hof, hkn, hsz, hval⟩
    have K : W p l e room_1 s m #[Value.ref b] below meth c s₁.heap [] 0 0 (lw_Z below #[Value.ref b] s) (entryFrame m ([Value.ref b] : List Value).toArray 8) := by
      rw [hh0]
      exact whole_start l hlt hbd ⟨B.exec, B.bytes, B.returns, hml, hown, hts, hX, hbl, B.notSynchronized, hgv⟩
    obtain ⟨t, a1, o, b1, b2, b3⟩ := K s₁ rfl X₀
    exact ⟨t, o, a1, b1, b2, b3⟩
theorem lw_pre_spec {args : Array Value} {s : State} (h : (Jvm.Cond.and given_1 narrow_1).before args s = true) (hr : rest_1_c.before args s = true) : ∃ (b : Addr) (xs : List Int32), lw_P b xs args s := by
  have hs := flat_of_before _ h
  have hq := flat_of_before _ hr
  have hc : (Cond.count 1).before args s = true := hs _ (by decide +kernel)
  have harr : (Cond.arrayOf (.arg 0) .int).before args s = true := hs _ (by decide +kernel)
  have hle : (Cond.le (.length (.arg 0)) (.int 2560)).before args s = true := hs _ (by decide +kernel)
  have hlen : (Cond.isInt (.length (.arg 0))).before args s = true := hq _ (by decide +kernel)
  have hall : (Cond.all (.arg 0) (.isInt (.elem (.arg 0) (.index 0)))).before args s = true := hq _ (by decide +kernel)
  obtain ⟨b, xs, hb, hx⟩ := State.ints_of_pre rfl harr hlen hall
  have hsm : xs.length < 2 ^ 31 := hx.choose_spec.2.2.2
  have hev : (Term.length (.arg 0)).eval args s none [] s = some (.int xs.length.toInt32) := hx.length_eval hb
  have hv := Cond.le_ints hev (show (Term.int 2560).eval args s none [] s = some (.int 2560) from rfl)
  have hd : xs.length.toInt32 ≤ 2560 := by
    simpa [Cond.before, Cond.holds, hv] using hle
  have hN : xs.length ≤ 2560 := (Int32.ofNat_le_ofNat hsm (by decide)).mp (show Int32.ofNat xs.length ≤ Int32.ofNat 2560 from hd)
  exact ⟨b, xs, Cond.one_arg hc (show args[0]? = some (.ref b) from hb), hx, hN, h⟩
theorem lw_comes (l : Launch) (hlt : l.stackTraces = false) : Comes l x (Jvm.Cond.code x code maxLocals ret :: tables_1) room_1 (fun tb e args s => Calls_1 tb e args s ∧ rest_1 tb e args s ∧ Pre_1 tb e args s)
    (fun _ _ args s o t => lw_Q args s o t) := by
  intro p e ha hc hk s m args below hf hfit hheap happ hpre
  obtain ⟨b, xs, hP⟩ := lw_pre_spec hpre.2.2 hpre.2.1
  obtain ⟨k, o, h1, h2, h3, hQ⟩ := lw_walk l hlt b xs p e ha hc hk s m args below hf ((Spec.applies_iff_loose hf).mp happ).1 hP trivial
  exact ⟨k, o, h1, h2, h3, hQ⟩
theorem lw_frame {s t : State} {o : Outcome} {args : Array Value} (h : Framed s o t [] 1056 9095) :
    Framed s o t (fieldLocs frame_1_writes args s ++ arrayLocs frame_1_arrays args s ++ staticLocs frame_1_statics s) 1056 9095 := h
theorem lw_limb (L : Cond) (hL : ∀ (args : Array Value) (s t : State), L.after args s (.returned (some (.int 1))) t = true) :
    ArmFor flags0 classFile x code maxLocals ret World_1 tables_1 room_1 Calls_1 rest_1 Pre_1
      (fun tb e a s o t => postC L tb e a s o t ∧ Framed s o t (fieldLocs frame_1_writes a s ++ arrayLocs frame_1_arrays a s ++ staticLocs frame_1_statics s) 1056 9095) := by
  intro l hfl _ _ p e ha hc hk s m args below hf hfit hheap happ hpre
  have hlt : l.stackTraces = false := by
    unfold Launch.stackTraces
    rw [hfl]
    decide
  obtain ⟨k, o, h1, h2, h3, rfl, hF⟩ := lw_comes l hlt p e ha hc hk s m args below hf hfit hheap happ hpre
  exact ⟨k, _, h1, h2, h3, hL args s _, lw_frame hF⟩
theorem i_vc : Claimed_1_1 ∧ Claimed_1_2 := ⟨lw_limb limb_1_1 (fun args s t => by simp [limb_1_1, Cond.after, Cond.holds, Cond.value]), lw_limb limb_1_2 (fun args s t => Cond.after_iff.mpr (by
  first | (rw [show limb_1_2 = Cond.eq .result (.int 1) from rfl, Cond.eq_ints (x := 1) (y := 1) rfl rfl]; simp; done) | (simp [limb_1_2, Cond.value, Term.eval]; done)))⟩
