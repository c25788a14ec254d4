/-! the law's own walk; laid by a program -/
def lw_C (pg : Program) (l : Launch) (st : State) (mm : MethodId) (co : Code) (b L : Nat) (xs : Nat → Int32) (dC : Nat → ClassId) (dI : Nat → Nat → Nat) (cI cL : ClassId) : Prop :=
  pg.tables.exec = Jvm.exec ∧ co.code = code ∧ co.maxLocals = 8 ∧ st.vm.findClass R_L = some mm.cls ∧ (∀ w ∈ gw, w.before #[Value.ref b] st = true) ∧ va_X b L xs st st.heap ∧ b < st.heap.size ∧ va_K (dC, dI) classes [(cI, .int), (cL, .long)] st ∧ nw_ok st ∧ xe_ok st ∧ xz st.heap.size st st.heap ∧ xn_ok st ∧ pr_ok st.heap st ∧ l.stackTraces = false ∧ L ≤ 2560
def lw_F (p n vr ir od cc gc oc : Nat) (kd lf rg ol mk : Nat → Nat) : Prop := md p n ∧ vr < 2 ^ n ∧ ck cc gc oc kd lf rg ol ∧ (∀ c, c < cc → mk c < 2 ^ n) ∧ (ir = 0 ∨ (ir = 1 ∧ ¬ px_ir p) ∨ (ir = 2 ∧ px_ir p)) ∧ (od = 0 ∨ (n ≤ 18 ∧ px_ord p od ∧ od < 2 ^ 63))
theorem xz_at {st : State} {A : Nat → Prop} {H : Heap} {locs : List Loc} (hA2 : ∀ q : Nat, A q → st.heap.size ≤ q) (h : xz st.heap.size st st.heap) (hS : va_S A st.heap H locs) : xz H.size st H := (h.kept (fun a h1 h2 => hS.2.1 a h1 (fun z => h2 (hA2 a z)))).narrow hS.1
theorem pr_at {st : State} {A : Nat → Prop} {H : Heap} {locs : List Loc} (hA2 : ∀ q : Nat, A q → st.heap.size ≤ q) (h : pr_ok st.heap st) (hS : va_S A st.heap H locs) : pr_ok H st := by
  obtain ⟨t, h1, h2⟩ := h
  exact ⟨t, h1.kept (fun a h3 _ => hS.2.1 a h3 (fun z => by have := hA2 a z; omega)), h2.kept (fun a h3 _ => hS.2.1 a h3 (fun z => by have := hA2 a z; omega))⟩
theorem in_lt (y : Int32) {K : Nat} (hK : K < 2 ^ 31) : (y < 0 ∨ ¬ y < nI K) ∨ ∃ a, a < K ∧ y = nI a := by
  by_cases h0 : y < 0
  · exact Or.inl (Or.inl h0)
  by_cases h1 : y < nI K
  · have h0' : ¬ y.toInt < 0 := fun z => h0 (by rw [Int32.lt_iff_toInt_lt, Int32.toInt_zero]; exact z)
    rw [Int32.lt_iff_toInt_lt, nI_toInt hK] at h1
    refine Or.inr ⟨y.toInt.toNat, by omega, Int32.toInt_inj.mp ?_⟩
    rw [nI_toInt (by omega)]
    omega
  · exact Or.inl (Or.inr h1)
theorem in_le (y : Int32) {K : Nat} (hK : K < 2 ^ 30) : (y < 0 ∨ ¬ y ≤ nI K) ∨ ∃ a, a ≤ K ∧ y = nI a := by
  by_cases h0 : y < 0
  · exact Or.inl (Or.inl h0)
  by_cases h1 : y ≤ nI K
  · have h0' : ¬ y.toInt < 0 := fun z => h0 (by rw [Int32.lt_iff_toInt_lt, Int32.toInt_zero]; exact z)
    rw [Int32.le_iff_toInt_le, nI_toInt (by omega)] at h1
    refine Or.inr ⟨y.toInt.toNat, by omega, Int32.toInt_inj.mp ?_⟩
    rw [nI_toInt (by omega)]
    omega
  · exact Or.inl (Or.inr h1)
theorem ck_zero {kd lf rg ol : Nat → Nat} : ck 0 0 0 kd lf rg ol := ⟨by omega, by omega, by omega, fun g h => absurd h (Nat.not_lt_zero g), fun g h => absurd h (Nat.not_lt_zero g)⟩
theorem ck_chan {cc : Nat} {kd lf rg ol : Nat → Nat} (h : cc < 8) : ck (cc + 1) 0 0 kd lf rg ol := ⟨by omega, by omega, by omega, fun g h => absurd h (Nat.not_lt_zero g), fun g h => absurd h (Nat.not_lt_zero g)⟩
theorem mk_up {cc n a : Nat} {mk : Nat → Nat} (h : ∀ c, c < cc → mk c < 2 ^ n) (ha : a < 2 ^ n) : ∀ c, c < cc + 1 → va_up mk cc a c < 2 ^ n := fun c hc => by
  by_cases e : c = cc
  · subst e
    rw [va_up_self]
    exact ha
  · rw [va_up_ne _ _ e]
    exact h c (by omega)
theorem ck_gate {cc gc oc k a b : Nat} {kd lf rg ol : Nat → Nat} (h : ck cc gc oc kd lf rg ol) (hg : gc < 24) (hk : k ≤ 5) (ha : a < cc + gc) (hb : b < cc + gc) : ck cc (gc + 1) oc (va_up kd gc k) (va_up lf gc a) (va_up rg gc b) ol := by
  obtain ⟨h1, h2, h3, h4, h5⟩ := h
  refine ⟨h1, by omega, h3, fun g hg2 => ?_, fun i hi => Nat.lt_succ_of_lt (h5 i hi)⟩
  by_cases e : g = gc
  · subst e
    rw [va_up_self, va_up_self, va_up_self]
    exact ⟨hk, ha, hb⟩
  · rw [va_up_ne _ _ e, va_up_ne _ _ e, va_up_ne _ _ e]
    exact h4 g (by omega)
theorem ck_out {cc gc oc a : Nat} {kd lf rg ol : Nat → Nat} (h : ck cc gc oc kd lf rg ol) (ho : oc < 16) (ha : a < cc + gc) : ck cc gc (oc + 1) kd lf rg (va_up ol oc a) := by
  obtain ⟨h1, h2, h3, h4, h5⟩ := h
  refine ⟨h1, h2, by omega, h4, fun i hi => ?_⟩
  by_cases e : i = oc
  · subst e
    rw [va_up_self]
    exact ha
  · rw [va_up_ne _ _ e]
    exact h5 i (by omega)
theorem fa_off {p vr cc gc oc : Nat} {mk kd lf rg ol : Nat → Nat} {f : Nat} (h : 2 * (cc + gc) ≤ f) (t : Nat) : fa p vr mk cc gc oc kd lf rg ol (some f) t = fa p vr mk cc gc oc kd lf rg ol none t := by
  unfold fa
  rw [funext (ci_beyond (cc + gc) (by omega))]
theorem fs_off {p vr cc gc oc m : Nat} {mk kd lf rg ol : Nat → Nat} : ∀ j, 2 * (cc + gc) ≤ j → fsB (fun f j => fa p vr mk cc gc oc kd lf rg ol (some f) j) (fun j => fa p vr mk cc gc oc kd lf rg ol none j) m j = false := fun j hj => decide_eq_false (fun ⟨k, _, h⟩ => h (fa_off hj k))
theorem ff_off {p n vr cc gc oc m : Nat} {mk kd lf rg ol : Nat → Nat} (hm : md p n) : ∀ j, 2 * (cc + gc) ≤ j → ffB p (fun f j => fa p vr mk cc gc oc kd lf rg ol (some f) j) (fun j => fa p vr mk cc gc oc kd lf rg ol none j) m j = false := fun j hj => decide_eq_false (fun h => h (sg_zero hm m (fun k _ => by show fa p vr mk cc gc oc kd lf rg ol (some j) k ^^^ fa p vr mk cc gc oc kd lf rg ol none k = 0; rw [fa_off hj k]; exact Nat.xor_self _)))
theorem low_join {Q : Nat → Prop} {K : Nat} {z y : Int32} (h2 : lw_p Q 0 K y) (h1 : (∃ k, k < 64 ∧ Q k ∧ (∀ j, j < k → ¬ Q j) ∧ z = nI k) ∨ ((∀ j, j < 64 → ¬ Q j) ∧ z = -1)) (hK : K ≤ 64) (hoff : ∀ j, K ≤ j → ¬ Q j) : z = y := by
  rcases h1 with ⟨k, hk, q1, q2, rfl⟩ | ⟨q1, rfl⟩ <;> rcases h2 with ⟨k2, -, hk2, r1, r2, rfl⟩ | ⟨r1, rfl⟩
  · have e : k = k2 := by
      rcases Nat.lt_trichotomy k k2 with h | h | h
      · exact absurd q1 (r2 k (Nat.zero_le k) h)
      · exact h
      · exact absurd r1 (q2 k2 h)
    rw [e]
  · by_cases h : k < K
    · exact absurd q1 (r1 k (Nat.zero_le k) h)
    · exact absurd q1 (hoff k (by omega))
  · exact absurd r1 (q1 k2 (by omega))
  · rfl
theorem first_join {X N : Nat → Nat} {m : Nat} {z y : Int32} (h1 : (∃ t, t < m ∧ X t ≠ N t ∧ (∀ j, j < t → X j = N j) ∧ z = nI t) ∨ ((∀ j, j < m → X j = N j) ∧ z = -1)) (h2 : (∃ t, t < m ∧ X t ≠ N t ∧ (∀ j, j < t → X j = N j) ∧ y = nI t) ∨ ((∀ j, j < m → X j = N j) ∧ y = -1)) : z = y := by
  rcases h1 with ⟨k, hk, q1, q2, rfl⟩ | ⟨q1, rfl⟩ <;> rcases h2 with ⟨k2, hk2, r1, r2, rfl⟩ | ⟨r1, rfl⟩
  · have e : k = k2 := by
      rcases Nat.lt_trichotomy k k2 with h | h | h
      · exact absurd (r2 k h) q1
      · exact h
      · exact absurd (q2 k2 h) r1
    rw [e]
  · exact absurd (r1 k hk) q1
  · exact absurd (q1 k2 hk2) r1
  · rfl
theorem wq_blE {D : va_G} {cl : List vw_C} {ws : va_W} {tys : List (ClassId × FieldType)} {sz : Nat} {av : List Value} : FrameBlind (va_Pc av (wq_E D cl ws tys sz)) := fun a U g mk q => by
  obtain ⟨q0, q1, qE, qZ, qC⟩ := q
  exact ⟨q0, (wq_blW (av := av) a U g mk ⟨q0, q1⟩).2, qE.same (U := U.calling g mk a) rfl, qZ.moved (u := U) (U := U.calling g mk a) (Vm.Alike.refl U.vm), qC.moved (u := U) (U := U.calling g mk a) (Vm.Alike.refl U.vm)⟩
theorem wq_preSE {s : State} {H : Heap} {D : va_G} {cl : List vw_C} {ws wc : va_W} {tys : List (ClassId × FieldType)} {A : Nat → Prop} {As : List Value} (hP : va_P D cl ws H) (hD : va_D A ws) (hK : va_K D cl tys s) (hN : nw_ok s) (hE : xe_ok s) (hZ : xz H.size s H) (hC : xn_ok s) (is : List Nat) (hnd : va_nd is = true) (hc : is.map (fun i => ws[i]?) = wc.map some) : PreS s H (va_Pc As (wq_E D cl wc tys H.size)) As := by
  have h := wq_preSW (As := As) hP hD hK hN is hnd hc
  refine ⟨wq_blE, fun U hU hW => ?_⟩
  obtain ⟨h1, h2⟩ := h.2 U hU hW
  exact ⟨h1, h2, hE.warm hW, by rw [hU]; exact hZ.moved hW.alike, hC.moved hW.alike⟩
set_option maxHeartbeats 8000000 in
set_option maxRecDepth 100000 in
theorem op_1 {pg : Program} {l : Launch} {en : Env} {st : State} {mm : MethodId} {bw : List Frame} {me : Method} {co : Code} {Q : State → Prop} {b L : Nat} {xs : Nat → Int32} {dC : Nat → ClassId} {dI : Nat → Nat → Nat} {cI cL : ClassId} (C0 : lw_C pg l st mm co b L xs dC dI cI cL) {s0 m0 c0 e0 q1 k1 k2 k3 k4 k5 e1 o0 g1 g2 g3 g4 g5 g6 g7 g8 x0 : Nat} {A : Nat → Prop} (hA : ∀ q : Nat, st.heap.size ≤ q → A q) (hA2 : ∀ q : Nat, A q → st.heap.size ≤ q) {i cells slots : Nat} (hi : i + 5 ≤ L) (hce : cells + 1 ≤ room_1.cells) (hsl : slots + 6 ≤ room_1.slots) (cont : ∀ (fl p n vr ir od cc gc oc sn : Nat) (kd lf rg ol mk vv ln pa an rr ou : Nat → Nat), lw_F p n vr ir od cc gc oc kd lf rg ol mk → ∀ (H : Heap) (locs : List Loc), va_P (dC, dI) classes [(s0, .inr (0, [.ref m0, .ref c0, .ref e0, .ref q1, .long (lN vr)])), (m0, .inr (1, [.long (lN p), .int (nI n), .long (lN (px_r p 2))])), (c0, .inr (2, [.ref k1, .ref k2, .ref k3, .ref k4, .ref k5, .int (nI cc), .int (nI gc), .int (nI oc)])), (k1, .inl (cI, 24, .inl (fun c => nI (kd c)))), (k2, .inl (cI, 24, .inl (fun c => nI (lf c)))), (k3, .inl (cI, 24, .inl (fun c => nI (rg c)))), (k4, .inl (cI, 16, .inl (fun c => nI (ol c)))), (k5, .inl (cL, 32, .inr (.inl (fun c => lN (vv c))))), (q1, .inl (cL, 8, .inr (.inl (fun c => lN (mk c))))), (e0, .inr (3, [.ref e1, .long (lN sn)])), (e1, .inl (cL, 33, .inr (.inl (fun c => lN (rr c))))), (o0, .inr (4, [.int (nI fl), .long (lN p), .int (nI n), .long (lN vr), .int (nI ir), .long (lN od), .int (nI cc), .ref g1, .int (nI gc), .ref g2, .ref g3, .ref g4, .int (nI oc), .ref g5, .ref g6, .ref g7, .ref g8])), (g1, .inl (cL, 8, .inr (.inl (fun c => lN (mk c))))), (g2, .inl (cI, 24, .inl (fun c => nI (kd c)))), (g3, .inl (cI, 24, .inl (fun c => nI (lf c)))), (g4, .inl (cI, 24, .inl (fun c => nI (rg c)))), (g5, .inl (cI, 16, .inl (fun c => nI (ol c)))), (g6, .inl (cI, 32, .inl (fun c => nI (ln c)))), (g7, .inl (cI, 256, .inl (fun c => nI (pa c)))), (g8, .inl (cI, 256, .inl (fun c => nI (an c)))), (x0, .inl (cL, 1, .inr (.inl (fun c => lN (ou c)))))] H → va_D A [(s0, .inr (0, [.ref m0, .ref c0, .ref e0, .ref q1, .long (lN vr)])), (m0, .inr (1, [.long (lN p), .int (nI n), .long (lN (px_r p 2))])), (c0, .inr (2, [.ref k1, .ref k2, .ref k3, .ref k4, .ref k5, .int (nI cc), .int (nI gc), .int (nI oc)])), (k1, .inl (cI, 24, .inl (fun c => nI (kd c)))), (k2, .inl (cI, 24, .inl (fun c => nI (lf c)))), (k3, .inl (cI, 24, .inl (fun c => nI (rg c)))), (k4, .inl (cI, 16, .inl (fun c => nI (ol c)))), (k5, .inl (cL, 32, .inr (.inl (fun c => lN (vv c))))), (q1, .inl (cL, 8, .inr (.inl (fun c => lN (mk c))))), (e0, .inr (3, [.ref e1, .long (lN sn)])), (e1, .inl (cL, 33, .inr (.inl (fun c => lN (rr c))))), (o0, .inr (4, [.int (nI fl), .long (lN p), .int (nI n), .long (lN vr), .int (nI ir), .long (lN od), .int (nI cc), .ref g1, .int (nI gc), .ref g2, .ref g3, .ref g4, .int (nI oc), .ref g5, .ref g6, .ref g7, .ref g8])), (g1, .inl (cL, 8, .inr (.inl (fun c => lN (mk c))))), (g2, .inl (cI, 24, .inl (fun c => nI (kd c)))), (g3, .inl (cI, 24, .inl (fun c => nI (lf c)))), (g4, .inl (cI, 24, .inl (fun c => nI (rg c)))), (g5, .inl (cI, 16, .inl (fun c => nI (ol c)))), (g6, .inl (cI, 32, .inl (fun c => nI (ln c)))), (g7, .inl (cI, 256, .inl (fun c => nI (pa c)))), (g8, .inl (cI, 256, .inl (fun c => nI (an c)))), (x0, .inl (cL, 1, .inr (.inl (fun c => lN (ou c)))))] → va_S A st.heap H locs → ∀ (ls : Array Slot), lv_has ls 8 [(0, .ref b), (1, .ref s0), (2, .ref o0), (3, .ref x0), (4, .int (nI i))] → W pg l en room_1 st mm #[Value.ref b] bw me co H locs (cells + 1) (slots + 6) Q (F0 mm 1250 ls [])) : ∀ (fl p n vr ir od cc gc oc sn : Nat) (kd lf rg ol mk vv ln pa an rr ou : Nat → Nat), lw_F p n vr ir od cc gc oc kd lf rg ol mk → ∀ (H : Heap) (locs : List Loc), va_P (dC, dI) classes [(s0, .inr (0, [.ref m0, .ref c0, .ref e0, .ref q1, .long (lN vr)])), (m0, .inr (1, [.long (lN p), .int (nI n), .long (lN (px_r p 2))])), (c0, .inr (2, [.ref k1, .ref k2, .ref k3, .ref k4, .ref k5, .int (nI cc), .int (nI gc), .int (nI oc)])), (k1, .inl (cI, 24, .inl (fun c => nI (kd c)))), (k2, .inl (cI, 24, .inl (fun c => nI (lf c)))), (k3, .inl (cI, 24, .inl (fun c => nI (rg c)))), (k4, .inl (cI, 16, .inl (fun c => nI (ol c)))), (k5, .inl (cL, 32, .inr (.inl (fun c => lN (vv c))))), (q1, .inl (cL, 8, .inr (.inl (fun c => lN (mk c))))), (e0, .inr (3, [.ref e1, .long (lN sn)])), (e1, .inl (cL, 33, .inr (.inl (fun c => lN (rr c))))), (o0, .inr (4, [.int (nI fl), .long (lN p), .int (nI n), .long (lN vr), .int (nI ir), .long (lN od), .int (nI cc), .ref g1, .int (nI gc), .ref g2, .ref g3, .ref g4, .int (nI oc), .ref g5, .ref g6, .ref g7, .ref g8])), (g1, .inl (cL, 8, .inr (.inl (fun c => lN (mk c))))), (g2, .inl (cI, 24, .inl (fun c => nI (kd c)))), (g3, .inl (cI, 24, .inl (fun c => nI (lf c)))), (g4, .inl (cI, 24, .inl (fun c => nI (rg c)))), (g5, .inl (cI, 16, .inl (fun c => nI (ol c)))), (g6, .inl (cI, 32, .inl (fun c => nI (ln c)))), (g7, .inl (cI, 256, .inl (fun c => nI (pa c)))), (g8, .inl (cI, 256, .inl (fun c => nI (an c)))), (x0, .inl (cL, 1, .inr (.inl (fun c => lN (ou c)))))] H → va_D A [(s0, .inr (0, [.ref m0, .ref c0, .ref e0, .ref q1, .long (lN vr)])), (m0, .inr (1, [.long (lN p), .int (nI n), .long (lN (px_r p 2))])), (c0, .inr (2, [.ref k1, .ref k2, .ref k3, .ref k4, .ref k5, .int (nI cc), .int (nI gc), .int (nI oc)])), (k1, .inl (cI, 24, .inl (fun c => nI (kd c)))), (k2, .inl (cI, 24, .inl (fun c => nI (lf c)))), (k3, .inl (cI, 24, .inl (fun c => nI (rg c)))), (k4, .inl (cI, 16, .inl (fun c => nI (ol c)))), (k5, .inl (cL, 32, .inr (.inl (fun c => lN (vv c))))), (q1, .inl (cL, 8, .inr (.inl (fun c => lN (mk c))))), (e0, .inr (3, [.ref e1, .long (lN sn)])), (e1, .inl (cL, 33, .inr (.inl (fun c => lN (rr c))))), (o0, .inr (4, [.int (nI fl), .long (lN p), .int (nI n), .long (lN vr), .int (nI ir), .long (lN od), .int (nI cc), .ref g1, .int (nI gc), .ref g2, .ref g3, .ref g4, .int (nI oc), .ref g5, .ref g6, .ref g7, .ref g8])), (g1, .inl (cL, 8, .inr (.inl (fun c => lN (mk c))))), (g2, .inl (cI, 24, .inl (fun c => nI (kd c)))), (g3, .inl (cI, 24, .inl (fun c => nI (lf c)))), (g4, .inl (cI, 24, .inl (fun c => nI (rg c)))), (g5, .inl (cI, 16, .inl (fun c => nI (ol c)))), (g6, .inl (cI, 32, .inl (fun c => nI (ln c)))), (g7, .inl (cI, 256, .inl (fun c => nI (pa c)))), (g8, .inl (cI, 256, .inl (fun c => nI (an c)))), (x0, .inl (cL, 1, .inr (.inl (fun c => lN (ou c)))))] → va_S A st.heap H locs → ∀ (ls : Array Slot), lv_has ls 8 [(0, .ref b), (1, .ref s0), (2, .ref o0), (3, .ref x0), (4, .int (nI i))] → W pg l en room_1 st mm #[Value.ref b] bw me co H locs cells slots Q (F0 mm 208 ls []) := by
  obtain ⟨hx, hb, hml, hown, hts, hX, hbl, hK, hN, hE, hZ, hC, hPr, hlt, hL⟩ := C0
  intro fl p n vr ir od cc gc oc sn kd lf rg ol mk vv ln pa an rr ou hF H locs hP hD hS ls hl
  obtain ⟨hm, hvr, hk, hmk, hir, hod⟩ := hF
  have hn1 := hm.1
  have hn2 := hm.2.1
  have hk1 := hk.1
  have hk2 := hk.2.1
  have hk3 := hk.2.2.1
  have hp32 := md_n hm
  have hl1 : cc + gc < 2 ^ 31 := by omega
  have hl2 : 2 * (cc + gc) < 2 ^ 31 := by omega
  have hv64 : vr < 2 ^ 64 := by omega
  have hmk64 : ∀ c, c < cc → mk c < 2 ^ 64 := fun c hc => by have := hmk c hc; omega
  have hmk32 : ∀ c, c < cc → mk c < 2 ^ 32 := fun c hc => by have := hmk c hc; omega
  have hbA : ¬ A b := fun z => by have := hA2 b z; omega
  obtain ⟨a, ha64, hae⟩ := wb_of ((xs (i + 1)).toInt64 <<< ((nI 32).toInt64 &&& 63) ||| ((xs (i + 2)).toInt64 &&& 4294967295))
  obtain ⟨c2, hc264, hc2e⟩ := wb_of ((xs (i + 3)).toInt64 <<< ((nI 32).toInt64 &&& 63) ||| ((xs (i + 4)).toInt64 &&& 4294967295))
  by_cases ha : a < 2 ^ n
  · by_cases hc : c2 < 2 ^ n
    · refine lv_aload_n hx hb d_L_law_208 rfl (lv_at hl 1 rfl) ?_
      refine lv_aload_n hx hb d_L_law_209 rfl (lv_at hl 0 rfl) ?_
      refine lv_iload hx hb d_L_law_210 (lv_at hl 4 rfl) ?_
      refine lv_iconst (v := nI 1) hx hb d_L_law_212 (by decide) ?_
      refine lv_iadd hx hb d_L_law_213 ?_
      refine lv_topi (nm_r (show _ = nI (i + 1) from nI_add i 1) ?_)
      refine va_sld (A := A) hx hb hX hbl hbA hS (vp_in_nI (by omega) (by omega)) d_L_law_214 ?_
      refine lv_topi (nm_r (show _ = xs (i + 1) from congrArg xs (nI_clamp (by omega))) ?_)
      refine lv_i2l (v := (xs (i + 1)).toInt64) hx hb d_L_law_215 (rfl) ?_
      refine lv_bipush (v := nI 32) hx hb d_L_law_216 (by decide) ?_
      refine lv_lshl (v := ((xs (i + 1)).toInt64) <<< ((nI 32).toInt64 &&& 63)) hx hb d_L_law_218 (rfl) ?_
      refine lv_aload_n hx hb d_L_law_219 rfl (lv_at hl 0 rfl) ?_
      refine lv_iload hx hb d_L_law_220 (lv_at hl 4 rfl) ?_
      refine lv_iconst (v := nI 2) hx hb d_L_law_222 (by decide) ?_
      refine lv_iadd hx hb d_L_law_223 ?_
      refine lv_topi (nm_r (show _ = nI (i + 2) from nI_add i 2) ?_)
      refine va_sld (A := A) hx hb hX hbl hbA hS (vp_in_nI (by omega) (by omega)) d_L_law_224 ?_
      refine lv_topi (nm_r (show _ = xs (i + 2) from congrArg xs (nI_clamp (by omega))) ?_)
      refine lv_i2l (v := (xs (i + 2)).toInt64) hx hb d_L_law_225 (rfl) ?_
      refine lv_ldc2 (v := 4294967295) hx hb hown (hts _ kw_723) d_L_law_226 ?_
      refine lv_land hx hb d_L_law_229 ?_
      refine lv_lor hx hb d_L_law_230 ?_
      refine lv_topl (nm_r (show _ = lN a from hae) ?_)
      refine lv_aload_n hx hb d_L_law_231 rfl (lv_at hl 0 rfl) ?_
      refine lv_iload hx hb d_L_law_232 (lv_at hl 4 rfl) ?_
      refine lv_iconst (v := nI 3) hx hb d_L_law_234 (by decide) ?_
      refine lv_iadd hx hb d_L_law_235 ?_
      refine lv_topi (nm_r (show _ = nI (i + 3) from nI_add i 3) ?_)
      refine va_sld (A := A) hx hb hX hbl hbA hS (vp_in_nI (by omega) (by omega)) d_L_law_236 ?_
      refine lv_topi (nm_r (show _ = xs (i + 3) from congrArg xs (nI_clamp (by omega))) ?_)
      refine lv_i2l (v := (xs (i + 3)).toInt64) hx hb d_L_law_237 (rfl) ?_
      refine lv_bipush (v := nI 32) hx hb d_L_law_238 (by decide) ?_
      refine lv_lshl (v := ((xs (i + 3)).toInt64) <<< ((nI 32).toInt64 &&& 63)) hx hb d_L_law_240 (rfl) ?_
      refine lv_aload_n hx hb d_L_law_241 rfl (lv_at hl 0 rfl) ?_
      refine lv_iload hx hb d_L_law_242 (lv_at hl 4 rfl) ?_
      refine lv_iconst (v := nI 4) hx hb d_L_law_244 (by decide) ?_
      refine lv_iadd hx hb d_L_law_245 ?_
      refine lv_topi (nm_r (show _ = nI (i + 4) from nI_add i 4) ?_)
      refine va_sld (A := A) hx hb hX hbl hbA hS (vp_in_nI (by omega) (by omega)) d_L_law_246 ?_
      refine lv_topi (nm_r (show _ = xs (i + 4) from congrArg xs (nI_clamp (by omega))) ?_)
      refine lv_i2l (v := (xs (i + 4)).toInt64) hx hb d_L_law_247 (rfl) ?_
      refine lv_ldc2 (v := 4294967295) hx hb hown (hts _ kw_723) d_L_law_248 ?_
      refine lv_land hx hb d_L_law_251 ?_
      refine lv_lor hx hb d_L_law_252 ?_
      refine lv_topl (nm_r (show _ = lN c2 from hc2e) ?_)
      refine lv_aload_n hx hb d_L_law_253 rfl (lv_at hl 3 rfl) ?_
      refine wq_i (wr := [(c0, .inr (2, [.ref k1, .ref k2, .ref k3, .ref k4, .ref k5, .int (nI cc), .int (nI gc), .int (nI oc)])), (k1, .inl (cI, 24, .inl (fun c => nI (kd c)))), (k2, .inl (cI, 24, .inl (fun c => nI (lf c)))), (k3, .inl (cI, 24, .inl (fun c => nI (rg c)))), (k4, .inl (cI, 16, .inl (fun c => nI (ol c)))), (k5, .inl (cL, 32, .inr (.inl (fun c => lN (vv c))))), (q1, .inl (cL, 8, .inr (.inl (fun c => lN (mk c))))), (e0, .inr (3, [.ref e1, .long (lN sn)])), (e1, .inl (cL, 33, .inr (.inl (fun c => lN (rr c))))), (o0, .inr (4, [.int (nI fl), .long (lN p), .int (nI n), .long (lN vr), .int (nI ir), .long (lN od), .int (nI cc), .ref g1, .int (nI gc), .ref g2, .ref g3, .ref g4, .int (nI oc), .ref g5, .ref g6, .ref g7, .ref g8])), (g1, .inl (cL, 8, .inr (.inl (fun c => lN (mk c))))), (g2, .inl (cI, 24, .inl (fun c => nI (kd c)))), (g3, .inl (cI, 24, .inl (fun c => nI (lf c)))), (g4, .inl (cI, 24, .inl (fun c => nI (rg c)))), (g5, .inl (cI, 16, .inl (fun c => nI (ol c)))), (g6, .inl (cI, 32, .inl (fun c => nI (ln c)))), (g7, .inl (cI, 256, .inl (fun c => nI (pa c)))), (g8, .inl (cI, 256, .inl (fun c => nI (an c))))]) (vx_runSW (As := [.ref s0, .long (lN a), .long (lN c2), .ref x0]) (rest := []) ⟨hx, hb, hml, hown, hts⟩ (c_L_timesY l dC dI cI cL H.size s0 m0 c0 e0 q1 vr p n hm a c2 ha hc x0 ou) (vx_cwSW 4 hts (gi_S kw_290 kw_291 kw_0 gi_L_times) rfl rfl rfl ⟨by decide, by decide, by decide⟩ ⟨Nat.le_of_ble_eq_true rfl, Nat.le_of_ble_eq_true rfl⟩) (wq_preSW hP hD hK hN [0, 1, 20] rfl rfl) rfl rfl hl.1 rfl (lv_room (Nat.le_of_ble_eq_true rfl)) d_L_law_254 ⟨Nat.le_of_succ_le hce, Nat.le_trans (Nat.le_add_right _ 6) hsl⟩) hP hD hS hA [0, 1, 20] [2, 3, 4, 5, 6, 7, 8, 9, 10, 11, 12, 13, 14, 15, 16, 17, 18, 19] rfl rfl rfl (by decide) (fun r u H locs hq hP hD hS hz => ?_)
      have hP : va_P (dC, dI) classes [(c0, .inr (2, [.ref k1, .ref k2, .ref k3, .ref k4, .ref k5, .int (nI cc), .int (nI gc), .int (nI oc)])), (k1, .inl (cI, 24, .inl (fun c => nI (kd c)))), (k2, .inl (cI, 24, .inl (fun c => nI (lf c)))), (k3, .inl (cI, 24, .inl (fun c => nI (rg c)))), (k4, .inl (cI, 16, .inl (fun c => nI (ol c)))), (k5, .inl (cL, 32, .inr (.inl (fun c => lN (vv c))))), (q1, .inl (cL, 8, .inr (.inl (fun c => lN (mk c))))), (e0, .inr (3, [.ref e1, .long (lN sn)])), (e1, .inl (cL, 33, .inr (.inl (fun c => lN (rr c))))), (o0, .inr (4, [.int (nI fl), .long (lN p), .int (nI n), .long (lN vr), .int (nI ir), .long (lN od), .int (nI cc), .ref g1, .int (nI gc), .ref g2, .ref g3, .ref g4, .int (nI oc), .ref g5, .ref g6, .ref g7, .ref g8])), (g1, .inl (cL, 8, .inr (.inl (fun c => lN (mk c))))), (g2, .inl (cI, 24, .inl (fun c => nI (kd c)))), (g3, .inl (cI, 24, .inl (fun c => nI (lf c)))), (g4, .inl (cI, 24, .inl (fun c => nI (rg c)))), (g5, .inl (cI, 16, .inl (fun c => nI (ol c)))), (g6, .inl (cI, 32, .inl (fun c => nI (ln c)))), (g7, .inl (cI, 256, .inl (fun c => nI (pa c)))), (g8, .inl (cI, 256, .inl (fun c => nI (an c)))), (s0, .inr (0, [.ref m0, .ref c0, .ref e0, .ref q1, .long (lN vr)])), (m0, .inr (1, [.long (lN p), .int (nI n), .long (lN (px_r p 2))])), (x0, .inl (cL, 1, .inr (.inl (fun c => lN ((va_up ou 0 (px_r p (px_m a c2))) c)))))] H := hP
      have hD : va_D A [(c0, .inr (2, [.ref k1, .ref k2, .ref k3, .ref k4, .ref k5, .int (nI cc), .int (nI gc), .int (nI oc)])), (k1, .inl (cI, 24, .inl (fun c => nI (kd c)))), (k2, .inl (cI, 24, .inl (fun c => nI (lf c)))), (k3, .inl (cI, 24, .inl (fun c => nI (rg c)))), (k4, .inl (cI, 16, .inl (fun c => nI (ol c)))), (k5, .inl (cL, 32, .inr (.inl (fun c => lN (vv c))))), (q1, .inl (cL, 8, .inr (.inl (fun c => lN (mk c))))), (e0, .inr (3, [.ref e1, .long (lN sn)])), (e1, .inl (cL, 33, .inr (.inl (fun c => lN (rr c))))), (o0, .inr (4, [.int (nI fl), .long (lN p), .int (nI n), .long (lN vr), .int (nI ir), .long (lN od), .int (nI cc), .ref g1, .int (nI gc), .ref g2, .ref g3, .ref g4, .int (nI oc), .ref g5, .ref g6, .ref g7, .ref g8])), (g1, .inl (cL, 8, .inr (.inl (fun c => lN (mk c))))), (g2, .inl (cI, 24, .inl (fun c => nI (kd c)))), (g3, .inl (cI, 24, .inl (fun c => nI (lf c)))), (g4, .inl (cI, 24, .inl (fun c => nI (rg c)))), (g5, .inl (cI, 16, .inl (fun c => nI (ol c)))), (g6, .inl (cI, 32, .inl (fun c => nI (ln c)))), (g7, .inl (cI, 256, .inl (fun c => nI (pa c)))), (g8, .inl (cI, 256, .inl (fun c => nI (an c)))), (s0, .inr (0, [.ref m0, .ref c0, .ref e0, .ref q1, .long (lN vr)])), (m0, .inr (1, [.long (lN p), .int (nI n), .long (lN (px_r p 2))])), (x0, .inl (cL, 1, .inr (.inl (fun c => lN ((va_up ou 0 (px_r p (px_m a c2))) c)))))] := hD
      subst hq
      refine lv_istore (lv' := [(5, .int (nI 0)), (0, .ref b), (1, .ref s0), (2, .ref o0), (3, .ref x0), (4, .int (nI i))]) hx hb d_L_law_257 hl (by decide) rfl (fun ls hl => ?_)
      refine lv_aload_n hx hb d_L_law_259 rfl (lv_at hl 3 rfl) ?_
      refine lv_aload_n hx hb d_L_law_260 rfl (lv_at hl 1 rfl) ?_
      refine lv_iload hx hb d_L_law_261 (lv_at hl 5 rfl) ?_
      refine lv_iconst (v := nI 1) hx hb d_L_law_263 (by decide) ?_
      refine lv_iadd hx hb d_L_law_264 ?_
      refine lv_topi (nm_r (show _ = nI (i + 1) from nI_add i 1) ?_)
      refine va_sld (A := A) hx hb hX hbl hbA hS (vp_in_nI (by omega) (by omega)) d_L_law_265 ?_
      refine lv_topi (nm_r (show _ = xs (i + 1) from congrArg xs (nI_clamp (by omega))) ?_)
      refine lv_i2l (v := (xs (i + 1)).toInt64) hx hb d_L_law_266 (rfl) ?_
      refine lv_bipush (v := nI 32) hx hb d_L_law_267 (by decide) ?_
      refine lv_lshl (v := ((xs (i + 1)).toInt64) <<< ((nI 32).toInt64 &&& 63)) hx hb d_L_law_269 (rfl) ?_
      refine lv_aload_n hx hb d_L_law_270 rfl (lv_at hl 1 rfl) ?_
      refine lv_iload hx hb d_L_law_271 (lv_at hl 5 rfl) ?_
      refine lv_iconst (v := nI 2) hx hb d_L_law_273 (by decide) ?_
      refine lv_iadd hx hb d_L_law_274 ?_
      refine lv_topi (nm_r (show _ = nI (i + 2) from nI_add i 2) ?_)
      refine va_sld (A := A) hx hb hX hbl hbA hS (vp_in_nI (by omega) (by omega)) d_L_law_275 ?_
      refine lv_topi (nm_r (show _ = xs (i + 2) from congrArg xs (nI_clamp (by omega))) ?_)
      refine lv_i2l (v := (xs (i + 2)).toInt64) hx hb d_L_law_276 (rfl) ?_
      refine lv_ldc2 (v := 4294967295) hx hb hown (hts _ kw_723) d_L_law_277 ?_
      refine lv_land hx hb d_L_law_280 ?_
      refine lv_lor hx hb d_L_law_281 ?_
      refine lv_topl (nm_r (show _ = lN a from hae) ?_)
      refine lv_aload_n hx hb d_L_law_282 rfl (lv_at hl 1 rfl) ?_
      refine lv_iload hx hb d_L_law_283 (lv_at hl 5 rfl) ?_
      refine lv_iconst (v := nI 3) hx hb d_L_law_285 (by decide) ?_
      refine lv_iadd hx hb d_L_law_286 ?_
      refine lv_topi (nm_r (show _ = nI (i + 3) from nI_add i 3) ?_)
      refine va_sld (A := A) hx hb hX hbl hbA hS (vp_in_nI (by omega) (by omega)) d_L_law_287 ?_
      refine lv_topi (nm_r (show _ = xs (i + 3) from congrArg xs (nI_clamp (by omega))) ?_)
      refine lv_i2l (v := (xs (i + 3)).toInt64) hx hb d_L_law_288 (rfl) ?_
      refine lv_bipush (v := nI 32) hx hb d_L_law_289 (by decide) ?_
      refine lv_lshl (v := ((xs (i + 3)).toInt64) <<< ((nI 32).toInt64 &&& 63)) hx hb d_L_law_291 (rfl) ?_
      refine lv_aload_n hx hb d_L_law_292 rfl (lv_at hl 1 rfl) ?_
      refine lv_iload hx hb d_L_law_293 (lv_at hl 5 rfl) ?_
      refine lv_iconst (v := nI 4) hx hb d_L_law_295 (by decide) ?_
      refine lv_iadd hx hb d_L_law_296 ?_
      refine lv_topi (nm_r (show _ = nI (i + 4) from nI_add i 4) ?_)
      refine va_sld (A := A) hx hb hX hbl hbA hS (vp_in_nI (by omega) (by omega)) d_L_law_297 ?_
      refine lv_topi (nm_r (show _ = xs (i + 4) from congrArg xs (nI_clamp (by omega))) ?_)
      refine lv_i2l (v := (xs (i + 4)).toInt64) hx hb d_L_law_298 (rfl) ?_
      refine lv_ldc2 (v := 4294967295) hx hb hown (hts _ kw_723) d_L_law_299 ?_
      refine lv_land hx hb d_L_law_302 ?_
      refine lv_lor hx hb d_L_law_303 ?_
      refine lv_topl (nm_r (show _ = lN c2 from hc2e) ?_)
      refine wq_l (wr := [(c0, .inr (2, [.ref k1, .ref k2, .ref k3, .ref k4, .ref k5, .int (nI cc), .int (nI gc), .int (nI oc)])), (k1, .inl (cI, 24, .inl (fun c => nI (kd c)))), (k2, .inl (cI, 24, .inl (fun c => nI (lf c)))), (k3, .inl (cI, 24, .inl (fun c => nI (rg c)))), (k4, .inl (cI, 16, .inl (fun c => nI (ol c)))), (k5, .inl (cL, 32, .inr (.inl (fun c => lN (vv c))))), (q1, .inl (cL, 8, .inr (.inl (fun c => lN (mk c))))), (e0, .inr (3, [.ref e1, .long (lN sn)])), (e1, .inl (cL, 33, .inr (.inl (fun c => lN (rr c))))), (g1, .inl (cL, 8, .inr (.inl (fun c => lN (mk c))))), (g2, .inl (cI, 24, .inl (fun c => nI (kd c)))), (g3, .inl (cI, 24, .inl (fun c => nI (lf c)))), (g4, .inl (cI, 24, .inl (fun c => nI (rg c)))), (g5, .inl (cI, 16, .inl (fun c => nI (ol c)))), (g6, .inl (cI, 32, .inl (fun c => nI (ln c)))), (g7, .inl (cI, 256, .inl (fun c => nI (pa c)))), (g8, .inl (cI, 256, .inl (fun c => nI (an c)))), (s0, .inr (0, [.ref m0, .ref c0, .ref e0, .ref q1, .long (lN vr)])), (m0, .inr (1, [.long (lN p), .int (nI n), .long (lN (px_r p 2))])), (x0, .inl (cL, 1, .inr (.inl (fun c => lN ((va_up ou 0 (px_r p (px_m a c2))) c)))))]) (va_runV (As := [.long (lN a), .long (lN c2)]) (rest := []) ⟨hx, hb, hml, hown, hts⟩ (c_O_timesY l dC dI cI cL H.size o0 g1 g2 g3 g4 g5 g6 g7 g8 fl p n vr ir od cc gc oc hm a c2 ha hc) (cwV 2 hts (gi_V kw_596 kw_597 kw_598 kw_5 gi_O_times) rfl rfl rfl ⟨rfl, by decide, by decide, by decide⟩ ⟨Nat.le_of_ble_eq_true rfl, Nat.le_of_ble_eq_true rfl⟩) (wq_preVW hP hD hK hN [9] rfl rfl (q0 := 9) (ci := 4) rfl rfl rfl) rfl rfl hl.1 rfl (lv_room (Nat.le_of_ble_eq_true rfl)) d_L_law_304 ⟨Nat.le_of_succ_le hce, Nat.le_trans (Nat.le_add_right _ 6) hsl⟩) hP hD hS hA [9] [0, 1, 2, 3, 4, 5, 6, 7, 8, 10, 11, 12, 13, 14, 15, 16, 17, 18, 19, 20] rfl rfl rfl (by decide) (fun r2 u2 H locs hq2 hP hD hS hz => ?_)
      have hP : va_P (dC, dI) classes [(c0, .inr (2, [.ref k1, .ref k2, .ref k3, .ref k4, .ref k5, .int (nI cc), .int (nI gc), .int (nI oc)])), (k1, .inl (cI, 24, .inl (fun c => nI (kd c)))), (k2, .inl (cI, 24, .inl (fun c => nI (lf c)))), (k3, .inl (cI, 24, .inl (fun c => nI (rg c)))), (k4, .inl (cI, 16, .inl (fun c => nI (ol c)))), (k5, .inl (cL, 32, .inr (.inl (fun c => lN (vv c))))), (q1, .inl (cL, 8, .inr (.inl (fun c => lN (mk c))))), (e0, .inr (3, [.ref e1, .long (lN sn)])), (e1, .inl (cL, 33, .inr (.inl (fun c => lN (rr c))))), (g1, .inl (cL, 8, .inr (.inl (fun c => lN (mk c))))), (g2, .inl (cI, 24, .inl (fun c => nI (kd c)))), (g3, .inl (cI, 24, .inl (fun c => nI (lf c)))), (g4, .inl (cI, 24, .inl (fun c => nI (rg c)))), (g5, .inl (cI, 16, .inl (fun c => nI (ol c)))), (g6, .inl (cI, 32, .inl (fun c => nI (ln c)))), (g7, .inl (cI, 256, .inl (fun c => nI (pa c)))), (g8, .inl (cI, 256, .inl (fun c => nI (an c)))), (s0, .inr (0, [.ref m0, .ref c0, .ref e0, .ref q1, .long (lN vr)])), (m0, .inr (1, [.long (lN p), .int (nI n), .long (lN (px_r p 2))])), (x0, .inl (cL, 1, .inr (.inl (fun c => lN ((va_up ou 0 (px_r p (px_m a c2))) c))))), (o0, .inr (4, [.int (nI 0), .long (lN p), .int (nI n), .long (lN vr), .int (nI ir), .long (lN od), .int (nI cc), .ref g1, .int (nI gc), .ref g2, .ref g3, .ref g4, .int (nI oc), .ref g5, .ref g6, .ref g7, .ref g8]))] H := hP
      have hD : va_D A [(c0, .inr (2, [.ref k1, .ref k2, .ref k3, .ref k4, .ref k5, .int (nI cc), .int (nI gc), .int (nI oc)])), (k1, .inl (cI, 24, .inl (fun c => nI (kd c)))), (k2, .inl (cI, 24, .inl (fun c => nI (lf c)))), (k3, .inl (cI, 24, .inl (fun c => nI (rg c)))), (k4, .inl (cI, 16, .inl (fun c => nI (ol c)))), (k5, .inl (cL, 32, .inr (.inl (fun c => lN (vv c))))), (q1, .inl (cL, 8, .inr (.inl (fun c => lN (mk c))))), (e0, .inr (3, [.ref e1, .long (lN sn)])), (e1, .inl (cL, 33, .inr (.inl (fun c => lN (rr c))))), (g1, .inl (cL, 8, .inr (.inl (fun c => lN (mk c))))), (g2, .inl (cI, 24, .inl (fun c => nI (kd c)))), (g3, .inl (cI, 24, .inl (fun c => nI (lf c)))), (g4, .inl (cI, 24, .inl (fun c => nI (rg c)))), (g5, .inl (cI, 16, .inl (fun c => nI (ol c)))), (g6, .inl (cI, 32, .inl (fun c => nI (ln c)))), (g7, .inl (cI, 256, .inl (fun c => nI (pa c)))), (g8, .inl (cI, 256, .inl (fun c => nI (an c)))), (s0, .inr (0, [.ref m0, .ref c0, .ref e0, .ref q1, .long (lN vr)])), (m0, .inr (1, [.long (lN p), .int (nI n), .long (lN (px_r p 2))])), (x0, .inl (cL, 1, .inr (.inl (fun c => lN ((va_up ou 0 (px_r p (px_m a c2))) c))))), (o0, .inr (4, [.int (nI 0), .long (lN p), .int (nI n), .long (lN vr), .int (nI ir), .long (lN od), .int (nI cc), .ref g1, .int (nI gc), .ref g2, .ref g3, .ref g4, .int (nI oc), .ref g5, .ref g6, .ref g7, .ref g8]))] := hD
      subst hq2
      refine lv_lstore (lv' := [(6, .long (lN (px_r p (px_m a c2)))), (5, .int (nI 0)), (0, .ref b), (1, .ref s0), (2, .ref o0), (3, .ref x0), (4, .int (nI i))]) hx hb d_L_law_307 hl (by decide) rfl (fun ls hl => ?_)
      refine lv_aload_n hx hb d_L_law_309 rfl (lv_at hl 4 rfl) ?_
      refine vp_callSi (va_Run.run (va_runV (As := []) (rest := []) ⟨hx, hb, hml, hown, hts⟩ (c_O_thrown l dC dI cI cL o0 g1 g2 g3 g4 g5 g6 g7 g8 0 p n vr ir od cc gc oc) (cwV 0 hts (gi_V kw_580 kw_581 kw_582 kw_5 gi_O_thrown) rfl rfl rfl ⟨rfl, by decide, by decide, by decide⟩ ⟨Nat.le_of_ble_eq_true rfl, Nat.le_of_ble_eq_true rfl⟩) (wq_preVR hP hK hN [20] rfl (q0 := 20) (ci := 4) rfl rfl rfl) rfl rfl hl.1 rfl (lv_room (Nat.le_of_ble_eq_true rfl)) d_L_law_310 ⟨Nat.le_of_succ_le hce, Nat.le_trans (Nat.le_add_right _ 6) hsl⟩)) (fun rth hth => ?_)
      subst hth
      refine lv_iload hx hb d_L_law_313 (lv_at hl 1 rfl) ?_
      refine lv_icmp_eq (tgt := 320) hx hb d_L_law_315 (by decide) (fun _ => ?_) (fun hc => absurd hc (fun z => z rfl))
      refine lv_iload hx hb d_L_law_320 (lv_at hl 1 rfl) ?_
      refine lv_if_ne (tgt := 336) hx hb d_L_law_322 (by decide) (fun hc => absurd hc (fun z => z rfl)) (fun _ => ?_)
      refine lv_aload_n hx hb d_L_law_325 rfl (lv_at hl 5 rfl) ?_
      refine lv_iconst (v := nI 0) hx hb d_L_law_326 (by decide) ?_
      refine va_lald (D := (dC, dI)) hx hb hK hP 19 1 rfl rfl (vp_in_nI (by decide) (by decide)) d_L_law_327 ?_
      refine lv_topl (nm_r (show _ = lN ((va_up ou 0 (px_r p (px_m a c2))) 0) from congrArg (fun c => lN ((va_up ou 0 (px_r p (px_m a c2))) c)) (nI_clamp (by decide))) ?_)
      refine lv_topl (nm_r (show _ = lN (px_r p (px_m a c2)) from by rw [va_up_self]) ?_)
      refine lv_lload hx hb d_L_law_328 (lv_at hl 0 rfl) ?_
      refine W.lcmp hx hb d_L_law_330 ?_
      refine lv_if_eq (tgt := 336) hx hb d_L_law_331 (by decide) (fun _ => ?_) (fun hc => absurd hc (fun z => z ((lg_cmp_eq _ _).mpr rfl)))
      refine lv_goto (tgt := 1250) hx hb d_L_law_336 (by decide) ?_
      have hl := lv_sub (l' := [(0, .ref b), (1, .ref s0), (2, .ref o0), (3, .ref x0), (4, .int (nI i))]) hl [2, 3, 4, 5, 6] rfl
      have hP := hP.sub (ws' := [(s0, .inr (0, [.ref m0, .ref c0, .ref e0, .ref q1, .long (lN vr)])), (m0, .inr (1, [.long (lN p), .int (nI n), .long (lN (px_r p 2))])), (c0, .inr (2, [.ref k1, .ref k2, .ref k3, .ref k4, .ref k5, .int (nI cc), .int (nI gc), .int (nI oc)])), (k1, .inl (cI, 24, .inl (fun c => nI (kd c)))), (k2, .inl (cI, 24, .inl (fun c => nI (lf c)))), (k3, .inl (cI, 24, .inl (fun c => nI (rg c)))), (k4, .inl (cI, 16, .inl (fun c => nI (ol c)))), (k5, .inl (cL, 32, .inr (.inl (fun c => lN (vv c))))), (q1, .inl (cL, 8, .inr (.inl (fun c => lN (mk c))))), (e0, .inr (3, [.ref e1, .long (lN sn)])), (e1, .inl (cL, 33, .inr (.inl (fun c => lN (rr c))))), (o0, .inr (4, [.int (nI 0), .long (lN p), .int (nI n), .long (lN vr), .int (nI ir), .long (lN od), .int (nI cc), .ref g1, .int (nI gc), .ref g2, .ref g3, .ref g4, .int (nI oc), .ref g5, .ref g6, .ref g7, .ref g8])), (g1, .inl (cL, 8, .inr (.inl (fun c => lN (mk c))))), (g2, .inl (cI, 24, .inl (fun c => nI (kd c)))), (g3, .inl (cI, 24, .inl (fun c => nI (lf c)))), (g4, .inl (cI, 24, .inl (fun c => nI (rg c)))), (g5, .inl (cI, 16, .inl (fun c => nI (ol c)))), (g6, .inl (cI, 32, .inl (fun c => nI (ln c)))), (g7, .inl (cI, 256, .inl (fun c => nI (pa c)))), (g8, .inl (cI, 256, .inl (fun c => nI (an c)))), (x0, .inl (cL, 1, .inr (.inl (fun c => lN ((va_up ou 0 (px_r p (px_m a c2))) c)))))]) [17, 18, 0, 1, 2, 3, 4, 5, 6, 7, 8, 20, 9, 10, 11, 12, 13, 14, 15, 16, 19] rfl
      have hD := hD.sub (ws' := [(s0, .inr (0, [.ref m0, .ref c0, .ref e0, .ref q1, .long (lN vr)])), (m0, .inr (1, [.long (lN p), .int (nI n), .long (lN (px_r p 2))])), (c0, .inr (2, [.ref k1, .ref k2, .ref k3, .ref k4, .ref k5, .int (nI cc), .int (nI gc), .int (nI oc)])), (k1, .inl (cI, 24, .inl (fun c => nI (kd c)))), (k2, .inl (cI, 24, .inl (fun c => nI (lf c)))), (k3, .inl (cI, 24, .inl (fun c => nI (rg c)))), (k4, .inl (cI, 16, .inl (fun c => nI (ol c)))), (k5, .inl (cL, 32, .inr (.inl (fun c => lN (vv c))))), (q1, .inl (cL, 8, .inr (.inl (fun c => lN (mk c))))), (e0, .inr (3, [.ref e1, .long (lN sn)])), (e1, .inl (cL, 33, .inr (.inl (fun c => lN (rr c))))), (o0, .inr (4, [.int (nI 0), .long (lN p), .int (nI n), .long (lN vr), .int (nI ir), .long (lN od), .int (nI cc), .ref g1, .int (nI gc), .ref g2, .ref g3, .ref g4, .int (nI oc), .ref g5, .ref g6, .ref g7, .ref g8])), (g1, .inl (cL, 8, .inr (.inl (fun c => lN (mk c))))), (g2, .inl (cI, 24, .inl (fun c => nI (kd c)))), (g3, .inl (cI, 24, .inl (fun c => nI (lf c)))), (g4, .inl (cI, 24, .inl (fun c => nI (rg c)))), (g5, .inl (cI, 16, .inl (fun c => nI (ol c)))), (g6, .inl (cI, 32, .inl (fun c => nI (ln c)))), (g7, .inl (cI, 256, .inl (fun c => nI (pa c)))), (g8, .inl (cI, 256, .inl (fun c => nI (an c)))), (x0, .inl (cL, 1, .inr (.inl (fun c => lN ((va_up ou 0 (px_r p (px_m a c2))) c)))))]) [17, 18, 0, 1, 2, 3, 4, 5, 6, 7, 8, 20, 9, 10, 11, 12, 13, 14, 15, 16, 19] (by decide) rfl
      refine W.widen (k := cells + 1) (n := slots + 6) (Nat.le_succ _) (Nat.le_add_right _ 6) ?_
      exact cont 0 p n vr ir od cc gc oc sn kd lf rg ol mk vv ln pa an rr (va_up ou 0 (px_r p (px_m a c2))) ⟨hm, hvr, hk, hmk, hir, hod⟩ H locs hP hD hS ls hl
    · refine lv_aload_n hx hb d_L_law_208 rfl (lv_at hl 1 rfl) ?_
      refine lv_aload_n hx hb d_L_law_209 rfl (lv_at hl 0 rfl) ?_
      refine lv_iload hx hb d_L_law_210 (lv_at hl 4 rfl) ?_
      refine lv_iconst (v := nI 1) hx hb d_L_law_212 (by decide) ?_
      refine lv_iadd hx hb d_L_law_213 ?_
      refine lv_topi (nm_r (show _ = nI (i + 1) from nI_add i 1) ?_)
      refine va_sld (A := A) hx hb hX hbl hbA hS (vp_in_nI (by omega) (by omega)) d_L_law_214 ?_
      refine lv_topi (nm_r (show _ = xs (i + 1) from congrArg xs (nI_clamp (by omega))) ?_)
      refine lv_i2l (v := (xs (i + 1)).toInt64) hx hb d_L_law_215 (rfl) ?_
      refine lv_bipush (v := nI 32) hx hb d_L_law_216 (by decide) ?_
      refine lv_lshl (v := ((xs (i + 1)).toInt64) <<< ((nI 32).toInt64 &&& 63)) hx hb d_L_law_218 (rfl) ?_
      refine lv_aload_n hx hb d_L_law_219 rfl (lv_at hl 0 rfl) ?_
      refine lv_iload hx hb d_L_law_220 (lv_at hl 4 rfl) ?_
      refine lv_iconst (v := nI 2) hx hb d_L_law_222 (by decide) ?_
      refine lv_iadd hx hb d_L_law_223 ?_
      refine lv_topi (nm_r (show _ = nI (i + 2) from nI_add i 2) ?_)
      refine va_sld (A := A) hx hb hX hbl hbA hS (vp_in_nI (by omega) (by omega)) d_L_law_224 ?_
      refine lv_topi (nm_r (show _ = xs (i + 2) from congrArg xs (nI_clamp (by omega))) ?_)
      refine lv_i2l (v := (xs (i + 2)).toInt64) hx hb d_L_law_225 (rfl) ?_
      refine lv_ldc2 (v := 4294967295) hx hb hown (hts _ kw_723) d_L_law_226 ?_
      refine lv_land hx hb d_L_law_229 ?_
      refine lv_lor hx hb d_L_law_230 ?_
      refine lv_topl (nm_r (show _ = lN a from hae) ?_)
      refine lv_aload_n hx hb d_L_law_231 rfl (lv_at hl 0 rfl) ?_
      refine lv_iload hx hb d_L_law_232 (lv_at hl 4 rfl) ?_
      refine lv_iconst (v := nI 3) hx hb d_L_law_234 (by decide) ?_
      refine lv_iadd hx hb d_L_law_235 ?_
      refine lv_topi (nm_r (show _ = nI (i + 3) from nI_add i 3) ?_)
      refine va_sld (A := A) hx hb hX hbl hbA hS (vp_in_nI (by omega) (by omega)) d_L_law_236 ?_
      refine lv_topi (nm_r (show _ = xs (i + 3) from congrArg xs (nI_clamp (by omega))) ?_)
      refine lv_i2l (v := (xs (i + 3)).toInt64) hx hb d_L_law_237 (rfl) ?_
      refine lv_bipush (v := nI 32) hx hb d_L_law_238 (by decide) ?_
      refine lv_lshl (v := ((xs (i + 3)).toInt64) <<< ((nI 32).toInt64 &&& 63)) hx hb d_L_law_240 (rfl) ?_
      refine lv_aload_n hx hb d_L_law_241 rfl (lv_at hl 0 rfl) ?_
      refine lv_iload hx hb d_L_law_242 (lv_at hl 4 rfl) ?_
      refine lv_iconst (v := nI 4) hx hb d_L_law_244 (by decide) ?_
      refine lv_iadd hx hb d_L_law_245 ?_
      refine lv_topi (nm_r (show _ = nI (i + 4) from nI_add i 4) ?_)
      refine va_sld (A := A) hx hb hX hbl hbA hS (vp_in_nI (by omega) (by omega)) d_L_law_246 ?_
      refine lv_topi (nm_r (show _ = xs (i + 4) from congrArg xs (nI_clamp (by omega))) ?_)
      refine lv_i2l (v := (xs (i + 4)).toInt64) hx hb d_L_law_247 (rfl) ?_
      refine lv_ldc2 (v := 4294967295) hx hb hown (hts _ kw_723) d_L_law_248 ?_
      refine lv_land hx hb d_L_law_251 ?_
      refine lv_lor hx hb d_L_law_252 ?_
      refine lv_topl (nm_r (show _ = lN c2 from hc2e) ?_)
      refine lv_aload_n hx hb d_L_law_253 rfl (lv_at hl 3 rfl) ?_
      have hZH := xz_at hA2 hZ hS
      refine wq_i (wr := [(c0, .inr (2, [.ref k1, .ref k2, .ref k3, .ref k4, .ref k5, .int (nI cc), .int (nI gc), .int (nI oc)])), (k1, .inl (cI, 24, .inl (fun c => nI (kd c)))), (k2, .inl (cI, 24, .inl (fun c => nI (lf c)))), (k3, .inl (cI, 24, .inl (fun c => nI (rg c)))), (k4, .inl (cI, 16, .inl (fun c => nI (ol c)))), (k5, .inl (cL, 32, .inr (.inl (fun c => lN (vv c))))), (q1, .inl (cL, 8, .inr (.inl (fun c => lN (mk c))))), (e0, .inr (3, [.ref e1, .long (lN sn)])), (e1, .inl (cL, 33, .inr (.inl (fun c => lN (rr c))))), (o0, .inr (4, [.int (nI fl), .long (lN p), .int (nI n), .long (lN vr), .int (nI ir), .long (lN od), .int (nI cc), .ref g1, .int (nI gc), .ref g2, .ref g3, .ref g4, .int (nI oc), .ref g5, .ref g6, .ref g7, .ref g8])), (g1, .inl (cL, 8, .inr (.inl (fun c => lN (mk c))))), (g2, .inl (cI, 24, .inl (fun c => nI (kd c)))), (g3, .inl (cI, 24, .inl (fun c => nI (lf c)))), (g4, .inl (cI, 24, .inl (fun c => nI (rg c)))), (g5, .inl (cI, 16, .inl (fun c => nI (ol c)))), (g6, .inl (cI, 32, .inl (fun c => nI (ln c)))), (g7, .inl (cI, 256, .inl (fun c => nI (pa c)))), (g8, .inl (cI, 256, .inl (fun c => nI (an c))))]) (vx_runSW (As := [.ref s0, .long (lN a), .long (lN c2), .ref x0]) (rest := []) ⟨hx, hb, hml, hown, hts⟩ (c_L_timesXB l dC dI cI cL hlt H.size s0 m0 c0 e0 q1 vr p n hm a c2 ha hc264 hc x0 ou) (vx_cwSW 4 hts (gi_S kw_290 kw_291 kw_0 gi_L_times) rfl rfl rfl ⟨by decide, by decide, by decide⟩ ⟨Nat.le_of_ble_eq_true rfl, Nat.le_of_ble_eq_true rfl⟩) (wq_preSE hP hD hK hN hE hZH hC [0, 1, 20] rfl rfl) rfl rfl hl.1 rfl (lv_room (Nat.le_of_ble_eq_true rfl)) d_L_law_254 ⟨hce, hsl⟩) hP hD hS hA [0, 1, 20] [2, 3, 4, 5, 6, 7, 8, 9, 10, 11, 12, 13, 14, 15, 16, 17, 18, 19] rfl rfl rfl (by decide) (fun r u H locs hq hP hD hS hz => ?_)
      have hP : va_P (dC, dI) classes [(c0, .inr (2, [.ref k1, .ref k2, .ref k3, .ref k4, .ref k5, .int (nI cc), .int (nI gc), .int (nI oc)])), (k1, .inl (cI, 24, .inl (fun c => nI (kd c)))), (k2, .inl (cI, 24, .inl (fun c => nI (lf c)))), (k3, .inl (cI, 24, .inl (fun c => nI (rg c)))), (k4, .inl (cI, 16, .inl (fun c => nI (ol c)))), (k5, .inl (cL, 32, .inr (.inl (fun c => lN (vv c))))), (q1, .inl (cL, 8, .inr (.inl (fun c => lN (mk c))))), (e0, .inr (3, [.ref e1, .long (lN sn)])), (e1, .inl (cL, 33, .inr (.inl (fun c => lN (rr c))))), (o0, .inr (4, [.int (nI fl), .long (lN p), .int (nI n), .long (lN vr), .int (nI ir), .long (lN od), .int (nI cc), .ref g1, .int (nI gc), .ref g2, .ref g3, .ref g4, .int (nI oc), .ref g5, .ref g6, .ref g7, .ref g8])), (g1, .inl (cL, 8, .inr (.inl (fun c => lN (mk c))))), (g2, .inl (cI, 24, .inl (fun c => nI (kd c)))), (g3, .inl (cI, 24, .inl (fun c => nI (lf c)))), (g4, .inl (cI, 24, .inl (fun c => nI (rg c)))), (g5, .inl (cI, 16, .inl (fun c => nI (ol c)))), (g6, .inl (cI, 32, .inl (fun c => nI (ln c)))), (g7, .inl (cI, 256, .inl (fun c => nI (pa c)))), (g8, .inl (cI, 256, .inl (fun c => nI (an c)))), (s0, .inr (0, [.ref m0, .ref c0, .ref e0, .ref q1, .long (lN vr)])), (m0, .inr (1, [.long (lN p), .int (nI n), .long (lN (px_r p 2))])), (x0, .inl (cL, 1, .inr (.inl (fun c => lN (ou c)))))] H := hP
      have hD : va_D A [(c0, .inr (2, [.ref k1, .ref k2, .ref k3, .ref k4, .ref k5, .int (nI cc), .int (nI gc), .int (nI oc)])), (k1, .inl (cI, 24, .inl (fun c => nI (kd c)))), (k2, .inl (cI, 24, .inl (fun c => nI (lf c)))), (k3, .inl (cI, 24, .inl (fun c => nI (rg c)))), (k4, .inl (cI, 16, .inl (fun c => nI (ol c)))), (k5, .inl (cL, 32, .inr (.inl (fun c => lN (vv c))))), (q1, .inl (cL, 8, .inr (.inl (fun c => lN (mk c))))), (e0, .inr (3, [.ref e1, .long (lN sn)])), (e1, .inl (cL, 33, .inr (.inl (fun c => lN (rr c))))), (o0, .inr (4, [.int (nI fl), .long (lN p), .int (nI n), .long (lN vr), .int (nI ir), .long (lN od), .int (nI cc), .ref g1, .int (nI gc), .ref g2, .ref g3, .ref g4, .int (nI oc), .ref g5, .ref g6, .ref g7, .ref g8])), (g1, .inl (cL, 8, .inr (.inl (fun c => lN (mk c))))), (g2, .inl (cI, 24, .inl (fun c => nI (kd c)))), (g3, .inl (cI, 24, .inl (fun c => nI (lf c)))), (g4, .inl (cI, 24, .inl (fun c => nI (rg c)))), (g5, .inl (cI, 16, .inl (fun c => nI (ol c)))), (g6, .inl (cI, 32, .inl (fun c => nI (ln c)))), (g7, .inl (cI, 256, .inl (fun c => nI (pa c)))), (g8, .inl (cI, 256, .inl (fun c => nI (an c)))), (s0, .inr (0, [.ref m0, .ref c0, .ref e0, .ref q1, .long (lN vr)])), (m0, .inr (1, [.long (lN p), .int (nI n), .long (lN (px_r p 2))])), (x0, .inl (cL, 1, .inr (.inl (fun c => lN (ou c)))))] := hD
      subst hq
      refine lv_istore (lv' := [(5, .int (nI 1)), (0, .ref b), (1, .ref s0), (2, .ref o0), (3, .ref x0), (4, .int (nI i))]) hx hb d_L_law_257 hl (by decide) rfl (fun ls hl => ?_)
      refine lv_aload_n hx hb d_L_law_259 rfl (lv_at hl 3 rfl) ?_
      refine lv_aload_n hx hb d_L_law_260 rfl (lv_at hl 1 rfl) ?_
      refine lv_iload hx hb d_L_law_261 (lv_at hl 5 rfl) ?_
      refine lv_iconst (v := nI 1) hx hb d_L_law_263 (by decide) ?_
      refine lv_iadd hx hb d_L_law_264 ?_
      refine lv_topi (nm_r (show _ = nI (i + 1) from nI_add i 1) ?_)
      refine va_sld (A := A) hx hb hX hbl hbA hS (vp_in_nI (by omega) (by omega)) d_L_law_265 ?_
      refine lv_topi (nm_r (show _ = xs (i + 1) from congrArg xs (nI_clamp (by omega))) ?_)
      refine lv_i2l (v := (xs (i + 1)).toInt64) hx hb d_L_law_266 (rfl) ?_
      refine lv_bipush (v := nI 32) hx hb d_L_law_267 (by decide) ?_
      refine lv_lshl (v := ((xs (i + 1)).toInt64) <<< ((nI 32).toInt64 &&& 63)) hx hb d_L_law_269 (rfl) ?_
      refine lv_aload_n hx hb d_L_law_270 rfl (lv_at hl 1 rfl) ?_
      refine lv_iload hx hb d_L_law_271 (lv_at hl 5 rfl) ?_
      refine lv_iconst (v := nI 2) hx hb d_L_law_273 (by decide) ?_
      refine lv_iadd hx hb d_L_law_274 ?_
      refine lv_topi (nm_r (show _ = nI (i + 2) from nI_add i 2) ?_)
      refine va_sld (A := A) hx hb hX hbl hbA hS (vp_in_nI (by omega) (by omega)) d_L_law_275 ?_
      refine lv_topi (nm_r (show _ = xs (i + 2) from congrArg xs (nI_clamp (by omega))) ?_)
      refine lv_i2l (v := (xs (i + 2)).toInt64) hx hb d_L_law_276 (rfl) ?_
      refine lv_ldc2 (v := 4294967295) hx hb hown (hts _ kw_723) d_L_law_277 ?_
      refine lv_land hx hb d_L_law_280 ?_
      refine lv_lor hx hb d_L_law_281 ?_
      refine lv_topl (nm_r (show _ = lN a from hae) ?_)
      refine lv_aload_n hx hb d_L_law_282 rfl (lv_at hl 1 rfl) ?_
      refine lv_iload hx hb d_L_law_283 (lv_at hl 5 rfl) ?_
      refine lv_iconst (v := nI 3) hx hb d_L_law_285 (by decide) ?_
      refine lv_iadd hx hb d_L_law_286 ?_
      refine lv_topi (nm_r (show _ = nI (i + 3) from nI_add i 3) ?_)
      refine va_sld (A := A) hx hb hX hbl hbA hS (vp_in_nI (by omega) (by omega)) d_L_law_287 ?_
      refine lv_topi (nm_r (show _ = xs (i + 3) from congrArg xs (nI_clamp (by omega))) ?_)
      refine lv_i2l (v := (xs (i + 3)).toInt64) hx hb d_L_law_288 (rfl) ?_
      refine lv_bipush (v := nI 32) hx hb d_L_law_289 (by decide) ?_
      refine lv_lshl (v := ((xs (i + 3)).toInt64) <<< ((nI 32).toInt64 &&& 63)) hx hb d_L_law_291 (rfl) ?_
      refine lv_aload_n hx hb d_L_law_292 rfl (lv_at hl 1 rfl) ?_
      refine lv_iload hx hb d_L_law_293 (lv_at hl 5 rfl) ?_
      refine lv_iconst (v := nI 4) hx hb d_L_law_295 (by decide) ?_
      refine lv_iadd hx hb d_L_law_296 ?_
      refine lv_topi (nm_r (show _ = nI (i + 4) from nI_add i 4) ?_)
      refine va_sld (A := A) hx hb hX hbl hbA hS (vp_in_nI (by omega) (by omega)) d_L_law_297 ?_
      refine lv_topi (nm_r (show _ = xs (i + 4) from congrArg xs (nI_clamp (by omega))) ?_)
      refine lv_i2l (v := (xs (i + 4)).toInt64) hx hb d_L_law_298 (rfl) ?_
      refine lv_ldc2 (v := 4294967295) hx hb hown (hts _ kw_723) d_L_law_299 ?_
      refine lv_land hx hb d_L_law_302 ?_
      refine lv_lor hx hb d_L_law_303 ?_
      refine lv_topl (nm_r (show _ = lN c2 from hc2e) ?_)
      refine wq_l (wr := [(c0, .inr (2, [.ref k1, .ref k2, .ref k3, .ref k4, .ref k5, .int (nI cc), .int (nI gc), .int (nI oc)])), (k1, .inl (cI, 24, .inl (fun c => nI (kd c)))), (k2, .inl (cI, 24, .inl (fun c => nI (lf c)))), (k3, .inl (cI, 24, .inl (fun c => nI (rg c)))), (k4, .inl (cI, 16, .inl (fun c => nI (ol c)))), (k5, .inl (cL, 32, .inr (.inl (fun c => lN (vv c))))), (q1, .inl (cL, 8, .inr (.inl (fun c => lN (mk c))))), (e0, .inr (3, [.ref e1, .long (lN sn)])), (e1, .inl (cL, 33, .inr (.inl (fun c => lN (rr c))))), (g1, .inl (cL, 8, .inr (.inl (fun c => lN (mk c))))), (g2, .inl (cI, 24, .inl (fun c => nI (kd c)))), (g3, .inl (cI, 24, .inl (fun c => nI (lf c)))), (g4, .inl (cI, 24, .inl (fun c => nI (rg c)))), (g5, .inl (cI, 16, .inl (fun c => nI (ol c)))), (g6, .inl (cI, 32, .inl (fun c => nI (ln c)))), (g7, .inl (cI, 256, .inl (fun c => nI (pa c)))), (g8, .inl (cI, 256, .inl (fun c => nI (an c)))), (s0, .inr (0, [.ref m0, .ref c0, .ref e0, .ref q1, .long (lN vr)])), (m0, .inr (1, [.long (lN p), .int (nI n), .long (lN (px_r p 2))])), (x0, .inl (cL, 1, .inr (.inl (fun c => lN (ou c)))))]) (va_runV (As := [.long (lN a), .long (lN c2)]) (rest := []) ⟨hx, hb, hml, hown, hts⟩ (c_O_timesN l dC dI cI cL H.size o0 g1 g2 g3 g4 g5 g6 g7 g8 fl p n vr ir od cc gc oc hm a c2 ha64 hc264 (fun z => hc z.2)) (cwV 2 hts (gi_V kw_596 kw_597 kw_598 kw_5 gi_O_times) rfl rfl rfl ⟨rfl, by decide, by decide, by decide⟩ ⟨Nat.le_of_ble_eq_true rfl, Nat.le_of_ble_eq_true rfl⟩) (wq_preVW hP hD hK hN [9] rfl rfl (q0 := 9) (ci := 4) rfl rfl rfl) rfl rfl hl.1 rfl (lv_room (Nat.le_of_ble_eq_true rfl)) d_L_law_304 ⟨hce, hsl⟩) hP hD hS hA [9] [0, 1, 2, 3, 4, 5, 6, 7, 8, 10, 11, 12, 13, 14, 15, 16, 17, 18, 19, 20] rfl rfl rfl (by decide) (fun r2 u2 H locs hq2 hP hD hS hz => ?_)
      have hP : va_P (dC, dI) classes [(c0, .inr (2, [.ref k1, .ref k2, .ref k3, .ref k4, .ref k5, .int (nI cc), .int (nI gc), .int (nI oc)])), (k1, .inl (cI, 24, .inl (fun c => nI (kd c)))), (k2, .inl (cI, 24, .inl (fun c => nI (lf c)))), (k3, .inl (cI, 24, .inl (fun c => nI (rg c)))), (k4, .inl (cI, 16, .inl (fun c => nI (ol c)))), (k5, .inl (cL, 32, .inr (.inl (fun c => lN (vv c))))), (q1, .inl (cL, 8, .inr (.inl (fun c => lN (mk c))))), (e0, .inr (3, [.ref e1, .long (lN sn)])), (e1, .inl (cL, 33, .inr (.inl (fun c => lN (rr c))))), (g1, .inl (cL, 8, .inr (.inl (fun c => lN (mk c))))), (g2, .inl (cI, 24, .inl (fun c => nI (kd c)))), (g3, .inl (cI, 24, .inl (fun c => nI (lf c)))), (g4, .inl (cI, 24, .inl (fun c => nI (rg c)))), (g5, .inl (cI, 16, .inl (fun c => nI (ol c)))), (g6, .inl (cI, 32, .inl (fun c => nI (ln c)))), (g7, .inl (cI, 256, .inl (fun c => nI (pa c)))), (g8, .inl (cI, 256, .inl (fun c => nI (an c)))), (s0, .inr (0, [.ref m0, .ref c0, .ref e0, .ref q1, .long (lN vr)])), (m0, .inr (1, [.long (lN p), .int (nI n), .long (lN (px_r p 2))])), (x0, .inl (cL, 1, .inr (.inl (fun c => lN (ou c))))), (o0, .inr (4, [.int (nI 1), .long (lN p), .int (nI n), .long (lN vr), .int (nI ir), .long (lN od), .int (nI cc), .ref g1, .int (nI gc), .ref g2, .ref g3, .ref g4, .int (nI oc), .ref g5, .ref g6, .ref g7, .ref g8]))] H := hP
      have hD : va_D A [(c0, .inr (2, [.ref k1, .ref k2, .ref k3, .ref k4, .ref k5, .int (nI cc), .int (nI gc), .int (nI oc)])), (k1, .inl (cI, 24, .inl (fun c => nI (kd c)))), (k2, .inl (cI, 24, .inl (fun c => nI (lf c)))), (k3, .inl (cI, 24, .inl (fun c => nI (rg c)))), (k4, .inl (cI, 16, .inl (fun c => nI (ol c)))), (k5, .inl (cL, 32, .inr (.inl (fun c => lN (vv c))))), (q1, .inl (cL, 8, .inr (.inl (fun c => lN (mk c))))), (e0, .inr (3, [.ref e1, .long (lN sn)])), (e1, .inl (cL, 33, .inr (.inl (fun c => lN (rr c))))), (g1, .inl (cL, 8, .inr (.inl (fun c => lN (mk c))))), (g2, .inl (cI, 24, .inl (fun c => nI (kd c)))), (g3, .inl (cI, 24, .inl (fun c => nI (lf c)))), (g4, .inl (cI, 24, .inl (fun c => nI (rg c)))), (g5, .inl (cI, 16, .inl (fun c => nI (ol c)))), (g6, .inl (cI, 32, .inl (fun c => nI (ln c)))), (g7, .inl (cI, 256, .inl (fun c => nI (pa c)))), (g8, .inl (cI, 256, .inl (fun c => nI (an c)))), (s0, .inr (0, [.ref m0, .ref c0, .ref e0, .ref q1, .long (lN vr)])), (m0, .inr (1, [.long (lN p), .int (nI n), .long (lN (px_r p 2))])), (x0, .inl (cL, 1, .inr (.inl (fun c => lN (ou c))))), (o0, .inr (4, [.int (nI 1), .long (lN p), .int (nI n), .long (lN vr), .int (nI ir), .long (lN od), .int (nI cc), .ref g1, .int (nI gc), .ref g2, .ref g3, .ref g4, .int (nI oc), .ref g5, .ref g6, .ref g7, .ref g8]))] := hD
      subst hq2
      refine lv_lstore (lv' := [(6, .long (lN 0)), (5, .int (nI 1)), (0, .ref b), (1, .ref s0), (2, .ref o0), (3, .ref x0), (4, .int (nI i))]) hx hb d_L_law_307 hl (by decide) rfl (fun ls hl => ?_)
      refine lv_aload_n hx hb d_L_law_309 rfl (lv_at hl 4 rfl) ?_
      refine vp_callSi (va_Run.run (va_runV (As := []) (rest := []) ⟨hx, hb, hml, hown, hts⟩ (c_O_thrown l dC dI cI cL o0 g1 g2 g3 g4 g5 g6 g7 g8 1 p n vr ir od cc gc oc) (cwV 0 hts (gi_V kw_580 kw_581 kw_582 kw_5 gi_O_thrown) rfl rfl rfl ⟨rfl, by decide, by decide, by decide⟩ ⟨Nat.le_of_ble_eq_true rfl, Nat.le_of_ble_eq_true rfl⟩) (wq_preVR hP hK hN [20] rfl (q0 := 20) (ci := 4) rfl rfl rfl) rfl rfl hl.1 rfl (lv_room (Nat.le_of_ble_eq_true rfl)) d_L_law_310 ⟨hce, hsl⟩)) (fun rth hth => ?_)
      subst hth
      refine lv_iload hx hb d_L_law_313 (lv_at hl 1 rfl) ?_
      refine lv_icmp_eq (tgt := 320) hx hb d_L_law_315 (by decide) (fun _ => ?_) (fun hc => absurd hc (fun z => z rfl))
      refine lv_iload hx hb d_L_law_320 (lv_at hl 1 rfl) ?_
      refine lv_if_ne (tgt := 336) hx hb d_L_law_322 (by decide) (fun _ => ?_) (fun hc => absurd hc (show ¬ nI 1 = 0 from by decide))
      refine lv_goto (tgt := 1250) hx hb d_L_law_336 (by decide) ?_
      have hl := lv_sub (l' := [(0, .ref b), (1, .ref s0), (2, .ref o0), (3, .ref x0), (4, .int (nI i))]) hl [2, 3, 4, 5, 6] rfl
      have hP := hP.sub (ws' := [(s0, .inr (0, [.ref m0, .ref c0, .ref e0, .ref q1, .long (lN vr)])), (m0, .inr (1, [.long (lN p), .int (nI n), .long (lN (px_r p 2))])), (c0, .inr (2, [.ref k1, .ref k2, .ref k3, .ref k4, .ref k5, .int (nI cc), .int (nI gc), .int (nI oc)])), (k1, .inl (cI, 24, .inl (fun c => nI (kd c)))), (k2, .inl (cI, 24, .inl (fun c => nI (lf c)))), (k3, .inl (cI, 24, .inl (fun c => nI (rg c)))), (k4, .inl (cI, 16, .inl (fun c => nI (ol c)))), (k5, .inl (cL, 32, .inr (.inl (fun c => lN (vv c))))), (q1, .inl (cL, 8, .inr (.inl (fun c => lN (mk c))))), (e0, .inr (3, [.ref e1, .long (lN sn)])), (e1, .inl (cL, 33, .inr (.inl (fun c => lN (rr c))))), (o0, .inr (4, [.int (nI 1), .long (lN p), .int (nI n), .long (lN vr), .int (nI ir), .long (lN od), .int (nI cc), .ref g1, .int (nI gc), .ref g2, .ref g3, .ref g4, .int (nI oc), .ref g5, .ref g6, .ref g7, .ref g8])), (g1, .inl (cL, 8, .inr (.inl (fun c => lN (mk c))))), (g2, .inl (cI, 24, .inl (fun c => nI (kd c)))), (g3, .inl (cI, 24, .inl (fun c => nI (lf c)))), (g4, .inl (cI, 24, .inl (fun c => nI (rg c)))), (g5, .inl (cI, 16, .inl (fun c => nI (ol c)))), (g6, .inl (cI, 32, .inl (fun c => nI (ln c)))), (g7, .inl (cI, 256, .inl (fun c => nI (pa c)))), (g8, .inl (cI, 256, .inl (fun c => nI (an c)))), (x0, .inl (cL, 1, .inr (.inl (fun c => lN (ou c)))))]) [17, 18, 0, 1, 2, 3, 4, 5, 6, 7, 8, 20, 9, 10, 11, 12, 13, 14, 15, 16, 19] rfl
      have hD := hD.sub (ws' := [(s0, .inr (0, [.ref m0, .ref c0, .ref e0, .ref q1, .long (lN vr)])), (m0, .inr (1, [.long (lN p), .int (nI n), .long (lN (px_r p 2))])), (c0, .inr (2, [.ref k1, .ref k2, .ref k3, .ref k4, .ref k5, .int (nI cc), .int (nI gc), .int (nI oc)])), (k1, .inl (cI, 24, .inl (fun c => nI (kd c)))), (k2, .inl (cI, 24, .inl (fun c => nI (lf c)))), (k3, .inl (cI, 24, .inl (fun c => nI (rg c)))), (k4, .inl (cI, 16, .inl (fun c => nI (ol c)))), (k5, .inl (cL, 32, .inr (.inl (fun c => lN (vv c))))), (q1, .inl (cL, 8, .inr (.inl (fun c => lN (mk c))))), (e0, .inr (3, [.ref e1, .long (lN sn)])), (e1, .inl (cL, 33, .inr (.inl (fun c => lN (rr c))))), (o0, .inr (4, [.int (nI 1), .long (lN p), .int (nI n), .long (lN vr), .int (nI ir), .long (lN od), .int (nI cc), .ref g1, .int (nI gc), .ref g2, .ref g3, .ref g4, .int (nI oc), .ref g5, .ref g6, .ref g7, .ref g8])), (g1, .inl (cL, 8, .inr (.inl (fun c => lN (mk c))))), (g2, .inl (cI, 24, .inl (fun c => nI (kd c)))), (g3, .inl (cI, 24, .inl (fun c => nI (lf c)))), (g4, .inl (cI, 24, .inl (fun c => nI (rg c)))), (g5, .inl (cI, 16, .inl (fun c => nI (ol c)))), (g6, .inl (cI, 32, .inl (fun c => nI (ln c)))), (g7, .inl (cI, 256, .inl (fun c => nI (pa c)))), (g8, .inl (cI, 256, .inl (fun c => nI (an c)))), (x0, .inl (cL, 1, .inr (.inl (fun c => lN (ou c)))))]) [17, 18, 0, 1, 2, 3, 4, 5, 6, 7, 8, 20, 9, 10, 11, 12, 13, 14, 15, 16, 19] (by decide) rfl
      exact cont 1 p n vr ir od cc gc oc sn kd lf rg ol mk vv ln pa an rr ou ⟨hm, hvr, hk, hmk, hir, hod⟩ H locs hP hD hS ls hl
  · refine lv_aload_n hx hb d_L_law_208 rfl (lv_at hl 1 rfl) ?_
    refine lv_aload_n hx hb d_L_law_209 rfl (lv_at hl 0 rfl) ?_
    refine lv_iload hx hb d_L_law_210 (lv_at hl 4 rfl) ?_
    refine lv_iconst (v := nI 1) hx hb d_L_law_212 (by decide) ?_
    refine lv_iadd hx hb d_L_law_213 ?_
    refine lv_topi (nm_r (show _ = nI (i + 1) from nI_add i 1) ?_)
    refine va_sld (A := A) hx hb hX hbl hbA hS (vp_in_nI (by omega) (by omega)) d_L_law_214 ?_
    refine lv_topi (nm_r (show _ = xs (i + 1) from congrArg xs (nI_clamp (by omega))) ?_)
    refine lv_i2l (v := (xs (i + 1)).toInt64) hx hb d_L_law_215 (rfl) ?_
    refine lv_bipush (v := nI 32) hx hb d_L_law_216 (by decide) ?_
    refine lv_lshl (v := ((xs (i + 1)).toInt64) <<< ((nI 32).toInt64 &&& 63)) hx hb d_L_law_218 (rfl) ?_
    refine lv_aload_n hx hb d_L_law_219 rfl (lv_at hl 0 rfl) ?_
    refine lv_iload hx hb d_L_law_220 (lv_at hl 4 rfl) ?_
    refine lv_iconst (v := nI 2) hx hb d_L_law_222 (by decide) ?_
    refine lv_iadd hx hb d_L_law_223 ?_
    refine lv_topi (nm_r (show _ = nI (i + 2) from nI_add i 2) ?_)
    refine va_sld (A := A) hx hb hX hbl hbA hS (vp_in_nI (by omega) (by omega)) d_L_law_224 ?_
    refine lv_topi (nm_r (show _ = xs (i + 2) from congrArg xs (nI_clamp (by omega))) ?_)
    refine lv_i2l (v := (xs (i + 2)).toInt64) hx hb d_L_law_225 (rfl) ?_
    refine lv_ldc2 (v := 4294967295) hx hb hown (hts _ kw_723) d_L_law_226 ?_
    refine lv_land hx hb d_L_law_229 ?_
    refine lv_lor hx hb d_L_law_230 ?_
    refine lv_topl (nm_r (show _ = lN a from hae) ?_)
    refine lv_aload_n hx hb d_L_law_231 rfl (lv_at hl 0 rfl) ?_
    refine lv_iload hx hb d_L_law_232 (lv_at hl 4 rfl) ?_
    refine lv_iconst (v := nI 3) hx hb d_L_law_234 (by decide) ?_
    refine lv_iadd hx hb d_L_law_235 ?_
    refine lv_topi (nm_r (show _ = nI (i + 3) from nI_add i 3) ?_)
    refine va_sld (A := A) hx hb hX hbl hbA hS (vp_in_nI (by omega) (by omega)) d_L_law_236 ?_
    refine lv_topi (nm_r (show _ = xs (i + 3) from congrArg xs (nI_clamp (by omega))) ?_)
    refine lv_i2l (v := (xs (i + 3)).toInt64) hx hb d_L_law_237 (rfl) ?_
    refine lv_bipush (v := nI 32) hx hb d_L_law_238 (by decide) ?_
    refine lv_lshl (v := ((xs (i + 3)).toInt64) <<< ((nI 32).toInt64 &&& 63)) hx hb d_L_law_240 (rfl) ?_
    refine lv_aload_n hx hb d_L_law_241 rfl (lv_at hl 0 rfl) ?_
    refine lv_iload hx hb d_L_law_242 (lv_at hl 4 rfl) ?_
    refine lv_iconst (v := nI 4) hx hb d_L_law_244 (by decide) ?_
    refine lv_iadd hx hb d_L_law_245 ?_
    refine lv_topi (nm_r (show _ = nI (i + 4) from nI_add i 4) ?_)
    refine va_sld (A := A) hx hb hX hbl hbA hS (vp_in_nI (by omega) (by omega)) d_L_law_246 ?_
    refine lv_topi (nm_r (show _ = xs (i + 4) from congrArg xs (nI_clamp (by omega))) ?_)
    refine lv_i2l (v := (xs (i + 4)).toInt64) hx hb d_L_law_247 (rfl) ?_
    refine lv_ldc2 (v := 4294967295) hx hb hown (hts _ kw_723) d_L_law_248 ?_
    refine lv_land hx hb d_L_law_251 ?_
    refine lv_lor hx hb d_L_law_252 ?_
    refine lv_topl (nm_r (show _ = lN c2 from hc2e) ?_)
    refine lv_aload_n hx hb d_L_law_253 rfl (lv_at hl 3 rfl) ?_
    have hZH := xz_at hA2 hZ hS
    refine wq_i (wr := [(c0, .inr (2, [.ref k1, .ref k2, .ref k3, .ref k4, .ref k5, .int (nI cc), .int (nI gc), .int (nI oc)])), (k1, .inl (cI, 24, .inl (fun c => nI (kd c)))), (k2, .inl (cI, 24, .inl (fun c => nI (lf c)))), (k3, .inl (cI, 24, .inl (fun c => nI (rg c)))), (k4, .inl (cI, 16, .inl (fun c => nI (ol c)))), (k5, .inl (cL, 32, .inr (.inl (fun c => lN (vv c))))), (q1, .inl (cL, 8, .inr (.inl (fun c => lN (mk c))))), (e0, .inr (3, [.ref e1, .long (lN sn)])), (e1, .inl (cL, 33, .inr (.inl (fun c => lN (rr c))))), (o0, .inr (4, [.int (nI fl), .long (lN p), .int (nI n), .long (lN vr), .int (nI ir), .long (lN od), .int (nI cc), .ref g1, .int (nI gc), .ref g2, .ref g3, .ref g4, .int (nI oc), .ref g5, .ref g6, .ref g7, .ref g8])), (g1, .inl (cL, 8, .inr (.inl (fun c => lN (mk c))))), (g2, .inl (cI, 24, .inl (fun c => nI (kd c)))), (g3, .inl (cI, 24, .inl (fun c => nI (lf c)))), (g4, .inl (cI, 24, .inl (fun c => nI (rg c)))), (g5, .inl (cI, 16, .inl (fun c => nI (ol c)))), (g6, .inl (cI, 32, .inl (fun c => nI (ln c)))), (g7, .inl (cI, 256, .inl (fun c => nI (pa c)))), (g8, .inl (cI, 256, .inl (fun c => nI (an c))))]) (vx_runSW (As := [.ref s0, .long (lN a), .long (lN c2), .ref x0]) (rest := []) ⟨hx, hb, hml, hown, hts⟩ (c_L_timesXA l dC dI cI cL hlt H.size s0 m0 c0 e0 q1 vr p n hm a (lN c2) ha64 ha x0 ou) (vx_cwSW 4 hts (gi_S kw_290 kw_291 kw_0 gi_L_times) rfl rfl rfl ⟨by decide, by decide, by decide⟩ ⟨Nat.le_of_ble_eq_true rfl, Nat.le_of_ble_eq_true rfl⟩) (wq_preSE hP hD hK hN hE hZH hC [0, 1, 20] rfl rfl) rfl rfl hl.1 rfl (lv_room (Nat.le_of_ble_eq_true rfl)) d_L_law_254 ⟨hce, hsl⟩) hP hD hS hA [0, 1, 20] [2, 3, 4, 5, 6, 7, 8, 9, 10, 11, 12, 13, 14, 15, 16, 17, 18, 19] rfl rfl rfl (by decide) (fun r u H locs hq hP hD hS hz => ?_)
    have hP : va_P (dC, dI) classes [(c0, .inr (2, [.ref k1, .ref k2, .ref k3, .ref k4, .ref k5, .int (nI cc), .int (nI gc), .int (nI oc)])), (k1, .inl (cI, 24, .inl (fun c => nI (kd c)))), (k2, .inl (cI, 24, .inl (fun c => nI (lf c)))), (k3, .inl (cI, 24, .inl (fun c => nI (rg c)))), (k4, .inl (cI, 16, .inl (fun c => nI (ol c)))), (k5, .inl (cL, 32, .inr (.inl (fun c => lN (vv c))))), (q1, .inl (cL, 8, .inr (.inl (fun c => lN (mk c))))), (e0, .inr (3, [.ref e1, .long (lN sn)])), (e1, .inl (cL, 33, .inr (.inl (fun c => lN (rr c))))), (o0, .inr (4, [.int (nI fl), .long (lN p), .int (nI n), .long (lN vr), .int (nI ir), .long (lN od), .int (nI cc), .ref g1, .int (nI gc), .ref g2, .ref g3, .ref g4, .int (nI oc), .ref g5, .ref g6, .ref g7, .ref g8])), (g1, .inl (cL, 8, .inr (.inl (fun c => lN (mk c))))), (g2, .inl (cI, 24, .inl (fun c => nI (kd c)))), (g3, .inl (cI, 24, .inl (fun c => nI (lf c)))), (g4, .inl (cI, 24, .inl (fun c => nI (rg c)))), (g5, .inl (cI, 16, .inl (fun c => nI (ol c)))), (g6, .inl (cI, 32, .inl (fun c => nI (ln c)))), (g7, .inl (cI, 256, .inl (fun c => nI (pa c)))), (g8, .inl (cI, 256, .inl (fun c => nI (an c)))), (s0, .inr (0, [.ref m0, .ref c0, .ref e0, .ref q1, .long (lN vr)])), (m0, .inr (1, [.long (lN p), .int (nI n), .long (lN (px_r p 2))])), (x0, .inl (cL, 1, .inr (.inl (fun c => lN (ou c)))))] H := hP
    have hD : va_D A [(c0, .inr (2, [.ref k1, .ref k2, .ref k3, .ref k4, .ref k5, .int (nI cc), .int (nI gc), .int (nI oc)])), (k1, .inl (cI, 24, .inl (fun c => nI (kd c)))), (k2, .inl (cI, 24, .inl (fun c => nI (lf c)))), (k3, .inl (cI, 24, .inl (fun c => nI (rg c)))), (k4, .inl (cI, 16, .inl (fun c => nI (ol c)))), (k5, .inl (cL, 32, .inr (.inl (fun c => lN (vv c))))), (q1, .inl (cL, 8, .inr (.inl (fun c => lN (mk c))))), (e0, .inr (3, [.ref e1, .long (lN sn)])), (e1, .inl (cL, 33, .inr (.inl (fun c => lN (rr c))))), (o0, .inr (4, [.int (nI fl), .long (lN p), .int (nI n), .long (lN vr), .int (nI ir), .long (lN od), .int (nI cc), .ref g1, .int (nI gc), .ref g2, .ref g3, .ref g4, .int (nI oc), .ref g5, .ref g6, .ref g7, .ref g8])), (g1, .inl (cL, 8, .inr (.inl (fun c => lN (mk c))))), (g2, .inl (cI, 24, .inl (fun c => nI (kd c)))), (g3, .inl (cI, 24, .inl (fun c => nI (lf c)))), (g4, .inl (cI, 24, .inl (fun c => nI (rg c)))), (g5, .inl (cI, 16, .inl (fun c => nI (ol c)))), (g6, .inl (cI, 32, .inl (fun c => nI (ln c)))), (g7, .inl (cI, 256, .inl (fun c => nI (pa c)))), (g8, .inl (cI, 256, .inl (fun c => nI (an c)))), (s0, .inr (0, [.ref m0, .ref c0, .ref e0, .ref q1, .long (lN vr)])), (m0, .inr (1, [.long (lN p), .int (nI n), .long (lN (px_r p 2))])), (x0, .inl (cL, 1, .inr (.inl (fun c => lN (ou c)))))] := hD
    subst hq
    refine lv_istore (lv' := [(5, .int (nI 1)), (0, .ref b), (1, .ref s0), (2, .ref o0), (3, .ref x0), (4, .int (nI i))]) hx hb d_L_law_257 hl (by decide) rfl (fun ls hl => ?_)
    refine lv_aload_n hx hb d_L_law_259 rfl (lv_at hl 3 rfl) ?_
    refine lv_aload_n hx hb d_L_law_260 rfl (lv_at hl 1 rfl) ?_
    refine lv_iload hx hb d_L_law_261 (lv_at hl 5 rfl) ?_
    refine lv_iconst (v := nI 1) hx hb d_L_law_263 (by decide) ?_
    refine lv_iadd hx hb d_L_law_264 ?_
    refine lv_topi (nm_r (show _ = nI (i + 1) from nI_add i 1) ?_)
    refine va_sld (A := A) hx hb hX hbl hbA hS (vp_in_nI (by omega) (by omega)) d_L_law_265 ?_
    refine lv_topi (nm_r (show _ = xs (i + 1) from congrArg xs (nI_clamp (by omega))) ?_)
    refine lv_i2l (v := (xs (i + 1)).toInt64) hx hb d_L_law_266 (rfl) ?_
    refine lv_bipush (v := nI 32) hx hb d_L_law_267 (by decide) ?_
    refine lv_lshl (v := ((xs (i + 1)).toInt64) <<< ((nI 32).toInt64 &&& 63)) hx hb d_L_law_269 (rfl) ?_
    refine lv_aload_n hx hb d_L_law_270 rfl (lv_at hl 1 rfl) ?_
    refine lv_iload hx hb d_L_law_271 (lv_at hl 5 rfl) ?_
    refine lv_iconst (v := nI 2) hx hb d_L_law_273 (by decide) ?_
    refine lv_iadd hx hb d_L_law_274 ?_
    refine lv_topi (nm_r (show _ = nI (i + 2) from nI_add i 2) ?_)
    refine va_sld (A := A) hx hb hX hbl hbA hS (vp_in_nI (by omega) (by omega)) d_L_law_275 ?_
    refine lv_topi (nm_r (show _ = xs (i + 2) from congrArg xs (nI_clamp (by omega))) ?_)
    refine lv_i2l (v := (xs (i + 2)).toInt64) hx hb d_L_law_276 (rfl) ?_
    refine lv_ldc2 (v := 4294967295) hx hb hown (hts _ kw_723) d_L_law_277 ?_
    refine lv_land hx hb d_L_law_280 ?_
    refine lv_lor hx hb d_L_law_281 ?_
    refine lv_topl (nm_r (show _ = lN a from hae) ?_)
    refine lv_aload_n hx hb d_L_law_282 rfl (lv_at hl 1 rfl) ?_
    refine lv_iload hx hb d_L_law_283 (lv_at hl 5 rfl) ?_
    refine lv_iconst (v := nI 3) hx hb d_L_law_285 (by decide) ?_
    refine lv_iadd hx hb d_L_law_286 ?_
    refine lv_topi (nm_r (show _ = nI (i + 3) from nI_add i 3) ?_)
    refine va_sld (A := A) hx hb hX hbl hbA hS (vp_in_nI (by omega) (by omega)) d_L_law_287 ?_
    refine lv_topi (nm_r (show _ = xs (i + 3) from congrArg xs (nI_clamp (by omega))) ?_)
    refine lv_i2l (v := (xs (i + 3)).toInt64) hx hb d_L_law_288 (rfl) ?_
    refine lv_bipush (v := nI 32) hx hb d_L_law_289 (by decide) ?_
    refine lv_lshl (v := ((xs (i + 3)).toInt64) <<< ((nI 32).toInt64 &&& 63)) hx hb d_L_law_291 (rfl) ?_
    refine lv_aload_n hx hb d_L_law_292 rfl (lv_at hl 1 rfl) ?_
    refine lv_iload hx hb d_L_law_293 (lv_at hl 5 rfl) ?_
    refine lv_iconst (v := nI 4) hx hb d_L_law_295 (by decide) ?_
    refine lv_iadd hx hb d_L_law_296 ?_
    refine lv_topi (nm_r (show _ = nI (i + 4) from nI_add i 4) ?_)
    refine va_sld (A := A) hx hb hX hbl hbA hS (vp_in_nI (by omega) (by omega)) d_L_law_297 ?_
    refine lv_topi (nm_r (show _ = xs (i + 4) from congrArg xs (nI_clamp (by omega))) ?_)
    refine lv_i2l (v := (xs (i + 4)).toInt64) hx hb d_L_law_298 (rfl) ?_
    refine lv_ldc2 (v := 4294967295) hx hb hown (hts _ kw_723) d_L_law_299 ?_
    refine lv_land hx hb d_L_law_302 ?_
    refine lv_lor hx hb d_L_law_303 ?_
    refine lv_topl (nm_r (show _ = lN c2 from hc2e) ?_)
    refine wq_l (wr := [(c0, .inr (2, [.ref k1, .ref k2, .ref k3, .ref k4, .ref k5, .int (nI cc), .int (nI gc), .int (nI oc)])), (k1, .inl (cI, 24, .inl (fun c => nI (kd c)))), (k2, .inl (cI, 24, .inl (fun c => nI (lf c)))), (k3, .inl (cI, 24, .inl (fun c => nI (rg c)))), (k4, .inl (cI, 16, .inl (fun c => nI (ol c)))), (k5, .inl (cL, 32, .inr (.inl (fun c => lN (vv c))))), (q1, .inl (cL, 8, .inr (.inl (fun c => lN (mk c))))), (e0, .inr (3, [.ref e1, .long (lN sn)])), (e1, .inl (cL, 33, .inr (.inl (fun c => lN (rr c))))), (g1, .inl (cL, 8, .inr (.inl (fun c => lN (mk c))))), (g2, .inl (cI, 24, .inl (fun c => nI (kd c)))), (g3, .inl (cI, 24, .inl (fun c => nI (lf c)))), (g4, .inl (cI, 24, .inl (fun c => nI (rg c)))), (g5, .inl (cI, 16, .inl (fun c => nI (ol c)))), (g6, .inl (cI, 32, .inl (fun c => nI (ln c)))), (g7, .inl (cI, 256, .inl (fun c => nI (pa c)))), (g8, .inl (cI, 256, .inl (fun c => nI (an c)))), (s0, .inr (0, [.ref m0, .ref c0, .ref e0, .ref q1, .long (lN vr)])), (m0, .inr (1, [.long (lN p), .int (nI n), .long (lN (px_r p 2))])), (x0, .inl (cL, 1, .inr (.inl (fun c => lN (ou c)))))]) (va_runV (As := [.long (lN a), .long (lN c2)]) (rest := []) ⟨hx, hb, hml, hown, hts⟩ (c_O_timesN l dC dI cI cL H.size o0 g1 g2 g3 g4 g5 g6 g7 g8 fl p n vr ir od cc gc oc hm a c2 ha64 hc264 (fun z => ha z.1)) (cwV 2 hts (gi_V kw_596 kw_597 kw_598 kw_5 gi_O_times) rfl rfl rfl ⟨rfl, by decide, by decide, by decide⟩ ⟨Nat.le_of_ble_eq_true rfl, Nat.le_of_ble_eq_true rfl⟩) (wq_preVW hP hD hK hN [9] rfl rfl (q0 := 9) (ci := 4) rfl rfl rfl) rfl rfl hl.1 rfl (lv_room (Nat.le_of_ble_eq_true rfl)) d_L_law_304 ⟨hce, hsl⟩) hP hD hS hA [9] [0, 1, 2, 3, 4, 5, 6, 7, 8, 10, 11, 12, 13, 14, 15, 16, 17, 18, 19, 20] rfl rfl rfl (by decide) (fun r2 u2 H locs hq2 hP hD hS hz => ?_)
    have hP : va_P (dC, dI) classes [(c0, .inr (2, [.ref k1, .ref k2, .ref k3, .ref k4, .ref k5, .int (nI cc), .int (nI gc), .int (nI oc)])), (k1, .inl (cI, 24, .inl (fun c => nI (kd c)))), (k2, .inl (cI, 24, .inl (fun c => nI (lf c)))), (k3, .inl (cI, 24, .inl (fun c => nI (rg c)))), (k4, .inl (cI, 16, .inl (fun c => nI (ol c)))), (k5, .inl (cL, 32, .inr (.inl (fun c => lN (vv c))))), (q1, .inl (cL, 8, .inr (.inl (fun c => lN (mk c))))), (e0, .inr (3, [.ref e1, .long (lN sn)])), (e1, .inl (cL, 33, .inr (.inl (fun c => lN (rr c))))), (g1, .inl (cL, 8, .inr (.inl (fun c => lN (mk c))))), (g2, .inl (cI, 24, .inl (fun c => nI (kd c)))), (g3, .inl (cI, 24, .inl (fun c => nI (lf c)))), (g4, .inl (cI, 24, .inl (fun c => nI (rg c)))), (g5, .inl (cI, 16, .inl (fun c => nI (ol c)))), (g6, .inl (cI, 32, .inl (fun c => nI (ln c)))), (g7, .inl (cI, 256, .inl (fun c => nI (pa c)))), (g8, .inl (cI, 256, .inl (fun c => nI (an c)))), (s0, .inr (0, [.ref m0, .ref c0, .ref e0, .ref q1, .long (lN vr)])), (m0, .inr (1, [.long (lN p), .int (nI n), .long (lN (px_r p 2))])), (x0, .inl (cL, 1, .inr (.inl (fun c => lN (ou c))))), (o0, .inr (4, [.int (nI 1), .long (lN p), .int (nI n), .long (lN vr), .int (nI ir), .long (lN od), .int (nI cc), .ref g1, .int (nI gc), .ref g2, .ref g3, .ref g4, .int (nI oc), .ref g5, .ref g6, .ref g7, .ref g8]))] H := hP
    have hD : va_D A [(c0, .inr (2, [.ref k1, .ref k2, .ref k3, .ref k4, .ref k5, .int (nI cc), .int (nI gc), .int (nI oc)])), (k1, .inl (cI, 24, .inl (fun c => nI (kd c)))), (k2, .inl (cI, 24, .inl (fun c => nI (lf c)))), (k3, .inl (cI, 24, .inl (fun c => nI (rg c)))), (k4, .inl (cI, 16, .inl (fun c => nI (ol c)))), (k5, .inl (cL, 32, .inr (.inl (fun c => lN (vv c))))), (q1, .inl (cL, 8, .inr (.inl (fun c => lN (mk c))))), (e0, .inr (3, [.ref e1, .long (lN sn)])), (e1, .inl (cL, 33, .inr (.inl (fun c => lN (rr c))))), (g1, .inl (cL, 8, .inr (.inl (fun c => lN (mk c))))), (g2, .inl (cI, 24, .inl (fun c => nI (kd c)))), (g3, .inl (cI, 24, .inl (fun c => nI (lf c)))), (g4, .inl (cI, 24, .inl (fun c => nI (rg c)))), (g5, .inl (cI, 16, .inl (fun c => nI (ol c)))), (g6, .inl (cI, 32, .inl (fun c => nI (ln c)))), (g7, .inl (cI, 256, .inl (fun c => nI (pa c)))), (g8, .inl (cI, 256, .inl (fun c => nI (an c)))), (s0, .inr (0, [.ref m0, .ref c0, .ref e0, .ref q1, .long (lN vr)])), (m0, .inr (1, [.long (lN p), .int (nI n), .long (lN (px_r p 2))])), (x0, .inl (cL, 1, .inr (.inl (fun c => lN (ou c))))), (o0, .inr (4, [.int (nI 1), .long (lN p), .int (nI n), .long (lN vr), .int (nI ir), .long (lN od), .int (nI cc), .ref g1, .int (nI gc), .ref g2, .ref g3, .ref g4, .int (nI oc), .ref g5, .ref g6, .ref g7, .ref g8]))] := hD
    subst hq2
    refine lv_lstore (lv' := [(6, .long (lN 0)), (5, .int (nI 1)), (0, .ref b), (1, .ref s0), (2, .ref o0), (3, .ref x0), (4, .int (nI i))]) hx hb d_L_law_307 hl (by decide) rfl (fun ls hl => ?_)
    refine lv_aload_n hx hb d_L_law_309 rfl (lv_at hl 4 rfl) ?_
    refine vp_callSi (va_Run.run (va_runV (As := []) (rest := []) ⟨hx, hb, hml, hown, hts⟩ (c_O_thrown l dC dI cI cL o0 g1 g2 g3 g4 g5 g6 g7 g8 1 p n vr ir od cc gc oc) (cwV 0 hts (gi_V kw_580 kw_581 kw_582 kw_5 gi_O_thrown) rfl rfl rfl ⟨rfl, by decide, by decide, by decide⟩ ⟨Nat.le_of_ble_eq_true rfl, Nat.le_of_ble_eq_true rfl⟩) (wq_preVR hP hK hN [20] rfl (q0 := 20) (ci := 4) rfl rfl rfl) rfl rfl hl.1 rfl (lv_room (Nat.le_of_ble_eq_true rfl)) d_L_law_310 ⟨hce, hsl⟩)) (fun rth hth => ?_)
    subst hth
    refine lv_iload hx hb d_L_law_313 (lv_at hl 1 rfl) ?_
    refine lv_icmp_eq (tgt := 320) hx hb d_L_law_315 (by decide) (fun _ => ?_) (fun hc => absurd hc (fun z => z rfl))
    refine lv_iload hx hb d_L_law_320 (lv_at hl 1 rfl) ?_
    refine lv_if_ne (tgt := 336) hx hb d_L_law_322 (by decide) (fun _ => ?_) (fun hc => absurd hc (show ¬ nI 1 = 0 from by decide))
    refine lv_goto (tgt := 1250) hx hb d_L_law_336 (by decide) ?_
    have hl := lv_sub (l' := [(0, .ref b), (1, .ref s0), (2, .ref o0), (3, .ref x0), (4, .int (nI i))]) hl [2, 3, 4, 5, 6] rfl
    have hP := hP.sub (ws' := [(s0, .inr (0, [.ref m0, .ref c0, .ref e0, .ref q1, .long (lN vr)])), (m0, .inr (1, [.long (lN p), .int (nI n), .long (lN (px_r p 2))])), (c0, .inr (2, [.ref k1, .ref k2, .ref k3, .ref k4, .ref k5, .int (nI cc), .int (nI gc), .int (nI oc)])), (k1, .inl (cI, 24, .inl (fun c => nI (kd c)))), (k2, .inl (cI, 24, .inl (fun c => nI (lf c)))), (k3, .inl (cI, 24, .inl (fun c => nI (rg c)))), (k4, .inl (cI, 16, .inl (fun c => nI (ol c)))), (k5, .inl (cL, 32, .inr (.inl (fun c => lN (vv c))))), (q1, .inl (cL, 8, .inr (.inl (fun c => lN (mk c))))), (e0, .inr (3, [.ref e1, .long (lN sn)])), (e1, .inl (cL, 33, .inr (.inl (fun c => lN (rr c))))), (o0, .inr (4, [.int (nI 1), .long (lN p), .int (nI n), .long (lN vr), .int (nI ir), .long (lN od), .int (nI cc), .ref g1, .int (nI gc), .ref g2, .ref g3, .ref g4, .int (nI oc), .ref g5, .ref g6, .ref g7, .ref g8])), (g1, .inl (cL, 8, .inr (.inl (fun c => lN (mk c))))), (g2, .inl (cI, 24, .inl (fun c => nI (kd c)))), (g3, .inl (cI, 24, .inl (fun c => nI (lf c)))), (g4, .inl (cI, 24, .inl (fun c => nI (rg c)))), (g5, .inl (cI, 16, .inl (fun c => nI (ol c)))), (g6, .inl (cI, 32, .inl (fun c => nI (ln c)))), (g7, .inl (cI, 256, .inl (fun c => nI (pa c)))), (g8, .inl (cI, 256, .inl (fun c => nI (an c)))), (x0, .inl (cL, 1, .inr (.inl (fun c => lN (ou c)))))]) [17, 18, 0, 1, 2, 3, 4, 5, 6, 7, 8, 20, 9, 10, 11, 12, 13, 14, 15, 16, 19] rfl
    have hD := hD.sub (ws' := [(s0, .inr (0, [.ref m0, .ref c0, .ref e0, .ref q1, .long (lN vr)])), (m0, .inr (1, [.long (lN p), .int (nI n), .long (lN (px_r p 2))])), (c0, .inr (2, [.ref k1, .ref k2, .ref k3, .ref k4, .ref k5, .int (nI cc), .int (nI gc), .int (nI oc)])), (k1, .inl (cI, 24, .inl (fun c => nI (kd c)))), (k2, .inl (cI, 24, .inl (fun c => nI (lf c)))), (k3, .inl (cI, 24, .inl (fun c => nI (rg c)))), (k4, .inl (cI, 16, .inl (fun c => nI (ol c)))), (k5, .inl (cL, 32, .inr (.inl (fun c => lN (vv c))))), (q1, .inl (cL, 8, .inr (.inl (fun c => lN (mk c))))), (e0, .inr (3, [.ref e1, .long (lN sn)])), (e1, .inl (cL, 33, .inr (.inl (fun c => lN (rr c))))), (o0, .inr (4, [.int (nI 1), .long (lN p), .int (nI n), .long (lN vr), .int (nI ir), .long (lN od), .int (nI cc), .ref g1, .int (nI gc), .ref g2, .ref g3, .ref g4, .int (nI oc), .ref g5, .ref g6, .ref g7, .ref g8])), (g1, .inl (cL, 8, .inr (.inl (fun c => lN (mk c))))), (g2, .inl (cI, 24, .inl (fun c => nI (kd c)))), (g3, .inl (cI, 24, .inl (fun c => nI (lf c)))), (g4, .inl (cI, 24, .inl (fun c => nI (rg c)))), (g5, .inl (cI, 16, .inl (fun c => nI (ol c)))), (g6, .inl (cI, 32, .inl (fun c => nI (ln c)))), (g7, .inl (cI, 256, .inl (fun c => nI (pa c)))), (g8, .inl (cI, 256, .inl (fun c => nI (an c)))), (x0, .inl (cL, 1, .inr (.inl (fun c => lN (ou c)))))]) [17, 18, 0, 1, 2, 3, 4, 5, 6, 7, 8, 20, 9, 10, 11, 12, 13, 14, 15, 16, 19] (by decide) rfl
    exact cont 1 p n vr ir od cc gc oc sn kd lf rg ol mk vv ln pa an rr ou ⟨hm, hvr, hk, hmk, hir, hod⟩ H locs hP hD hS ls hl
