/-! contracts of ShiftSignatures: all faults at once; laid by a program -/
def ff_I (p : Nat) (A : Nat → Nat → Nat) (N : Nat → Nat) (t : Nat) (r : Nat → Nat) (s : Nat) : Prop := dr r (fun f => sg p (fun j => A f j ^^^ N j) t) ∧ s < 2 ^ 64 ∧ ∀ f, f < 64 → (s.testBit f = true ↔ ∃ j, j < t ∧ A f j ≠ N j)
def fsB (A : Nat → Nat → Nat) (N : Nat → Nat) (m f : Nat) : Bool := decide (∃ j, j < m ∧ A f j ≠ N j)
noncomputable def ffB (p : Nat) (A : Nat → Nat → Nat) (N : Nat → Nat) (m f : Nat) : Bool := decide (sg p (fun j => A f j ^^^ N j) m ≠ 0)
theorem ff_0 {p : Nat} {A : Nat → Nat → Nat} {N : Nat → Nat} {r : Nat → Nat} (h : ∀ k, k < 33 → r k = 0) : ff_I p A N 0 r 0 := ⟨dr_0 h, by decide, fun f _ => ⟨fun z => by simp at z, fun ⟨j, hj, _⟩ => absurd hj (Nat.not_lt_zero j)⟩⟩
theorem ff_x {p n : Nat} (hm : md p n) {A : Nat → Nat → Nat} {N : Nat → Nat} {t s : Nat} {r r' : Nat → Nat} (h : ff_I p A N t r s) (h0 : r' 0 = 0) (hs : ∀ k, k < 32 → r' (k + 1) = r k) : dr r' (fun f => 2 * sg p (fun j => A f j ^^^ N j) t) := dr_x h.1 (fun f _ => Nat.lt_of_lt_of_le (sg_lt hm _ t) (md_n hm)) h0 hs
theorem ff_turn {p n : Nat} (hm : md p n) {A : Nat → Nat → Nat} {N : Nat → Nat} {t s s' : Nat} {r r' : Nat → Nat} (h : ff_I p A N t r s) (h1 : s' < 2 ^ 64) (h2 : ∀ f, f < 64 → (s'.testBit f = true ↔ s.testBit f = true ∨ A f t ≠ N t))
    (h3 : ∃ DG : Nat → Nat, dr r' DG ∧ ∀ f, f < 64 → DG f < 2 ^ n ∧ px_cg p (DG f) (2 * sg p (fun j => A f j ^^^ N j) t ^^^ (A f t ^^^ N t))) : ff_I p A N (t + 1) r' s' := by
  obtain ⟨DG, hd, hg⟩ := h3
  refine ⟨dr_congr hd (fun f hf => ?_), h1, fun f hf => ?_⟩
  · rw [← px_r_of hm (hg f hf).1 (hg f hf).2]
    exact (sg_step hm (fun j => A f j ^^^ N j) t).symm
  · rw [h2 f hf, h.2.2 f hf]
    constructor
    · rintro (⟨j, hj, z⟩ | z)
      · exact ⟨j, by omega, z⟩
      · exact ⟨t, by omega, z⟩
    · rintro ⟨j, hj, z⟩
      by_cases e : j = t
      · subst e; exact Or.inr z
      · exact Or.inl ⟨j, by omega, z⟩
theorem fsB_iff {A : Nat → Nat → Nat} {N : Nat → Nat} {m f : Nat} : fsB A N m f = true ↔ ∃ j, j < m ∧ A f j ≠ N j := by
  unfold fsB
  exact decide_eq_true_iff
theorem ffB_iff {p : Nat} {A : Nat → Nat → Nat} {N : Nat → Nat} {m f : Nat} : ffB p A N m f = true ↔ sg p (fun j => A f j ^^^ N j) m ≠ 0 := by
  unfold ffB
  exact decide_eq_true_iff
theorem bq {a b : Bool} (h : a = true ↔ b = true) : a = b := by
  cases a <;> cases b <;> simp_all
theorem ff_seen {p : Nat} {A : Nat → Nat → Nat} {N : Nat → Nat} {m s : Nat} {r : Nat → Nat} (h : ff_I p A N m r s) : pc_n s 64 = cn_t (fsB A N m) 64 := by
  rw [cn_pc]
  exact cn_congr 64 (fun f hf => bq ((h.2.2 f hf).trans fsB_iff.symm))
theorem ff_found {p : Nat} {A : Nat → Nat → Nat} {N : Nat → Nat} {m s : Nat} {r : Nat → Nat} (h : ff_I p A N m r s) : pc_n (dr_or r 33) 64 = cn_t (ffB p A N m) 64 := by
  rw [cn_pc]
  exact cn_congr 64 (fun f hf => bq ((dr_found h.1 hf).trans ffB_iff.symm))
theorem ff_missed {p : Nat} {A : Nat → Nat → Nat} {N : Nat → Nat} {m s : Nat} {r : Nat → Nat} (h : ff_I p A N m r s) : ∀ f, f < 64 → ((s &&& (dr_or r 33 ^^^ (2 ^ 64 - 1))).testBit f = true ↔ (fsB A N m f = true ∧ ¬ ffB p A N m f = true)) := by
  intro f hf
  have h1 := h.2.2 f hf
  have h2 := dr_found h.1 hf
  rw [Nat.testBit_and, Nat.testBit_xor, Nat.testBit_two_pow_sub_one, fsB_iff, ffB_iff, ← h1, ← h2]
  cases (s.testBit f) <;> cases ((dr_or r 33).testBit f) <;> simp [hf]
set_option maxHeartbeats 4000000 in
set_option maxRecDepth 100000 in
theorem c_S_lowestBit0 (l : Launch)  : Met l y_S_lowestBit w_S_lowestBit ({ frames := 2, cells := 0, slots := 0, locals := 43 } : Room) (va_Pc [.long (lN 0)] (fun _ => True)) (vp_Si (fun r => r = -1)) 0 0 (fun _ => False) := by
  refine Met.ofW (cc := b_S_lowestBit) (maxL := 2) (ret := (Option.some Jvm.ClassFile.FieldType.int)) (by decide) rfl ?_
  intro pg en st mm ar bw me co s₁ B hml hv
  obtain ⟨rfl, -⟩ := hv
  have hx := B.exec
  have hb := B.bytes
  have hr := B.returns
  have hlocks := B.notSynchronized
  have hts0 := atoms_spec (ws := w_S_lowestBit) B.pre
  have hts : ∀ w ∈ gw, w.before _ st = true := fun w h => hts0 w (List.mem_cons_of_mem _ h)
  have hown : st.vm.findClass R_S = some mm.cls := findClass_of_methodNamed B.named
  have hl := lv_entry ([.long (lN 0)]) (n := 2) (Nat.le_of_ble_eq_true rfl)
  rw [lg_entry_eq]
  generalize (lg_sl ([.long (lN 0)]) ++ List.replicate (2 - (lg_sl ([.long (lN 0)])).length) Slot.unset).toArray = ls at hl ⊢
  have hl : lv_has ls 2 [(0, .long (lN 0))] := hl
  refine lv_lload_n hx hb d_S_lowestBit_0 rfl (lv_at hl 0 rfl) ?_
  refine lv_lconst (v := lN 0) hx hb d_S_lowestBit_1 (by decide) ?_
  refine W.lcmp hx hb d_S_lowestBit_2 ?_
  refine lv_if_ne (tgt := 10) hx hb d_S_lowestBit_3 (by decide) (fun hc => absurd hc (fun z => z ((lg_cmp_eq _ _).mpr rfl))) (fun _ => ?_)
  refine lv_iconst (v := (-1)) hx hb d_S_lowestBit_6 (by decide) ?_
  refine lv_goto (tgt := 14) hx hb d_S_lowestBit_7 (by decide) ?_
  exact W.iret (v := (-1)) hx hb hr (fun t9 ht hW => ⟨(-1), rfl, rfl, ht⟩) (fun _ h => nomatch h) d_S_lowestBit_14
set_option maxHeartbeats 4000000 in
set_option maxRecDepth 100000 in
theorem c_S_lowestBitK (l : Launch) (v k : Nat) (hv0 : v < 2 ^ 64) (hb0 : lb v k) : Met l y_S_lowestBit w_S_lowestBit ({ frames := 2, cells := 0, slots := 0, locals := 43 } : Room) (va_Pc [.long (lN v)] (fun _ => True)) (vp_Si (fun r => r = nI k)) 0 0 (fun _ => False) := by
  refine Met.ofW (cc := b_S_lowestBit) (maxL := 2) (ret := (Option.some Jvm.ClassFile.FieldType.int)) (by decide) rfl ?_
  intro pg en st mm ar bw me co s₁ B hml hv
  obtain ⟨rfl, -⟩ := hv
  have hx := B.exec
  have hb := B.bytes
  have hr := B.returns
  have hlocks := B.notSynchronized
  have hts0 := atoms_spec (ws := w_S_lowestBit) B.pre
  have hts : ∀ w ∈ gw, w.before _ st = true := fun w h => hts0 w (List.mem_cons_of_mem _ h)
  have hown : st.vm.findClass R_S = some mm.cls := findClass_of_methodNamed B.named
  have hl := lv_entry ([.long (lN v)]) (n := 2) (Nat.le_of_ble_eq_true rfl)
  rw [lg_entry_eq]
  generalize (lg_sl ([.long (lN v)]) ++ List.replicate (2 - (lg_sl ([.long (lN v)])).length) Slot.unset).toArray = ls at hl ⊢
  have hl : lv_has ls 2 [(0, .long (lN v))] := hl
  refine lv_lload_n hx hb d_S_lowestBit_0 rfl (lv_at hl 0 rfl) ?_
  refine lv_lconst (v := lN 0) hx hb d_S_lowestBit_1 (by decide) ?_
  refine W.lcmp hx hb d_S_lowestBit_2 ?_
  refine lv_if_ne (tgt := 10) hx hb d_S_lowestBit_3 (by decide) (fun _ => ?_) (fun hc => absurd hc (fun z => lb_ne hb0 ((lN_eqI (b := 0) hv0 (by decide)).mp (cmq_eq z))))
  refine lv_lload_n hx hb d_S_lowestBit_10 rfl (lv_at hl 0 rfl) ?_
  refine vp_callSi (va_Run.run (va_runS (As := [.long (lN v)]) (rest := []) ⟨hx, hb, hml, hown, hts⟩ (c_JL_numberOfTrailingZeros l v k hv0 hb0) (va_cwS 1 hts (gi_S kw_508 kw_509 kw_6 gi_JL_numberOfTrailingZeros) rfl rfl rfl ⟨by decide, by decide, by decide⟩ ⟨Nat.le_of_ble_eq_true rfl, Nat.le_of_ble_eq_true rfl⟩) wq_preS0 rfl rfl hl.1 rfl (lv_room (Nat.le_of_ble_eq_true rfl)) d_S_lowestBit_11 ⟨Nat.le_of_ble_eq_true rfl, Nat.le_of_ble_eq_true rfl⟩)) (fun r hq => ?_)
  subst hq
  exact W.iret (v := nI k) hx hb hr (fun t9 ht hW => ⟨nI k, rfl, rfl, ht⟩) (fun _ h => nomatch h) d_S_lowestBit_14
set_option maxHeartbeats 4000000 in
set_option maxRecDepth 100000 in
theorem c_S_compareAllFaults (l : Launch) (dC : Nat → ClassId) (dI : Nat → Nat → Nat) (cI cL : ClassId) (sz : Nat) (s0 m0 c0 e0 q1 : Nat) (vr : Nat) (p n : Nat) (hm : md p n) (k1 k2 k3 k4 k5 : Nat) (cc gc oc : Nat) (kd lf rg ol : Nat → Nat) (hk : ck cc gc oc kd lf rg ol) (vv : Nat → Nat) (mk : Nat → Nat) (hmk : ∀ c, c < cc → mk c < 2 ^ 64) (hvr : vr < 2 ^ n) (e1 sn : Nat) (rr : Nat → Nat) (m : Nat) (hmm : m ≤ 256) : Met l y_S_compareAllFaults w_S_compareAllFaults ({ frames := 4, cells := 0, slots := 0, locals := 103 } : Room) (va_Pc [.ref s0, .int (nI m)] (wq_W (dC, dI) classes [(s0, .inr (0, [.ref m0, .ref c0, .ref e0, .ref q1, .long (lN vr)])), (m0, .inr (1, [.long (lN p), .int (nI n), .long (lN (px_r p 2))])), (c0, .inr (2, [.ref k1, .ref k2, .ref k3, .ref k4, .ref k5, .int (nI cc), .int (nI gc), .int (nI oc)])), (k1, .inl (cI, 24, .inl (fun c => nI (kd c)))), (k2, .inl (cI, 24, .inl (fun c => nI (lf c)))), (k3, .inl (cI, 24, .inl (fun c => nI (rg c)))), (k4, .inl (cI, 16, .inl (fun c => nI (ol c)))), (k5, .inl (cL, 32, .inr (.inl (fun c => lN (vv c))))), (q1, .inl (cL, 8, .inr (.inl (fun c => lN (mk c))))), (e0, .inr (3, [.ref e1, .long (lN sn)])), (e1, .inl (cL, 33, .inr (.inl (fun c => lN (rr c)))))] [(cI, .int), (cL, .long)] sz)) (va_Qv (fun (u : (Nat → Nat) × Nat × (Nat → Nat)) => ff_I p (fun f j => fa p vr mk cc gc oc kd lf rg ol (some f) j) (fun j => fa p vr mk cc gc oc kd lf rg ol none j) m u.1 u.2.1) (fun (u : (Nat → Nat) × Nat × (Nat → Nat)) t => wq_B (dC, dI) classes [(cI, .int), (cL, .long)] (va_A [(s0, .inr (0, [.ref m0, .ref c0, .ref e0, .ref q1, .long (lN vr)])), (m0, .inr (1, [.long (lN p), .int (nI n), .long (lN (px_r p 2))])), (c0, .inr (2, [.ref k1, .ref k2, .ref k3, .ref k4, .ref k5, .int (nI cc), .int (nI gc), .int (nI oc)])), (k1, .inl (cI, 24, .inl (fun c => nI (kd c)))), (k2, .inl (cI, 24, .inl (fun c => nI (lf c)))), (k3, .inl (cI, 24, .inl (fun c => nI (rg c)))), (k4, .inl (cI, 16, .inl (fun c => nI (ol c)))), (k5, .inl (cL, 32, .inr (.inl (fun c => lN (vv c))))), (q1, .inl (cL, 8, .inr (.inl (fun c => lN (mk c))))), (e0, .inr (3, [.ref e1, .long (lN sn)])), (e1, .inl (cL, 33, .inr (.inl (fun c => lN (rr c)))))] sz) [(s0, .inr (0, [.ref m0, .ref c0, .ref e0, .ref q1, .long (lN vr)])), (m0, .inr (1, [.long (lN p), .int (nI n), .long (lN (px_r p 2))])), (c0, .inr (2, [.ref k1, .ref k2, .ref k3, .ref k4, .ref k5, .int (nI cc), .int (nI gc), .int (nI oc)])), (k1, .inl (cI, 24, .inl (fun c => nI (kd c)))), (k2, .inl (cI, 24, .inl (fun c => nI (lf c)))), (k3, .inl (cI, 24, .inl (fun c => nI (rg c)))), (k4, .inl (cI, 16, .inl (fun c => nI (ol c)))), (k5, .inl (cL, 32, .inr (.inl (fun c => lN ((u).2.2 c))))), (q1, .inl (cL, 8, .inr (.inl (fun c => lN (mk c))))), (e0, .inr (3, [.ref e1, .long (lN ((u).2.1))])), (e1, .inl (cL, 33, .inr (.inl (fun c => lN ((u).1 c)))))] t) (va_A [(s0, .inr (0, [.ref m0, .ref c0, .ref e0, .ref q1, .long (lN vr)])), (m0, .inr (1, [.long (lN p), .int (nI n), .long (lN (px_r p 2))])), (c0, .inr (2, [.ref k1, .ref k2, .ref k3, .ref k4, .ref k5, .int (nI cc), .int (nI gc), .int (nI oc)])), (k1, .inl (cI, 24, .inl (fun c => nI (kd c)))), (k2, .inl (cI, 24, .inl (fun c => nI (lf c)))), (k3, .inl (cI, 24, .inl (fun c => nI (rg c)))), (k4, .inl (cI, 16, .inl (fun c => nI (ol c)))), (k5, .inl (cL, 32, .inr (.inl (fun c => lN (vv c))))), (q1, .inl (cL, 8, .inr (.inl (fun c => lN (mk c))))), (e0, .inr (3, [.ref e1, .long (lN sn)])), (e1, .inl (cL, 33, .inr (.inl (fun c => lN (rr c)))))] sz)) 0 0 (va_A [(s0, .inr (0, [.ref m0, .ref c0, .ref e0, .ref q1, .long (lN vr)])), (m0, .inr (1, [.long (lN p), .int (nI n), .long (lN (px_r p 2))])), (c0, .inr (2, [.ref k1, .ref k2, .ref k3, .ref k4, .ref k5, .int (nI cc), .int (nI gc), .int (nI oc)])), (k1, .inl (cI, 24, .inl (fun c => nI (kd c)))), (k2, .inl (cI, 24, .inl (fun c => nI (lf c)))), (k3, .inl (cI, 24, .inl (fun c => nI (rg c)))), (k4, .inl (cI, 16, .inl (fun c => nI (ol c)))), (k5, .inl (cL, 32, .inr (.inl (fun c => lN (vv c))))), (q1, .inl (cL, 8, .inr (.inl (fun c => lN (mk c))))), (e0, .inr (3, [.ref e1, .long (lN sn)])), (e1, .inl (cL, 33, .inr (.inl (fun c => lN (rr c)))))] sz) := by
  refine Met.ofW (cc := b_S_compareAllFaults) (maxL := 5) (ret := (Option.none : Option Jvm.ClassFile.FieldType)) (by decide) rfl ?_
  intro pg en st mm ar bw me co s₁ B hml hv
  obtain ⟨rfl, hsz, hP, hK, hD0, hN⟩ := hv
  have hx := B.exec
  have hb := B.bytes
  have hr := B.returns
  have hlocks := B.notSynchronized
  have hts0 := atoms_spec (ws := w_S_compareAllFaults) B.pre
  have hts : ∀ w ∈ gw, w.before _ st = true := fun w h => hts0 w (List.mem_cons_of_mem _ h)
  have hown : st.vm.findClass R_S = some mm.cls := findClass_of_methodNamed B.named
  subst hsz
  have hD := hD0.self (sz := st.heap.size)
  generalize hAe : va_A [(s0, .inr (0, [.ref m0, .ref c0, .ref e0, .ref q1, .long (lN vr)])), (m0, .inr (1, [.long (lN p), .int (nI n), .long (lN (px_r p 2))])), (c0, .inr (2, [.ref k1, .ref k2, .ref k3, .ref k4, .ref k5, .int (nI cc), .int (nI gc), .int (nI oc)])), (k1, .inl (cI, 24, .inl (fun c => nI (kd c)))), (k2, .inl (cI, 24, .inl (fun c => nI (lf c)))), (k3, .inl (cI, 24, .inl (fun c => nI (rg c)))), (k4, .inl (cI, 16, .inl (fun c => nI (ol c)))), (k5, .inl (cL, 32, .inr (.inl (fun c => lN (vv c))))), (q1, .inl (cL, 8, .inr (.inl (fun c => lN (mk c))))), (e0, .inr (3, [.ref e1, .long (lN sn)])), (e1, .inl (cL, 33, .inr (.inl (fun c => lN (rr c)))))] st.heap.size = A at hD ⊢
  have hA : ∀ q : Nat, st.heap.size ≤ q → A q := fun q h => by rw [← hAe]; exact Or.inr h
  have hS : va_S A st.heap st.heap [] := va_S.rf
  have hl := lv_entry ([.ref s0, .int (nI m)]) (n := 5) (Nat.le_of_ble_eq_true rfl)
  rw [lg_entry_eq]
  generalize (lg_sl ([.ref s0, .int (nI m)]) ++ List.replicate (5 - (lg_sl ([.ref s0, .int (nI m)])).length) Slot.unset).toArray = ls at hl ⊢
  have hl : lv_has ls 5 [(0, .ref s0), (1, .int (nI m))] := hl
  have h1 := hk.1
  have h2 := hk.2.1
  have h3 := hk.2.2.1
  have loop : ∀ (j t : Nat) (r2 : Nat → Nat) (s2 : Nat) (u : Nat → Nat), j + t = m → ff_I p (fun f j => fa p vr mk cc gc oc kd lf rg ol (some f) j) (fun j => fa p vr mk cc gc oc kd lf rg ol none j) t r2 s2 → ∀ (H : Heap) (locs : List Loc), va_P (dC, dI) classes [(s0, .inr (0, [.ref m0, .ref c0, .ref e0, .ref q1, .long (lN vr)])), (m0, .inr (1, [.long (lN p), .int (nI n), .long (lN (px_r p 2))])), (c0, .inr (2, [.ref k1, .ref k2, .ref k3, .ref k4, .ref k5, .int (nI cc), .int (nI gc), .int (nI oc)])), (k1, .inl (cI, 24, .inl (fun c => nI (kd c)))), (k2, .inl (cI, 24, .inl (fun c => nI (lf c)))), (k3, .inl (cI, 24, .inl (fun c => nI (rg c)))), (k4, .inl (cI, 16, .inl (fun c => nI (ol c)))), (k5, .inl (cL, 32, .inr (.inl (fun c => lN (u c))))), (q1, .inl (cL, 8, .inr (.inl (fun c => lN (mk c))))), (e0, .inr (3, [.ref e1, .long (lN s2)])), (e1, .inl (cL, 33, .inr (.inl (fun c => lN (r2 c)))))] H → va_D A [(s0, .inr (0, [.ref m0, .ref c0, .ref e0, .ref q1, .long (lN vr)])), (m0, .inr (1, [.long (lN p), .int (nI n), .long (lN (px_r p 2))])), (c0, .inr (2, [.ref k1, .ref k2, .ref k3, .ref k4, .ref k5, .int (nI cc), .int (nI gc), .int (nI oc)])), (k1, .inl (cI, 24, .inl (fun c => nI (kd c)))), (k2, .inl (cI, 24, .inl (fun c => nI (lf c)))), (k3, .inl (cI, 24, .inl (fun c => nI (rg c)))), (k4, .inl (cI, 16, .inl (fun c => nI (ol c)))), (k5, .inl (cL, 32, .inr (.inl (fun c => lN (u c))))), (q1, .inl (cL, 8, .inr (.inl (fun c => lN (mk c))))), (e0, .inr (3, [.ref e1, .long (lN s2)])), (e1, .inl (cL, 33, .inr (.inl (fun c => lN (r2 c)))))] → va_S A st.heap H locs → ∀ (ls : Array Slot), lv_has ls 5 [(0, .ref s0), (1, .int (nI m)), (2, .long (lN (rg_t p vr t))), (4, .int (nI t))] → W pg l en (headSpec w_S_compareAllFaults ({ frames := 4, cells := 0, slots := 0, locals := 103 } : Room)).room st mm ([.ref s0, .int (nI m)] : List Value).toArray bw me co H locs 0 0 (MQ bw (va_Qv (fun (u : (Nat → Nat) × Nat × (Nat → Nat)) => ff_I p (fun f j => fa p vr mk cc gc oc kd lf rg ol (some f) j) (fun j => fa p vr mk cc gc oc kd lf rg ol none j) m u.1 u.2.1) (fun (u : (Nat → Nat) × Nat × (Nat → Nat)) t => wq_B (dC, dI) classes [(cI, .int), (cL, .long)] A [(s0, .inr (0, [.ref m0, .ref c0, .ref e0, .ref q1, .long (lN vr)])), (m0, .inr (1, [.long (lN p), .int (nI n), .long (lN (px_r p 2))])), (c0, .inr (2, [.ref k1, .ref k2, .ref k3, .ref k4, .ref k5, .int (nI cc), .int (nI gc), .int (nI oc)])), (k1, .inl (cI, 24, .inl (fun c => nI (kd c)))), (k2, .inl (cI, 24, .inl (fun c => nI (lf c)))), (k3, .inl (cI, 24, .inl (fun c => nI (rg c)))), (k4, .inl (cI, 16, .inl (fun c => nI (ol c)))), (k5, .inl (cL, 32, .inr (.inl (fun c => lN ((u).2.2 c))))), (q1, .inl (cL, 8, .inr (.inl (fun c => lN (mk c))))), (e0, .inr (3, [.ref e1, .long (lN ((u).2.1))])), (e1, .inl (cL, 33, .inr (.inl (fun c => lN ((u).1 c)))))] t) A) ([.ref s0, .int (nI m)] : List Value).toArray st 0 0 A) (F0 mm 15 ls []) := by
    intro j
    induction j with
    | zero =>
      intro t r2 s2 u hj hI H locs hP hD hS ls hl
      refine lv_iload hx hb d_S_compareAllFaults_15 (lv_at hl 3 rfl) ?_
      refine lv_iload_n hx hb d_S_compareAllFaults_17 rfl (lv_at hl 1 rfl) ?_
      refine lv_icmp_ge (tgt := 70) hx hb d_S_compareAllFaults_18 (by decide) (fun hc => ?_) (fun hc => ?_)
      · have hi : t = m := by omega
        rw [hi] at hI
        have hP := hP.sub (ws' := [(s0, .inr (0, [.ref m0, .ref c0, .ref e0, .ref q1, .long (lN vr)])), (m0, .inr (1, [.long (lN p), .int (nI n), .long (lN (px_r p 2))])), (c0, .inr (2, [.ref k1, .ref k2, .ref k3, .ref k4, .ref k5, .int (nI cc), .int (nI gc), .int (nI oc)])), (k1, .inl (cI, 24, .inl (fun c => nI (kd c)))), (k2, .inl (cI, 24, .inl (fun c => nI (lf c)))), (k3, .inl (cI, 24, .inl (fun c => nI (rg c)))), (k4, .inl (cI, 16, .inl (fun c => nI (ol c)))), (k5, .inl (cL, 32, .inr (.inl (fun c => lN (u c))))), (q1, .inl (cL, 8, .inr (.inl (fun c => lN (mk c))))), (e0, .inr (3, [.ref e1, .long (lN s2)])), (e1, .inl (cL, 33, .inr (.inl (fun c => lN (r2 c)))))]) [0, 1, 2, 3, 4, 5, 6, 7, 8, 9, 10] rfl
        have hD := hD.sub (ws' := [(s0, .inr (0, [.ref m0, .ref c0, .ref e0, .ref q1, .long (lN vr)])), (m0, .inr (1, [.long (lN p), .int (nI n), .long (lN (px_r p 2))])), (c0, .inr (2, [.ref k1, .ref k2, .ref k3, .ref k4, .ref k5, .int (nI cc), .int (nI gc), .int (nI oc)])), (k1, .inl (cI, 24, .inl (fun c => nI (kd c)))), (k2, .inl (cI, 24, .inl (fun c => nI (lf c)))), (k3, .inl (cI, 24, .inl (fun c => nI (rg c)))), (k4, .inl (cI, 16, .inl (fun c => nI (ol c)))), (k5, .inl (cL, 32, .inr (.inl (fun c => lN (u c))))), (q1, .inl (cL, 8, .inr (.inl (fun c => lN (mk c))))), (e0, .inr (3, [.ref e1, .long (lN s2)])), (e1, .inl (cL, 33, .inr (.inl (fun c => lN (r2 c)))))]) [0, 1, 2, 3, 4, 5, 6, 7, 8, 9, 10] (by decide) rfl
        exact W.vret hx hb hr (fun t9 ht hW => ⟨⟨(r2, s2, u), rfl, hI, by rw [ht]; exact hP, va_K.moved hW.alike hK, hD⟩, hS.F ht⟩) hS.2.2 d_S_compareAllFaults_70
      · exact absurd ((nI_leI (by omega) (by omega)).mpr (by omega)) hc
    | succ j ih =>
      intro t r2 s2 u hj hI H locs hP hD hS ls hl
      have hrl := rg_lt hm hvr t
      have hrl2 := res_lt hm hrl
      have hpl := pt_lt mk (rg_t p vr t) cc
      have hp8 : 2 ^ cc ≤ 2 ^ 8 := Nat.pow_le_pow_right (by decide) h1
      refine lv_iload hx hb d_S_compareAllFaults_15 (lv_at hl 3 rfl) ?_
      refine lv_iload_n hx hb d_S_compareAllFaults_17 rfl (lv_at hl 1 rfl) ?_
      refine lv_icmp_ge (tgt := 70) hx hb d_S_compareAllFaults_18 (by decide) (fun hc => ?_) (fun hc => ?_)
      · exact absurd ((nI_leI (by omega) (by omega)).mp hc) (by omega)
      · refine lv_aload_n hx hb d_S_compareAllFaults_21 rfl (lv_at hl 0 rfl) ?_
        refine va_get (D := (dC, dI)) (ci := 0) (v := .ref e0) (C := R_S) (T := F_S) (N := 5) hx hb hts in_S hown hK hP 0 rfl rfl 2 (by decide) (hts _ kw_96) (fun _ h9 => h9) rfl d_S_compareAllFaults_22 ?_
        refine wq_v (wr := [(s0, .inr (0, [.ref m0, .ref c0, .ref e0, .ref q1, .long (lN vr)])), (m0, .inr (1, [.long (lN p), .int (nI n), .long (lN (px_r p 2))])), (c0, .inr (2, [.ref k1, .ref k2, .ref k3, .ref k4, .ref k5, .int (nI cc), .int (nI gc), .int (nI oc)])), (k1, .inl (cI, 24, .inl (fun c => nI (kd c)))), (k2, .inl (cI, 24, .inl (fun c => nI (lf c)))), (k3, .inl (cI, 24, .inl (fun c => nI (rg c)))), (k4, .inl (cI, 16, .inl (fun c => nI (ol c)))), (k5, .inl (cL, 32, .inr (.inl (fun c => lN (u c))))), (q1, .inl (cL, 8, .inr (.inl (fun c => lN (mk c)))))]) (va_runVN (As := []) (rest := []) ⟨hx, hb, hml, hown, hts⟩ (c_D_timesX l dC dI cI cL H.size e0 e1 s2 r2) ⟨va_cnB 0 hts gi_D_timesX rfl rfl rfl (hN _ kw_481) (hts _ kw_4) ⟨by decide, by decide, by decide⟩ ⟨Nat.le_of_ble_eq_true rfl, Nat.le_of_ble_eq_true rfl⟩, hts _ kw_483, hts _ ks_D_timesX⟩ (wq_preVW hP hD hK hN [9, 10] rfl rfl (q0 := 9) (ci := 3) rfl rfl rfl) rfl rfl hl.1 rfl (lv_room (Nat.le_of_ble_eq_true rfl)) d_S_compareAllFaults_25 ⟨Nat.le_of_ble_eq_true rfl, Nat.le_of_ble_eq_true rfl⟩) hP hD hS hA [9, 10] [0, 1, 2, 3, 4, 5, 6, 7, 8] rfl rfl rfl (by decide) (fun u1 H locs hx1 hP hD hS hz => ?_)
        have hP : va_P (dC, dI) classes [(s0, .inr (0, [.ref m0, .ref c0, .ref e0, .ref q1, .long (lN vr)])), (m0, .inr (1, [.long (lN p), .int (nI n), .long (lN (px_r p 2))])), (c0, .inr (2, [.ref k1, .ref k2, .ref k3, .ref k4, .ref k5, .int (nI cc), .int (nI gc), .int (nI oc)])), (k1, .inl (cI, 24, .inl (fun c => nI (kd c)))), (k2, .inl (cI, 24, .inl (fun c => nI (lf c)))), (k3, .inl (cI, 24, .inl (fun c => nI (rg c)))), (k4, .inl (cI, 16, .inl (fun c => nI (ol c)))), (k5, .inl (cL, 32, .inr (.inl (fun c => lN (u c))))), (q1, .inl (cL, 8, .inr (.inl (fun c => lN (mk c))))), (e0, .inr (3, [.ref e1, .long (lN s2)])), (e1, .inl (cL, 33, .inr (.inl (fun c => lN (u1 c)))))] H := hP
        have hD : va_D A [(s0, .inr (0, [.ref m0, .ref c0, .ref e0, .ref q1, .long (lN vr)])), (m0, .inr (1, [.long (lN p), .int (nI n), .long (lN (px_r p 2))])), (c0, .inr (2, [.ref k1, .ref k2, .ref k3, .ref k4, .ref k5, .int (nI cc), .int (nI gc), .int (nI oc)])), (k1, .inl (cI, 24, .inl (fun c => nI (kd c)))), (k2, .inl (cI, 24, .inl (fun c => nI (lf c)))), (k3, .inl (cI, 24, .inl (fun c => nI (rg c)))), (k4, .inl (cI, 16, .inl (fun c => nI (ol c)))), (k5, .inl (cL, 32, .inr (.inl (fun c => lN (u c))))), (q1, .inl (cL, 8, .inr (.inl (fun c => lN (mk c))))), (e0, .inr (3, [.ref e1, .long (lN s2)])), (e1, .inl (cL, 33, .inr (.inl (fun c => lN (u1 c)))))] := hD
        have hd1 := ff_x hm hI hx1.1 hx1.2
        refine lv_aload_n hx hb d_S_compareAllFaults_28 rfl (lv_at hl 0 rfl) ?_
        refine va_get (D := (dC, dI)) (ci := 0) (v := .ref e0) (C := R_S) (T := F_S) (N := 5) hx hb hts in_S hown hK hP 0 rfl rfl 2 (by decide) (hts _ kw_96) (fun _ h9 => h9) rfl d_S_compareAllFaults_29 ?_
        refine lv_aload_n hx hb d_S_compareAllFaults_32 rfl (lv_at hl 0 rfl) ?_
        refine va_get (D := (dC, dI)) (ci := 0) (v := .ref c0) (C := R_S) (T := F_S) (N := 5) hx hb hts in_S hown hK hP 0 rfl rfl 1 (by decide) (hts _ kw_95) (fun _ h9 => h9) rfl d_S_compareAllFaults_33 ?_
        refine lv_aload_n hx hb d_S_compareAllFaults_36 rfl (lv_at hl 0 rfl) ?_
        refine lv_lload_n hx hb d_S_compareAllFaults_37 rfl (lv_at hl 2 rfl) ?_
        refine vp_callSi (va_Run.run (va_runV (As := [.long (lN (rg_t p vr t))]) (rest := [.ref c0, .ref e0]) ⟨hx, hb, hml, hown, hts⟩ (c_S_patternOf l dC dI cI cL s0 m0 c0 e0 q1 vr k1 k2 k3 k4 k5 cc gc oc mk hmk h1 (rg_t p vr t) (by omega)) (cwV 1 hts (gi_V kw_193 kw_195 ks_S_patternOf kw_1 gi_S_patternOf) rfl rfl rfl ⟨rfl, by decide, by decide, by decide⟩ ⟨Nat.le_of_ble_eq_true rfl, Nat.le_of_ble_eq_true rfl⟩) (wq_preVR hP hK hN [0, 2, 8] rfl (q0 := 0) (ci := 0) rfl rfl rfl) rfl rfl hl.1 rfl (lv_room (Nat.le_of_ble_eq_true rfl)) d_S_compareAllFaults_38 ⟨Nat.le_of_ble_eq_true rfl, Nat.le_of_ble_eq_true rfl⟩)) (fun r hq => ?_)
        subst hq
        refine wq_v (wr := [(s0, .inr (0, [.ref m0, .ref c0, .ref e0, .ref q1, .long (lN vr)])), (m0, .inr (1, [.long (lN p), .int (nI n), .long (lN (px_r p 2))])), (q1, .inl (cL, 8, .inr (.inl (fun c => lN (mk c)))))]) (va_runVN (As := [.ref c0, .int (nI (pt_n mk (rg_t p vr t) cc))]) (rest := []) ⟨hx, hb, hml, hown, hts⟩ (c_D_addAnswers l dC dI cI cL H.size e0 e1 s2 u1 c0 k1 k2 k3 k4 k5 cc gc oc kd lf rg ol u hk (pt_n mk (rg_t p vr t) cc) (by omega) _ hd1 hI.2.1) ⟨va_cnB 2 hts gi_D_addAnswers rfl rfl rfl (hN _ kw_485) (hts _ kw_4) ⟨by decide, by decide, by decide⟩ ⟨Nat.le_of_ble_eq_true rfl, Nat.le_of_ble_eq_true rfl⟩, hts _ kw_487, hts _ ks_D_addAnswers⟩ (wq_preVW hP hD hK hN [9, 10, 2, 3, 4, 5, 6, 7] rfl rfl (q0 := 9) (ci := 3) rfl rfl rfl) rfl rfl hl.1 rfl (lv_room (Nat.le_of_ble_eq_true rfl)) d_S_compareAllFaults_41 ⟨Nat.le_of_ble_eq_true rfl, Nat.le_of_ble_eq_true rfl⟩) hP hD hS hA [9, 10, 2, 3, 4, 5, 6, 7] [0, 1, 8] rfl rfl rfl (by decide) (fun u2 H locs hx2 hP hD hS hz => ?_)
        have hP : va_P (dC, dI) classes [(s0, .inr (0, [.ref m0, .ref c0, .ref e0, .ref q1, .long (lN vr)])), (m0, .inr (1, [.long (lN p), .int (nI n), .long (lN (px_r p 2))])), (q1, .inl (cL, 8, .inr (.inl (fun c => lN (mk c))))), (e0, .inr (3, [.ref e1, .long (lN ((u2).2.1))])), (e1, .inl (cL, 33, .inr (.inl (fun c => lN ((u2).1 c))))), (c0, .inr (2, [.ref k1, .ref k2, .ref k3, .ref k4, .ref k5, .int (nI cc), .int (nI gc), .int (nI oc)])), (k1, .inl (cI, 24, .inl (fun c => nI (kd c)))), (k2, .inl (cI, 24, .inl (fun c => nI (lf c)))), (k3, .inl (cI, 24, .inl (fun c => nI (rg c)))), (k4, .inl (cI, 16, .inl (fun c => nI (ol c)))), (k5, .inl (cL, 32, .inr (.inl (fun c => lN ((u2).2.2 c)))))] H := hP
        have hD : va_D A [(s0, .inr (0, [.ref m0, .ref c0, .ref e0, .ref q1, .long (lN vr)])), (m0, .inr (1, [.long (lN p), .int (nI n), .long (lN (px_r p 2))])), (q1, .inl (cL, 8, .inr (.inl (fun c => lN (mk c))))), (e0, .inr (3, [.ref e1, .long (lN ((u2).2.1))])), (e1, .inl (cL, 33, .inr (.inl (fun c => lN ((u2).1 c))))), (c0, .inr (2, [.ref k1, .ref k2, .ref k3, .ref k4, .ref k5, .int (nI cc), .int (nI gc), .int (nI oc)])), (k1, .inl (cI, 24, .inl (fun c => nI (kd c)))), (k2, .inl (cI, 24, .inl (fun c => nI (lf c)))), (k3, .inl (cI, 24, .inl (fun c => nI (rg c)))), (k4, .inl (cI, 16, .inl (fun c => nI (ol c)))), (k5, .inl (cL, 32, .inr (.inl (fun c => lN ((u2).2.2 c)))))] := hD
        refine lv_aload_n hx hb d_S_compareAllFaults_44 rfl (lv_at hl 0 rfl) ?_
        refine va_get (D := (dC, dI)) (ci := 0) (v := .ref e0) (C := R_S) (T := F_S) (N := 5) hx hb hts in_S hown hK hP 0 rfl rfl 2 (by decide) (hts _ kw_96) (fun _ h9 => h9) rfl d_S_compareAllFaults_45 ?_
        refine lv_aload_n hx hb d_S_compareAllFaults_48 rfl (lv_at hl 0 rfl) ?_
        refine va_get (D := (dC, dI)) (ci := 0) (v := .ref m0) (C := R_S) (T := F_S) (N := 5) hx hb hts in_S hown hK hP 0 rfl rfl 0 (by decide) (hts _ kw_94) (fun _ h9 => h9) rfl d_S_compareAllFaults_49 ?_
        refine wq_v (wr := [(s0, .inr (0, [.ref m0, .ref c0, .ref e0, .ref q1, .long (lN vr)])), (q1, .inl (cL, 8, .inr (.inl (fun c => lN (mk c))))), (c0, .inr (2, [.ref k1, .ref k2, .ref k3, .ref k4, .ref k5, .int (nI cc), .int (nI gc), .int (nI oc)])), (k1, .inl (cI, 24, .inl (fun c => nI (kd c)))), (k2, .inl (cI, 24, .inl (fun c => nI (lf c)))), (k3, .inl (cI, 24, .inl (fun c => nI (rg c)))), (k4, .inl (cI, 16, .inl (fun c => nI (ol c)))), (k5, .inl (cL, 32, .inr (.inl (fun c => lN ((u2).2.2 c)))))]) (va_runVN (As := [.ref m0]) (rest := []) ⟨hx, hb, hml, hown, hts⟩ (c_D_reduce l dC dI cI cL H.size e0 e1 u2.2.1 u2.1 m0 p n hm _ hx2.1) ⟨va_cnB 1 hts gi_D_reduce rfl rfl rfl (hN _ kw_493) (hts _ kw_4) ⟨by decide, by decide, by decide⟩ ⟨Nat.le_of_ble_eq_true rfl, Nat.le_of_ble_eq_true rfl⟩, hts _ kw_495, hts _ ks_D_reduce⟩ (wq_preVW hP hD hK hN [3, 4, 1] rfl rfl (q0 := 3) (ci := 3) rfl rfl rfl) rfl rfl hl.1 rfl (lv_room (Nat.le_of_ble_eq_true rfl)) d_S_compareAllFaults_52 ⟨Nat.le_of_ble_eq_true rfl, Nat.le_of_ble_eq_true rfl⟩) hP hD hS hA [3, 4, 1] [0, 2, 5, 6, 7, 8, 9, 10] rfl rfl rfl (by decide) (fun u3 H locs hx3 hP hD hS hz => ?_)
        have hP : va_P (dC, dI) classes [(s0, .inr (0, [.ref m0, .ref c0, .ref e0, .ref q1, .long (lN vr)])), (q1, .inl (cL, 8, .inr (.inl (fun c => lN (mk c))))), (c0, .inr (2, [.ref k1, .ref k2, .ref k3, .ref k4, .ref k5, .int (nI cc), .int (nI gc), .int (nI oc)])), (k1, .inl (cI, 24, .inl (fun c => nI (kd c)))), (k2, .inl (cI, 24, .inl (fun c => nI (lf c)))), (k3, .inl (cI, 24, .inl (fun c => nI (rg c)))), (k4, .inl (cI, 16, .inl (fun c => nI (ol c)))), (k5, .inl (cL, 32, .inr (.inl (fun c => lN ((u2).2.2 c))))), (e0, .inr (3, [.ref e1, .long (lN ((u2).2.1))])), (e1, .inl (cL, 33, .inr (.inl (fun c => lN (u3 c))))), (m0, .inr (1, [.long (lN p), .int (nI n), .long (lN (px_r p 2))]))] H := hP
        have hD : va_D A [(s0, .inr (0, [.ref m0, .ref c0, .ref e0, .ref q1, .long (lN vr)])), (q1, .inl (cL, 8, .inr (.inl (fun c => lN (mk c))))), (c0, .inr (2, [.ref k1, .ref k2, .ref k3, .ref k4, .ref k5, .int (nI cc), .int (nI gc), .int (nI oc)])), (k1, .inl (cI, 24, .inl (fun c => nI (kd c)))), (k2, .inl (cI, 24, .inl (fun c => nI (lf c)))), (k3, .inl (cI, 24, .inl (fun c => nI (rg c)))), (k4, .inl (cI, 16, .inl (fun c => nI (ol c)))), (k5, .inl (cL, 32, .inr (.inl (fun c => lN ((u2).2.2 c))))), (e0, .inr (3, [.ref e1, .long (lN ((u2).2.1))])), (e1, .inl (cL, 33, .inr (.inl (fun c => lN (u3 c))))), (m0, .inr (1, [.long (lN p), .int (nI n), .long (lN (px_r p 2))]))] := hD
        have hnew := ff_turn hm hI hx2.2.1 hx2.2.2 hx3
        refine lv_aload_n hx hb d_S_compareAllFaults_55 rfl (lv_at hl 0 rfl) ?_
        refine va_get (D := (dC, dI)) (ci := 0) (v := .ref m0) (C := R_S) (T := F_S) (N := 5) hx hb hts in_S hown hK hP 0 rfl rfl 0 (by decide) (hts _ kw_94) (fun _ h9 => h9) rfl d_S_compareAllFaults_56 ?_
        refine lv_lload_n hx hb d_S_compareAllFaults_59 rfl (lv_at hl 2 rfl) ?_
        refine vp_callSl (va_Run.run (va_runVN (As := [.long (lN (rg_t p vr t))]) (rest := []) ⟨hx, hb, hml, hown, hts⟩ (c_M_stepped l dC dI cI cL m0 p n _ hm hrl) ⟨va_cnB 1 hts gi_M_stepped rfl rfl rfl (hN _ kw_464) (hts _ kw_2) ⟨by decide, by decide, by decide⟩ ⟨Nat.le_of_ble_eq_true rfl, Nat.le_of_ble_eq_true rfl⟩, hts _ kw_145, hts _ ks_M_stepped⟩ (wq_preVR hP hK hN [10] rfl (q0 := 10) (ci := 1) rfl rfl rfl) rfl rfl hl.1 rfl (lv_room (Nat.le_of_ble_eq_true rfl)) d_S_compareAllFaults_60 ⟨Nat.le_of_ble_eq_true rfl, Nat.le_of_ble_eq_true rfl⟩)) (fun r5 hq5 => ?_)
        subst hq5
        refine lv_lstore_n (lv' := [(2, .long (lN (rg_t p vr (t + 1)))), (0, .ref s0), (1, .int (nI m)), (4, .int (nI t))]) hx hb d_S_compareAllFaults_63 rfl hl (by decide) rfl (fun ls hl => ?_)
        refine lv_iinc (v := nI (t + 1)) (lv' := [(4, .int (nI (t + 1))), (2, .long (lN (rg_t p vr (t + 1)))), (0, .ref s0), (1, .int (nI m))]) hx hb d_S_compareAllFaults_64 hl (k := 3) rfl (nI_1 t) (by decide) rfl (fun ls hl => ?_)
        refine lv_goto (tgt := 15) hx hb d_S_compareAllFaults_67 (by decide) ?_
        have hl := lv_sub (l' := [(0, .ref s0), (1, .int (nI m)), (2, .long (lN (rg_t p vr (t + 1)))), (4, .int (nI (t + 1)))]) hl [2, 3, 1, 0] rfl
        have hP := hP.sub (ws' := [(s0, .inr (0, [.ref m0, .ref c0, .ref e0, .ref q1, .long (lN vr)])), (m0, .inr (1, [.long (lN p), .int (nI n), .long (lN (px_r p 2))])), (c0, .inr (2, [.ref k1, .ref k2, .ref k3, .ref k4, .ref k5, .int (nI cc), .int (nI gc), .int (nI oc)])), (k1, .inl (cI, 24, .inl (fun c => nI (kd c)))), (k2, .inl (cI, 24, .inl (fun c => nI (lf c)))), (k3, .inl (cI, 24, .inl (fun c => nI (rg c)))), (k4, .inl (cI, 16, .inl (fun c => nI (ol c)))), (k5, .inl (cL, 32, .inr (.inl (fun c => lN ((u2).2.2 c))))), (q1, .inl (cL, 8, .inr (.inl (fun c => lN (mk c))))), (e0, .inr (3, [.ref e1, .long (lN ((u2).2.1))])), (e1, .inl (cL, 33, .inr (.inl (fun c => lN (u3 c)))))]) [0, 10, 2, 3, 4, 5, 6, 7, 1, 8, 9] rfl
        have hD := hD.sub (ws' := [(s0, .inr (0, [.ref m0, .ref c0, .ref e0, .ref q1, .long (lN vr)])), (m0, .inr (1, [.long (lN p), .int (nI n), .long (lN (px_r p 2))])), (c0, .inr (2, [.ref k1, .ref k2, .ref k3, .ref k4, .ref k5, .int (nI cc), .int (nI gc), .int (nI oc)])), (k1, .inl (cI, 24, .inl (fun c => nI (kd c)))), (k2, .inl (cI, 24, .inl (fun c => nI (lf c)))), (k3, .inl (cI, 24, .inl (fun c => nI (rg c)))), (k4, .inl (cI, 16, .inl (fun c => nI (ol c)))), (k5, .inl (cL, 32, .inr (.inl (fun c => lN ((u2).2.2 c))))), (q1, .inl (cL, 8, .inr (.inl (fun c => lN (mk c))))), (e0, .inr (3, [.ref e1, .long (lN ((u2).2.1))])), (e1, .inl (cL, 33, .inr (.inl (fun c => lN (u3 c)))))]) [0, 10, 2, 3, 4, 5, 6, 7, 1, 8, 9] (by decide) rfl
        exact ih (t + 1) u3 u2.2.1 u2.2.2 (by omega) hnew H locs hP hD hS ls hl
  refine lv_aload_n hx hb d_S_compareAllFaults_0 rfl (lv_at hl 0 rfl) ?_
  refine va_get (D := (dC, dI)) (ci := 0) (v := .ref e0) (C := R_S) (T := F_S) (N := 5) hx hb hts in_S hown hK hP 0 rfl rfl 2 (by decide) (hts _ kw_96) (fun _ h9 => h9) rfl d_S_compareAllFaults_1 ?_
  refine wq_v (wr := [(s0, .inr (0, [.ref m0, .ref c0, .ref e0, .ref q1, .long (lN vr)])), (m0, .inr (1, [.long (lN p), .int (nI n), .long (lN (px_r p 2))])), (c0, .inr (2, [.ref k1, .ref k2, .ref k3, .ref k4, .ref k5, .int (nI cc), .int (nI gc), .int (nI oc)])), (k1, .inl (cI, 24, .inl (fun c => nI (kd c)))), (k2, .inl (cI, 24, .inl (fun c => nI (lf c)))), (k3, .inl (cI, 24, .inl (fun c => nI (rg c)))), (k4, .inl (cI, 16, .inl (fun c => nI (ol c)))), (k5, .inl (cL, 32, .inr (.inl (fun c => lN (vv c))))), (q1, .inl (cL, 8, .inr (.inl (fun c => lN (mk c)))))]) (va_runVN (As := []) (rest := []) ⟨hx, hb, hml, hown, hts⟩ (c_D_clear l dC dI cI cL st.heap.size e0 e1 sn rr) ⟨va_cnB 0 hts gi_D_clear rfl rfl rfl (hN _ kw_477) (hts _ kw_4) ⟨by decide, by decide, by decide⟩ ⟨Nat.le_of_ble_eq_true rfl, Nat.le_of_ble_eq_true rfl⟩, hts _ kw_479, hts _ ks_D_clear⟩ (wq_preVW hP hD hK hN [9, 10] rfl rfl (q0 := 9) (ci := 3) rfl rfl rfl) rfl rfl hl.1 rfl (lv_room (Nat.le_of_ble_eq_true rfl)) d_S_compareAllFaults_4 ⟨Nat.le_of_ble_eq_true rfl, Nat.le_of_ble_eq_true rfl⟩) hP hD hS hA [9, 10] [0, 1, 2, 3, 4, 5, 6, 7, 8] rfl rfl rfl (by decide) (fun u0 H locs hx0 hP hD hS hz => ?_)
  have hP : va_P (dC, dI) classes [(s0, .inr (0, [.ref m0, .ref c0, .ref e0, .ref q1, .long (lN vr)])), (m0, .inr (1, [.long (lN p), .int (nI n), .long (lN (px_r p 2))])), (c0, .inr (2, [.ref k1, .ref k2, .ref k3, .ref k4, .ref k5, .int (nI cc), .int (nI gc), .int (nI oc)])), (k1, .inl (cI, 24, .inl (fun c => nI (kd c)))), (k2, .inl (cI, 24, .inl (fun c => nI (lf c)))), (k3, .inl (cI, 24, .inl (fun c => nI (rg c)))), (k4, .inl (cI, 16, .inl (fun c => nI (ol c)))), (k5, .inl (cL, 32, .inr (.inl (fun c => lN (vv c))))), (q1, .inl (cL, 8, .inr (.inl (fun c => lN (mk c))))), (e0, .inr (3, [.ref e1, .long (lN 0)])), (e1, .inl (cL, 33, .inr (.inl (fun c => lN (u0 c)))))] H := hP
  have hD : va_D A [(s0, .inr (0, [.ref m0, .ref c0, .ref e0, .ref q1, .long (lN vr)])), (m0, .inr (1, [.long (lN p), .int (nI n), .long (lN (px_r p 2))])), (c0, .inr (2, [.ref k1, .ref k2, .ref k3, .ref k4, .ref k5, .int (nI cc), .int (nI gc), .int (nI oc)])), (k1, .inl (cI, 24, .inl (fun c => nI (kd c)))), (k2, .inl (cI, 24, .inl (fun c => nI (lf c)))), (k3, .inl (cI, 24, .inl (fun c => nI (rg c)))), (k4, .inl (cI, 16, .inl (fun c => nI (ol c)))), (k5, .inl (cL, 32, .inr (.inl (fun c => lN (vv c))))), (q1, .inl (cL, 8, .inr (.inl (fun c => lN (mk c))))), (e0, .inr (3, [.ref e1, .long (lN 0)])), (e1, .inl (cL, 33, .inr (.inl (fun c => lN (u0 c)))))] := hD
  refine lv_aload_n hx hb d_S_compareAllFaults_7 rfl (lv_at hl 0 rfl) ?_
  refine va_get (D := (dC, dI)) (ci := 0) (v := .long (lN vr)) (C := R_S) (T := F_S) (N := 5) hx hb hts in_S hown hK hP 0 rfl rfl 4 (by decide) (hts _ kw_98) (fun _ h9 => h9) rfl d_S_compareAllFaults_8 ?_
  refine lv_lstore_n (lv' := [(2, .long (lN vr)), (0, .ref s0), (1, .int (nI m))]) hx hb d_S_compareAllFaults_11 rfl hl (by decide) rfl (fun ls hl => ?_)
  refine lv_iconst (v := nI 0) hx hb d_S_compareAllFaults_12 (by decide) ?_
  refine lv_istore (lv' := [(4, .int (nI 0)), (2, .long (lN vr)), (0, .ref s0), (1, .int (nI m))]) hx hb d_S_compareAllFaults_13 hl (by decide) rfl (fun ls hl => ?_)
  have hl := lv_sub (l' := [(0, .ref s0), (1, .int (nI m)), (2, .long (lN vr)), (4, .int (nI 0))]) hl [2, 3, 1, 0] rfl
  have hP := hP.sub (ws' := [(s0, .inr (0, [.ref m0, .ref c0, .ref e0, .ref q1, .long (lN vr)])), (m0, .inr (1, [.long (lN p), .int (nI n), .long (lN (px_r p 2))])), (c0, .inr (2, [.ref k1, .ref k2, .ref k3, .ref k4, .ref k5, .int (nI cc), .int (nI gc), .int (nI oc)])), (k1, .inl (cI, 24, .inl (fun c => nI (kd c)))), (k2, .inl (cI, 24, .inl (fun c => nI (lf c)))), (k3, .inl (cI, 24, .inl (fun c => nI (rg c)))), (k4, .inl (cI, 16, .inl (fun c => nI (ol c)))), (k5, .inl (cL, 32, .inr (.inl (fun c => lN (vv c))))), (q1, .inl (cL, 8, .inr (.inl (fun c => lN (mk c))))), (e0, .inr (3, [.ref e1, .long (lN 0)])), (e1, .inl (cL, 33, .inr (.inl (fun c => lN (u0 c)))))]) [0, 1, 2, 3, 4, 5, 6, 7, 8, 9, 10] rfl
  have hD := hD.sub (ws' := [(s0, .inr (0, [.ref m0, .ref c0, .ref e0, .ref q1, .long (lN vr)])), (m0, .inr (1, [.long (lN p), .int (nI n), .long (lN (px_r p 2))])), (c0, .inr (2, [.ref k1, .ref k2, .ref k3, .ref k4, .ref k5, .int (nI cc), .int (nI gc), .int (nI oc)])), (k1, .inl (cI, 24, .inl (fun c => nI (kd c)))), (k2, .inl (cI, 24, .inl (fun c => nI (lf c)))), (k3, .inl (cI, 24, .inl (fun c => nI (rg c)))), (k4, .inl (cI, 16, .inl (fun c => nI (ol c)))), (k5, .inl (cL, 32, .inr (.inl (fun c => lN (vv c))))), (q1, .inl (cL, 8, .inr (.inl (fun c => lN (mk c))))), (e0, .inr (3, [.ref e1, .long (lN 0)])), (e1, .inl (cL, 33, .inr (.inl (fun c => lN (u0 c)))))]) [0, 1, 2, 3, 4, 5, 6, 7, 8, 9, 10] (by decide) rfl
  exact loop m 0 u0 0 vv rfl (ff_0 hx0) _ _ hP hD hS ls hl
set_option maxHeartbeats 4000000 in
set_option maxRecDepth 100000 in
theorem c_S_faults0 (l : Launch) (dC : Nat → ClassId) (dI : Nat → Nat → Nat) (cI cL : ClassId) (s0 m0 c0 e0 q1 : Nat) (vr : Nat) (k1 k2 k3 k4 k5 : Nat) (cc gc oc : Nat) (m : Nat) (hmm : m ≤ 256) : Met l y_S_faults w_S_faults ({ frames := 5, cells := 0, slots := 0, locals := 127 } : Room) (va_Pc [.ref s0, .int (nI m), .int (nI 0)] (wq_R (dC, dI) classes [(s0, .inr (0, [.ref m0, .ref c0, .ref e0, .ref q1, .long (lN vr)])), (c0, .inr (2, [.ref k1, .ref k2, .ref k3, .ref k4, .ref k5, .int (nI cc), .int (nI gc), .int (nI oc)]))] [(cI, .int), (cL, .long)])) (vp_Si (fun r => r = nI (2 * (cc + gc)))) 0 0 (fun _ => False) := by
  refine Met.ofW (cc := b_S_faults) (maxL := 5) (ret := (Option.some Jvm.ClassFile.FieldType.int)) (by decide) rfl ?_
  intro pg en st mm ar bw me co s₁ B hml hv
  obtain ⟨rfl, hP, hK, hN⟩ := hv
  have hx := B.exec
  have hb := B.bytes
  have hr := B.returns
  have hlocks := B.notSynchronized
  have hts0 := atoms_spec (ws := w_S_faults) B.pre
  have hts : ∀ w ∈ gw, w.before _ st = true := fun w h => hts0 w (List.mem_cons_of_mem _ h)
  have hown : st.vm.findClass R_S = some mm.cls := findClass_of_methodNamed B.named
  have hl := lv_entry ([.ref s0, .int (nI m), .int (nI 0)]) (n := 5) (Nat.le_of_ble_eq_true rfl)
  rw [lg_entry_eq]
  generalize (lg_sl ([.ref s0, .int (nI m), .int (nI 0)]) ++ List.replicate (5 - (lg_sl ([.ref s0, .int (nI m), .int (nI 0)])).length) Slot.unset).toArray = ls at hl ⊢
  have hl : lv_has ls 5 [(0, .ref s0), (1, .int (nI m)), (2, .int (nI 0))] := hl
  refine lv_iload_n hx hb d_S_faults_0 rfl (lv_at hl 2 rfl) ?_
  refine lv_if_lt (tgt := 9) hx hb d_S_faults_1 (by decide) (fun hc => absurd hc (show ¬ nI 0 < 0 from by decide)) (fun _ => ?_)
  refine lv_iload_n hx hb d_S_faults_4 rfl (lv_at hl 2 rfl) ?_
  refine lv_iconst (v := nI 3) hx hb d_S_faults_5 (by decide) ?_
  refine lv_icmp_le (tgt := 19) hx hb d_S_faults_6 (by decide) (fun _ => ?_) (fun hc => absurd hc (show ¬ ¬ nI 0 ≤ nI 3 from by decide))
  refine lv_aload_n hx hb d_S_faults_19 rfl (lv_at hl 0 rfl) ?_
  refine lv_iload_n hx hb d_S_faults_20 rfl (lv_at hl 1 rfl) ?_
  refine va_csv (va_Run.run (va_runV (As := [.int (nI m)]) (rest := []) ⟨hx, hb, hml, hown, hts⟩ (c_S_requirePatterns l dC dI cI cL s0 m0 c0 e0 q1 vr m hmm) (cwV 1 hts (gi_V kw_459 kw_461 ks_S_requirePatterns kw_1 gi_S_requirePatterns) rfl rfl rfl ⟨rfl, by decide, by decide, by decide⟩ ⟨Nat.le_of_ble_eq_true rfl, Nat.le_of_ble_eq_true rfl⟩) (wq_preVR hP hK hN [0] rfl (q0 := 0) (ci := 0) rfl rfl rfl) rfl rfl hl.1 rfl (lv_room (Nat.le_of_ble_eq_true rfl)) d_S_faults_21 ⟨Nat.le_of_ble_eq_true rfl, Nat.le_of_ble_eq_true rfl⟩)) (fun q1_ => ?_)
  refine lv_iload_n hx hb d_S_faults_24 rfl (lv_at hl 2 rfl) ?_
  refine lv_if_ne (tgt := 36) hx hb d_S_faults_25 (by decide) (fun hc => absurd hc (show ¬ ¬ nI 0 = 0 from by decide)) (fun _ => ?_)
  refine lv_aload_n hx hb d_S_faults_28 rfl (lv_at hl 0 rfl) ?_
  refine va_get (D := (dC, dI)) (ci := 0) (v := .ref c0) (C := R_S) (T := F_S) (N := 5) hx hb hts in_S hown hK hP 0 rfl rfl 1 (by decide) (hts _ kw_95) (fun _ h9 => h9) rfl d_S_faults_29 ?_
  refine vp_callSi (va_Run.run (va_runVN (As := []) (rest := []) ⟨hx, hb, hml, hown, hts⟩ (c_C_countFaults l dC dI cI cL c0 k1 k2 k3 k4 k5 cc gc oc) ⟨va_cnB 0 hts gi_C_countFaults rfl rfl rfl (hN _ kw_424) (hts _ kw_3) ⟨by decide, by decide, by decide⟩ ⟨Nat.le_of_ble_eq_true rfl, Nat.le_of_ble_eq_true rfl⟩, hts _ kw_426, hts _ ks_C_countFaults⟩ (wq_preVR hP hK hN [1] rfl (q0 := 1) (ci := 2) rfl rfl rfl) rfl rfl hl.1 rfl (lv_room (Nat.le_of_ble_eq_true rfl)) d_S_faults_32 ⟨Nat.le_of_ble_eq_true rfl, Nat.le_of_ble_eq_true rfl⟩)) (fun r hq => ?_)
  subst hq
  exact W.iret (v := nI (2 * (cc + gc))) hx hb hr (fun t9 ht hW => ⟨nI (2 * (cc + gc)), rfl, rfl, ht⟩) (fun _ h => nomatch h) d_S_faults_35
set_option maxHeartbeats 4000000 in
set_option maxRecDepth 100000 in
theorem c_S_faults1 (l : Launch) (dC : Nat → ClassId) (dI : Nat → Nat → Nat) (cI cL : ClassId) (sz : Nat) (s0 m0 c0 e0 q1 : Nat) (vr : Nat) (p n : Nat) (hm : md p n) (k1 k2 k3 k4 k5 : Nat) (cc gc oc : Nat) (kd lf rg ol : Nat → Nat) (hk : ck cc gc oc kd lf rg ol) (vv : Nat → Nat) (mk : Nat → Nat) (hmk : ∀ c, c < cc → mk c < 2 ^ 64) (hvr : vr < 2 ^ n) (e1 sn : Nat) (rr : Nat → Nat) (m : Nat) (hmm : m ≤ 256) : Met l y_S_faults w_S_faults ({ frames := 5, cells := 0, slots := 0, locals := 127 } : Room) (va_Pc [.ref s0, .int (nI m), .int (nI 1)] (wq_W (dC, dI) classes [(s0, .inr (0, [.ref m0, .ref c0, .ref e0, .ref q1, .long (lN vr)])), (m0, .inr (1, [.long (lN p), .int (nI n), .long (lN (px_r p 2))])), (c0, .inr (2, [.ref k1, .ref k2, .ref k3, .ref k4, .ref k5, .int (nI cc), .int (nI gc), .int (nI oc)])), (k1, .inl (cI, 24, .inl (fun c => nI (kd c)))), (k2, .inl (cI, 24, .inl (fun c => nI (lf c)))), (k3, .inl (cI, 24, .inl (fun c => nI (rg c)))), (k4, .inl (cI, 16, .inl (fun c => nI (ol c)))), (k5, .inl (cL, 32, .inr (.inl (fun c => lN (vv c))))), (q1, .inl (cL, 8, .inr (.inl (fun c => lN (mk c))))), (e0, .inr (3, [.ref e1, .long (lN sn)])), (e1, .inl (cL, 33, .inr (.inl (fun c => lN (rr c)))))] [(cI, .int), (cL, .long)] sz)) (va_Qi (fun (r : Int32) (u : (Nat → Nat) × Nat × (Nat → Nat)) => r = nI (cn_t (fsB (fun f j => fa p vr mk cc gc oc kd lf rg ol (some f) j) (fun j => fa p vr mk cc gc oc kd lf rg ol none j) m) 64)) (fun (u : (Nat → Nat) × Nat × (Nat → Nat)) t => wq_B (dC, dI) classes [(cI, .int), (cL, .long)] (va_A [(s0, .inr (0, [.ref m0, .ref c0, .ref e0, .ref q1, .long (lN vr)])), (m0, .inr (1, [.long (lN p), .int (nI n), .long (lN (px_r p 2))])), (c0, .inr (2, [.ref k1, .ref k2, .ref k3, .ref k4, .ref k5, .int (nI cc), .int (nI gc), .int (nI oc)])), (k1, .inl (cI, 24, .inl (fun c => nI (kd c)))), (k2, .inl (cI, 24, .inl (fun c => nI (lf c)))), (k3, .inl (cI, 24, .inl (fun c => nI (rg c)))), (k4, .inl (cI, 16, .inl (fun c => nI (ol c)))), (k5, .inl (cL, 32, .inr (.inl (fun c => lN (vv c))))), (q1, .inl (cL, 8, .inr (.inl (fun c => lN (mk c))))), (e0, .inr (3, [.ref e1, .long (lN sn)])), (e1, .inl (cL, 33, .inr (.inl (fun c => lN (rr c)))))] sz) [(s0, .inr (0, [.ref m0, .ref c0, .ref e0, .ref q1, .long (lN vr)])), (m0, .inr (1, [.long (lN p), .int (nI n), .long (lN (px_r p 2))])), (c0, .inr (2, [.ref k1, .ref k2, .ref k3, .ref k4, .ref k5, .int (nI cc), .int (nI gc), .int (nI oc)])), (k1, .inl (cI, 24, .inl (fun c => nI (kd c)))), (k2, .inl (cI, 24, .inl (fun c => nI (lf c)))), (k3, .inl (cI, 24, .inl (fun c => nI (rg c)))), (k4, .inl (cI, 16, .inl (fun c => nI (ol c)))), (k5, .inl (cL, 32, .inr (.inl (fun c => lN ((u).2.2 c))))), (q1, .inl (cL, 8, .inr (.inl (fun c => lN (mk c))))), (e0, .inr (3, [.ref e1, .long (lN ((u).2.1))])), (e1, .inl (cL, 33, .inr (.inl (fun c => lN ((u).1 c)))))] t) (va_A [(s0, .inr (0, [.ref m0, .ref c0, .ref e0, .ref q1, .long (lN vr)])), (m0, .inr (1, [.long (lN p), .int (nI n), .long (lN (px_r p 2))])), (c0, .inr (2, [.ref k1, .ref k2, .ref k3, .ref k4, .ref k5, .int (nI cc), .int (nI gc), .int (nI oc)])), (k1, .inl (cI, 24, .inl (fun c => nI (kd c)))), (k2, .inl (cI, 24, .inl (fun c => nI (lf c)))), (k3, .inl (cI, 24, .inl (fun c => nI (rg c)))), (k4, .inl (cI, 16, .inl (fun c => nI (ol c)))), (k5, .inl (cL, 32, .inr (.inl (fun c => lN (vv c))))), (q1, .inl (cL, 8, .inr (.inl (fun c => lN (mk c))))), (e0, .inr (3, [.ref e1, .long (lN sn)])), (e1, .inl (cL, 33, .inr (.inl (fun c => lN (rr c)))))] sz)) 0 0 (va_A [(s0, .inr (0, [.ref m0, .ref c0, .ref e0, .ref q1, .long (lN vr)])), (m0, .inr (1, [.long (lN p), .int (nI n), .long (lN (px_r p 2))])), (c0, .inr (2, [.ref k1, .ref k2, .ref k3, .ref k4, .ref k5, .int (nI cc), .int (nI gc), .int (nI oc)])), (k1, .inl (cI, 24, .inl (fun c => nI (kd c)))), (k2, .inl (cI, 24, .inl (fun c => nI (lf c)))), (k3, .inl (cI, 24, .inl (fun c => nI (rg c)))), (k4, .inl (cI, 16, .inl (fun c => nI (ol c)))), (k5, .inl (cL, 32, .inr (.inl (fun c => lN (vv c))))), (q1, .inl (cL, 8, .inr (.inl (fun c => lN (mk c))))), (e0, .inr (3, [.ref e1, .long (lN sn)])), (e1, .inl (cL, 33, .inr (.inl (fun c => lN (rr c)))))] sz) := by
  refine Met.ofW (cc := b_S_faults) (maxL := 5) (ret := (Option.some Jvm.ClassFile.FieldType.int)) (by decide) rfl ?_
  intro pg en st mm ar bw me co s₁ B hml hv
  obtain ⟨rfl, hsz, hP, hK, hD0, hN⟩ := hv
  have hx := B.exec
  have hb := B.bytes
  have hr := B.returns
  have hlocks := B.notSynchronized
  have hts0 := atoms_spec (ws := w_S_faults) B.pre
  have hts : ∀ w ∈ gw, w.before _ st = true := fun w h => hts0 w (List.mem_cons_of_mem _ h)
  have hown : st.vm.findClass R_S = some mm.cls := findClass_of_methodNamed B.named
  subst hsz
  have hD := hD0.self (sz := st.heap.size)
  generalize hAe : va_A [(s0, .inr (0, [.ref m0, .ref c0, .ref e0, .ref q1, .long (lN vr)])), (m0, .inr (1, [.long (lN p), .int (nI n), .long (lN (px_r p 2))])), (c0, .inr (2, [.ref k1, .ref k2, .ref k3, .ref k4, .ref k5, .int (nI cc), .int (nI gc), .int (nI oc)])), (k1, .inl (cI, 24, .inl (fun c => nI (kd c)))), (k2, .inl (cI, 24, .inl (fun c => nI (lf c)))), (k3, .inl (cI, 24, .inl (fun c => nI (rg c)))), (k4, .inl (cI, 16, .inl (fun c => nI (ol c)))), (k5, .inl (cL, 32, .inr (.inl (fun c => lN (vv c))))), (q1, .inl (cL, 8, .inr (.inl (fun c => lN (mk c))))), (e0, .inr (3, [.ref e1, .long (lN sn)])), (e1, .inl (cL, 33, .inr (.inl (fun c => lN (rr c)))))] st.heap.size = A at hD ⊢
  have hA : ∀ q : Nat, st.heap.size ≤ q → A q := fun q h => by rw [← hAe]; exact Or.inr h
  have hS : va_S A st.heap st.heap [] := va_S.rf
  have hl := lv_entry ([.ref s0, .int (nI m), .int (nI 1)]) (n := 5) (Nat.le_of_ble_eq_true rfl)
  rw [lg_entry_eq]
  generalize (lg_sl ([.ref s0, .int (nI m), .int (nI 1)]) ++ List.replicate (5 - (lg_sl ([.ref s0, .int (nI m), .int (nI 1)])).length) Slot.unset).toArray = ls at hl ⊢
  have hl : lv_has ls 5 [(0, .ref s0), (1, .int (nI m)), (2, .int (nI 1))] := hl
  refine lv_iload_n hx hb d_S_faults_0 rfl (lv_at hl 2 rfl) ?_
  refine lv_if_lt (tgt := 9) hx hb d_S_faults_1 (by decide) (fun hc => absurd hc (show ¬ nI 1 < 0 from by decide)) (fun _ => ?_)
  refine lv_iload_n hx hb d_S_faults_4 rfl (lv_at hl 2 rfl) ?_
  refine lv_iconst (v := nI 3) hx hb d_S_faults_5 (by decide) ?_
  refine lv_icmp_le (tgt := 19) hx hb d_S_faults_6 (by decide) (fun _ => ?_) (fun hc => absurd hc (show ¬ ¬ nI 1 ≤ nI 3 from by decide))
  refine lv_aload_n hx hb d_S_faults_19 rfl (lv_at hl 0 rfl) ?_
  refine lv_iload_n hx hb d_S_faults_20 rfl (lv_at hl 1 rfl) ?_
  refine va_csv (va_Run.run (va_runV (As := [.int (nI m)]) (rest := []) ⟨hx, hb, hml, hown, hts⟩ (c_S_requirePatterns l dC dI cI cL s0 m0 c0 e0 q1 vr m hmm) (cwV 1 hts (gi_V kw_459 kw_461 ks_S_requirePatterns kw_1 gi_S_requirePatterns) rfl rfl rfl ⟨rfl, by decide, by decide, by decide⟩ ⟨Nat.le_of_ble_eq_true rfl, Nat.le_of_ble_eq_true rfl⟩) (wq_preVR hP hK hN [0] rfl (q0 := 0) (ci := 0) rfl rfl rfl) rfl rfl hl.1 rfl (lv_room (Nat.le_of_ble_eq_true rfl)) d_S_faults_21 ⟨Nat.le_of_ble_eq_true rfl, Nat.le_of_ble_eq_true rfl⟩)) (fun q1_ => ?_)
  refine lv_iload_n hx hb d_S_faults_24 rfl (lv_at hl 2 rfl) ?_
  refine lv_if_ne (tgt := 36) hx hb d_S_faults_25 (by decide) (fun _ => ?_) (fun hc => absurd hc (show ¬ nI 1 = 0 from by decide))
  refine lv_aload_n hx hb d_S_faults_36 rfl (lv_at hl 0 rfl) ?_
  refine lv_iload_n hx hb d_S_faults_37 rfl (lv_at hl 1 rfl) ?_
  refine wq_v (wr := []) (va_runV (As := [.int (nI m)]) (rest := []) ⟨hx, hb, hml, hown, hts⟩ (c_S_compareAllFaults l dC dI cI cL st.heap.size s0 m0 c0 e0 q1 vr p n hm k1 k2 k3 k4 k5 cc gc oc kd lf rg ol hk vv mk hmk hvr e1 sn rr m hmm) (cwV 1 hts (gi_V kw_473 kw_475 ks_S_compareAllFaults kw_1 gi_S_compareAllFaults) rfl rfl rfl ⟨rfl, by decide, by decide, by decide⟩ ⟨Nat.le_of_ble_eq_true rfl, Nat.le_of_ble_eq_true rfl⟩) (wq_preVW hP hD hK hN [0, 1, 2, 3, 4, 5, 6, 7, 8, 9, 10] rfl rfl (q0 := 0) (ci := 0) rfl rfl rfl) rfl rfl hl.1 rfl (lv_room (Nat.le_of_ble_eq_true rfl)) d_S_faults_38 ⟨Nat.le_of_ble_eq_true rfl, Nat.le_of_ble_eq_true rfl⟩) hP hD hS hA [0, 1, 2, 3, 4, 5, 6, 7, 8, 9, 10] [] rfl rfl rfl (by decide) (fun u H locs hI hP hD hS hz => ?_)
  have hP : va_P (dC, dI) classes [(s0, .inr (0, [.ref m0, .ref c0, .ref e0, .ref q1, .long (lN vr)])), (m0, .inr (1, [.long (lN p), .int (nI n), .long (lN (px_r p 2))])), (c0, .inr (2, [.ref k1, .ref k2, .ref k3, .ref k4, .ref k5, .int (nI cc), .int (nI gc), .int (nI oc)])), (k1, .inl (cI, 24, .inl (fun c => nI (kd c)))), (k2, .inl (cI, 24, .inl (fun c => nI (lf c)))), (k3, .inl (cI, 24, .inl (fun c => nI (rg c)))), (k4, .inl (cI, 16, .inl (fun c => nI (ol c)))), (k5, .inl (cL, 32, .inr (.inl (fun c => lN ((u).2.2 c))))), (q1, .inl (cL, 8, .inr (.inl (fun c => lN (mk c))))), (e0, .inr (3, [.ref e1, .long (lN ((u).2.1))])), (e1, .inl (cL, 33, .inr (.inl (fun c => lN ((u).1 c)))))] H := hP
  have hD : va_D A [(s0, .inr (0, [.ref m0, .ref c0, .ref e0, .ref q1, .long (lN vr)])), (m0, .inr (1, [.long (lN p), .int (nI n), .long (lN (px_r p 2))])), (c0, .inr (2, [.ref k1, .ref k2, .ref k3, .ref k4, .ref k5, .int (nI cc), .int (nI gc), .int (nI oc)])), (k1, .inl (cI, 24, .inl (fun c => nI (kd c)))), (k2, .inl (cI, 24, .inl (fun c => nI (lf c)))), (k3, .inl (cI, 24, .inl (fun c => nI (rg c)))), (k4, .inl (cI, 16, .inl (fun c => nI (ol c)))), (k5, .inl (cL, 32, .inr (.inl (fun c => lN ((u).2.2 c))))), (q1, .inl (cL, 8, .inr (.inl (fun c => lN (mk c))))), (e0, .inr (3, [.ref e1, .long (lN ((u).2.1))])), (e1, .inl (cL, 33, .inr (.inl (fun c => lN ((u).1 c)))))] := hD
  refine lv_iload_n hx hb d_S_faults_41 rfl (lv_at hl 2 rfl) ?_
  refine lv_iconst (v := nI 1) hx hb d_S_faults_42 (by decide) ?_
  refine lv_icmp_ne (tgt := 57) hx hb d_S_faults_43 (by decide) (fun hc => absurd hc (fun z => z rfl)) (fun _ => ?_)
  refine lv_aload_n hx hb d_S_faults_46 rfl (lv_at hl 0 rfl) ?_
  refine va_get (D := (dC, dI)) (ci := 0) (v := .ref e0) (C := R_S) (T := F_S) (N := 5) hx hb hts in_S hown hK hP 0 rfl rfl 2 (by decide) (hts _ kw_96) (fun _ h9 => h9) rfl d_S_faults_47 ?_
  refine va_getN (D := (dC, dI)) (ci := 3) (v := .long (lN ((u).2.1))) (C := R_D) (T := F_D) (N := 2) hx hb hts in_D hown hK hP 9 rfl rfl 1 (by decide) (nw_use hN kw_88) (fun _ h9 => h9) rfl d_S_faults_50 ?_
  refine vp_callSi (va_Run.run (va_runS (As := [.long (lN ((u).2.1))]) (rest := []) ⟨hx, hb, hml, hown, hts⟩ (c_JL_bitCount l u.2.1 hI.2.1) (va_cwS 1 hts (gi_S kw_197 kw_198 kw_6 gi_JL_bitCount) rfl rfl rfl ⟨by decide, by decide, by decide⟩ ⟨Nat.le_of_ble_eq_true rfl, Nat.le_of_ble_eq_true rfl⟩) wq_preS0 rfl rfl hl.1 rfl (lv_room (Nat.le_of_ble_eq_true rfl)) d_S_faults_53 ⟨Nat.le_of_ble_eq_true rfl, Nat.le_of_ble_eq_true rfl⟩)) (fun r hq => ?_)
  have hq : r = nI (cn_t (fsB (fun f j => fa p vr mk cc gc oc kd lf rg ol (some f) j) (fun j => fa p vr mk cc gc oc kd lf rg ol none j) m) 64) := by rw [hq, ff_seen hI]
  subst hq
  have hP := hP.sub (ws' := [(s0, .inr (0, [.ref m0, .ref c0, .ref e0, .ref q1, .long (lN vr)])), (m0, .inr (1, [.long (lN p), .int (nI n), .long (lN (px_r p 2))])), (c0, .inr (2, [.ref k1, .ref k2, .ref k3, .ref k4, .ref k5, .int (nI cc), .int (nI gc), .int (nI oc)])), (k1, .inl (cI, 24, .inl (fun c => nI (kd c)))), (k2, .inl (cI, 24, .inl (fun c => nI (lf c)))), (k3, .inl (cI, 24, .inl (fun c => nI (rg c)))), (k4, .inl (cI, 16, .inl (fun c => nI (ol c)))), (k5, .inl (cL, 32, .inr (.inl (fun c => lN ((u).2.2 c))))), (q1, .inl (cL, 8, .inr (.inl (fun c => lN (mk c))))), (e0, .inr (3, [.ref e1, .long (lN ((u).2.1))])), (e1, .inl (cL, 33, .inr (.inl (fun c => lN ((u).1 c)))))]) [0, 1, 2, 3, 4, 5, 6, 7, 8, 9, 10] rfl
  have hD := hD.sub (ws' := [(s0, .inr (0, [.ref m0, .ref c0, .ref e0, .ref q1, .long (lN vr)])), (m0, .inr (1, [.long (lN p), .int (nI n), .long (lN (px_r p 2))])), (c0, .inr (2, [.ref k1, .ref k2, .ref k3, .ref k4, .ref k5, .int (nI cc), .int (nI gc), .int (nI oc)])), (k1, .inl (cI, 24, .inl (fun c => nI (kd c)))), (k2, .inl (cI, 24, .inl (fun c => nI (lf c)))), (k3, .inl (cI, 24, .inl (fun c => nI (rg c)))), (k4, .inl (cI, 16, .inl (fun c => nI (ol c)))), (k5, .inl (cL, 32, .inr (.inl (fun c => lN ((u).2.2 c))))), (q1, .inl (cL, 8, .inr (.inl (fun c => lN (mk c))))), (e0, .inr (3, [.ref e1, .long (lN ((u).2.1))])), (e1, .inl (cL, 33, .inr (.inl (fun c => lN ((u).1 c)))))]) [0, 1, 2, 3, 4, 5, 6, 7, 8, 9, 10] (by decide) rfl
  exact W.iret (v := nI (cn_t (fsB (fun f j => fa p vr mk cc gc oc kd lf rg ol (some f) j) (fun j => fa p vr mk cc gc oc kd lf rg ol none j) m) 64)) hx hb hr (fun t9 ht hW => ⟨⟨nI (cn_t (fsB (fun f j => fa p vr mk cc gc oc kd lf rg ol (some f) j) (fun j => fa p vr mk cc gc oc kd lf rg ol none j) m) 64), u, rfl, rfl, by rw [ht]; exact hP, va_K.moved hW.alike hK, hD⟩, hS.F ht⟩) hS.2.2 d_S_faults_56
set_option maxHeartbeats 4000000 in
set_option maxRecDepth 100000 in
theorem c_S_faults2 (l : Launch) (dC : Nat → ClassId) (dI : Nat → Nat → Nat) (cI cL : ClassId) (sz : Nat) (s0 m0 c0 e0 q1 : Nat) (vr : Nat) (p n : Nat) (hm : md p n) (k1 k2 k3 k4 k5 : Nat) (cc gc oc : Nat) (kd lf rg ol : Nat → Nat) (hk : ck cc gc oc kd lf rg ol) (vv : Nat → Nat) (mk : Nat → Nat) (hmk : ∀ c, c < cc → mk c < 2 ^ 64) (hvr : vr < 2 ^ n) (e1 sn : Nat) (rr : Nat → Nat) (m : Nat) (hmm : m ≤ 256) : Met l y_S_faults w_S_faults ({ frames := 5, cells := 0, slots := 0, locals := 127 } : Room) (va_Pc [.ref s0, .int (nI m), .int (nI 2)] (wq_W (dC, dI) classes [(s0, .inr (0, [.ref m0, .ref c0, .ref e0, .ref q1, .long (lN vr)])), (m0, .inr (1, [.long (lN p), .int (nI n), .long (lN (px_r p 2))])), (c0, .inr (2, [.ref k1, .ref k2, .ref k3, .ref k4, .ref k5, .int (nI cc), .int (nI gc), .int (nI oc)])), (k1, .inl (cI, 24, .inl (fun c => nI (kd c)))), (k2, .inl (cI, 24, .inl (fun c => nI (lf c)))), (k3, .inl (cI, 24, .inl (fun c => nI (rg c)))), (k4, .inl (cI, 16, .inl (fun c => nI (ol c)))), (k5, .inl (cL, 32, .inr (.inl (fun c => lN (vv c))))), (q1, .inl (cL, 8, .inr (.inl (fun c => lN (mk c))))), (e0, .inr (3, [.ref e1, .long (lN sn)])), (e1, .inl (cL, 33, .inr (.inl (fun c => lN (rr c)))))] [(cI, .int), (cL, .long)] sz)) (va_Qi (fun (r : Int32) (u : (Nat → Nat) × Nat × (Nat → Nat)) => r = nI (cn_t (ffB p (fun f j => fa p vr mk cc gc oc kd lf rg ol (some f) j) (fun j => fa p vr mk cc gc oc kd lf rg ol none j) m) 64)) (fun (u : (Nat → Nat) × Nat × (Nat → Nat)) t => wq_B (dC, dI) classes [(cI, .int), (cL, .long)] (va_A [(s0, .inr (0, [.ref m0, .ref c0, .ref e0, .ref q1, .long (lN vr)])), (m0, .inr (1, [.long (lN p), .int (nI n), .long (lN (px_r p 2))])), (c0, .inr (2, [.ref k1, .ref k2, .ref k3, .ref k4, .ref k5, .int (nI cc), .int (nI gc), .int (nI oc)])), (k1, .inl (cI, 24, .inl (fun c => nI (kd c)))), (k2, .inl (cI, 24, .inl (fun c => nI (lf c)))), (k3, .inl (cI, 24, .inl (fun c => nI (rg c)))), (k4, .inl (cI, 16, .inl (fun c => nI (ol c)))), (k5, .inl (cL, 32, .inr (.inl (fun c => lN (vv c))))), (q1, .inl (cL, 8, .inr (.inl (fun c => lN (mk c))))), (e0, .inr (3, [.ref e1, .long (lN sn)])), (e1, .inl (cL, 33, .inr (.inl (fun c => lN (rr c)))))] sz) [(s0, .inr (0, [.ref m0, .ref c0, .ref e0, .ref q1, .long (lN vr)])), (m0, .inr (1, [.long (lN p), .int (nI n), .long (lN (px_r p 2))])), (c0, .inr (2, [.ref k1, .ref k2, .ref k3, .ref k4, .ref k5, .int (nI cc), .int (nI gc), .int (nI oc)])), (k1, .inl (cI, 24, .inl (fun c => nI (kd c)))), (k2, .inl (cI, 24, .inl (fun c => nI (lf c)))), (k3, .inl (cI, 24, .inl (fun c => nI (rg c)))), (k4, .inl (cI, 16, .inl (fun c => nI (ol c)))), (k5, .inl (cL, 32, .inr (.inl (fun c => lN ((u).2.2 c))))), (q1, .inl (cL, 8, .inr (.inl (fun c => lN (mk c))))), (e0, .inr (3, [.ref e1, .long (lN ((u).2.1))])), (e1, .inl (cL, 33, .inr (.inl (fun c => lN ((u).1 c)))))] t) (va_A [(s0, .inr (0, [.ref m0, .ref c0, .ref e0, .ref q1, .long (lN vr)])), (m0, .inr (1, [.long (lN p), .int (nI n), .long (lN (px_r p 2))])), (c0, .inr (2, [.ref k1, .ref k2, .ref k3, .ref k4, .ref k5, .int (nI cc), .int (nI gc), .int (nI oc)])), (k1, .inl (cI, 24, .inl (fun c => nI (kd c)))), (k2, .inl (cI, 24, .inl (fun c => nI (lf c)))), (k3, .inl (cI, 24, .inl (fun c => nI (rg c)))), (k4, .inl (cI, 16, .inl (fun c => nI (ol c)))), (k5, .inl (cL, 32, .inr (.inl (fun c => lN (vv c))))), (q1, .inl (cL, 8, .inr (.inl (fun c => lN (mk c))))), (e0, .inr (3, [.ref e1, .long (lN sn)])), (e1, .inl (cL, 33, .inr (.inl (fun c => lN (rr c)))))] sz)) 0 0 (va_A [(s0, .inr (0, [.ref m0, .ref c0, .ref e0, .ref q1, .long (lN vr)])), (m0, .inr (1, [.long (lN p), .int (nI n), .long (lN (px_r p 2))])), (c0, .inr (2, [.ref k1, .ref k2, .ref k3, .ref k4, .ref k5, .int (nI cc), .int (nI gc), .int (nI oc)])), (k1, .inl (cI, 24, .inl (fun c => nI (kd c)))), (k2, .inl (cI, 24, .inl (fun c => nI (lf c)))), (k3, .inl (cI, 24, .inl (fun c => nI (rg c)))), (k4, .inl (cI, 16, .inl (fun c => nI (ol c)))), (k5, .inl (cL, 32, .inr (.inl (fun c => lN (vv c))))), (q1, .inl (cL, 8, .inr (.inl (fun c => lN (mk c))))), (e0, .inr (3, [.ref e1, .long (lN sn)])), (e1, .inl (cL, 33, .inr (.inl (fun c => lN (rr c)))))] sz) := by
  refine Met.ofW (cc := b_S_faults) (maxL := 5) (ret := (Option.some Jvm.ClassFile.FieldType.int)) (by decide) rfl ?_
  intro pg en st mm ar bw me co s₁ B hml hv
  obtain ⟨rfl, hsz, hP, hK, hD0, hN⟩ := hv
  have hx := B.exec
  have hb := B.bytes
  have hr := B.returns
  have hlocks := B.notSynchronized
  have hts0 := atoms_spec (ws := w_S_faults) B.pre
  have hts : ∀ w ∈ gw, w.before _ st = true := fun w h => hts0 w (List.mem_cons_of_mem _ h)
  have hown : st.vm.findClass R_S = some mm.cls := findClass_of_methodNamed B.named
  subst hsz
  have hD := hD0.self (sz := st.heap.size)
  generalize hAe : va_A [(s0, .inr (0, [.ref m0, .ref c0, .ref e0, .ref q1, .long (lN vr)])), (m0, .inr (1, [.long (lN p), .int (nI n), .long (lN (px_r p 2))])), (c0, .inr (2, [.ref k1, .ref k2, .ref k3, .ref k4, .ref k5, .int (nI cc), .int (nI gc), .int (nI oc)])), (k1, .inl (cI, 24, .inl (fun c => nI (kd c)))), (k2, .inl (cI, 24, .inl (fun c => nI (lf c)))), (k3, .inl (cI, 24, .inl (fun c => nI (rg c)))), (k4, .inl (cI, 16, .inl (fun c => nI (ol c)))), (k5, .inl (cL, 32, .inr (.inl (fun c => lN (vv c))))), (q1, .inl (cL, 8, .inr (.inl (fun c => lN (mk c))))), (e0, .inr (3, [.ref e1, .long (lN sn)])), (e1, .inl (cL, 33, .inr (.inl (fun c => lN (rr c)))))] st.heap.size = A at hD ⊢
  have hA : ∀ q : Nat, st.heap.size ≤ q → A q := fun q h => by rw [← hAe]; exact Or.inr h
  have hS : va_S A st.heap st.heap [] := va_S.rf
  have hl := lv_entry ([.ref s0, .int (nI m), .int (nI 2)]) (n := 5) (Nat.le_of_ble_eq_true rfl)
  rw [lg_entry_eq]
  generalize (lg_sl ([.ref s0, .int (nI m), .int (nI 2)]) ++ List.replicate (5 - (lg_sl ([.ref s0, .int (nI m), .int (nI 2)])).length) Slot.unset).toArray = ls at hl ⊢
  have hl : lv_has ls 5 [(0, .ref s0), (1, .int (nI m)), (2, .int (nI 2))] := hl
  refine lv_iload_n hx hb d_S_faults_0 rfl (lv_at hl 2 rfl) ?_
  refine lv_if_lt (tgt := 9) hx hb d_S_faults_1 (by decide) (fun hc => absurd hc (show ¬ nI 2 < 0 from by decide)) (fun _ => ?_)
  refine lv_iload_n hx hb d_S_faults_4 rfl (lv_at hl 2 rfl) ?_
  refine lv_iconst (v := nI 3) hx hb d_S_faults_5 (by decide) ?_
  refine lv_icmp_le (tgt := 19) hx hb d_S_faults_6 (by decide) (fun _ => ?_) (fun hc => absurd hc (show ¬ ¬ nI 2 ≤ nI 3 from by decide))
  refine lv_aload_n hx hb d_S_faults_19 rfl (lv_at hl 0 rfl) ?_
  refine lv_iload_n hx hb d_S_faults_20 rfl (lv_at hl 1 rfl) ?_
  refine va_csv (va_Run.run (va_runV (As := [.int (nI m)]) (rest := []) ⟨hx, hb, hml, hown, hts⟩ (c_S_requirePatterns l dC dI cI cL s0 m0 c0 e0 q1 vr m hmm) (cwV 1 hts (gi_V kw_459 kw_461 ks_S_requirePatterns kw_1 gi_S_requirePatterns) rfl rfl rfl ⟨rfl, by decide, by decide, by decide⟩ ⟨Nat.le_of_ble_eq_true rfl, Nat.le_of_ble_eq_true rfl⟩) (wq_preVR hP hK hN [0] rfl (q0 := 0) (ci := 0) rfl rfl rfl) rfl rfl hl.1 rfl (lv_room (Nat.le_of_ble_eq_true rfl)) d_S_faults_21 ⟨Nat.le_of_ble_eq_true rfl, Nat.le_of_ble_eq_true rfl⟩)) (fun q1_ => ?_)
  refine lv_iload_n hx hb d_S_faults_24 rfl (lv_at hl 2 rfl) ?_
  refine lv_if_ne (tgt := 36) hx hb d_S_faults_25 (by decide) (fun _ => ?_) (fun hc => absurd hc (show ¬ nI 2 = 0 from by decide))
  refine lv_aload_n hx hb d_S_faults_36 rfl (lv_at hl 0 rfl) ?_
  refine lv_iload_n hx hb d_S_faults_37 rfl (lv_at hl 1 rfl) ?_
  refine wq_v (wr := []) (va_runV (As := [.int (nI m)]) (rest := []) ⟨hx, hb, hml, hown, hts⟩ (c_S_compareAllFaults l dC dI cI cL st.heap.size s0 m0 c0 e0 q1 vr p n hm k1 k2 k3 k4 k5 cc gc oc kd lf rg ol hk vv mk hmk hvr e1 sn rr m hmm) (cwV 1 hts (gi_V kw_473 kw_475 ks_S_compareAllFaults kw_1 gi_S_compareAllFaults) rfl rfl rfl ⟨rfl, by decide, by decide, by decide⟩ ⟨Nat.le_of_ble_eq_true rfl, Nat.le_of_ble_eq_true rfl⟩) (wq_preVW hP hD hK hN [0, 1, 2, 3, 4, 5, 6, 7, 8, 9, 10] rfl rfl (q0 := 0) (ci := 0) rfl rfl rfl) rfl rfl hl.1 rfl (lv_room (Nat.le_of_ble_eq_true rfl)) d_S_faults_38 ⟨Nat.le_of_ble_eq_true rfl, Nat.le_of_ble_eq_true rfl⟩) hP hD hS hA [0, 1, 2, 3, 4, 5, 6, 7, 8, 9, 10] [] rfl rfl rfl (by decide) (fun u H locs hI hP hD hS hz => ?_)
  have hP : va_P (dC, dI) classes [(s0, .inr (0, [.ref m0, .ref c0, .ref e0, .ref q1, .long (lN vr)])), (m0, .inr (1, [.long (lN p), .int (nI n), .long (lN (px_r p 2))])), (c0, .inr (2, [.ref k1, .ref k2, .ref k3, .ref k4, .ref k5, .int (nI cc), .int (nI gc), .int (nI oc)])), (k1, .inl (cI, 24, .inl (fun c => nI (kd c)))), (k2, .inl (cI, 24, .inl (fun c => nI (lf c)))), (k3, .inl (cI, 24, .inl (fun c => nI (rg c)))), (k4, .inl (cI, 16, .inl (fun c => nI (ol c)))), (k5, .inl (cL, 32, .inr (.inl (fun c => lN ((u).2.2 c))))), (q1, .inl (cL, 8, .inr (.inl (fun c => lN (mk c))))), (e0, .inr (3, [.ref e1, .long (lN ((u).2.1))])), (e1, .inl (cL, 33, .inr (.inl (fun c => lN ((u).1 c)))))] H := hP
  have hD : va_D A [(s0, .inr (0, [.ref m0, .ref c0, .ref e0, .ref q1, .long (lN vr)])), (m0, .inr (1, [.long (lN p), .int (nI n), .long (lN (px_r p 2))])), (c0, .inr (2, [.ref k1, .ref k2, .ref k3, .ref k4, .ref k5, .int (nI cc), .int (nI gc), .int (nI oc)])), (k1, .inl (cI, 24, .inl (fun c => nI (kd c)))), (k2, .inl (cI, 24, .inl (fun c => nI (lf c)))), (k3, .inl (cI, 24, .inl (fun c => nI (rg c)))), (k4, .inl (cI, 16, .inl (fun c => nI (ol c)))), (k5, .inl (cL, 32, .inr (.inl (fun c => lN ((u).2.2 c))))), (q1, .inl (cL, 8, .inr (.inl (fun c => lN (mk c))))), (e0, .inr (3, [.ref e1, .long (lN ((u).2.1))])), (e1, .inl (cL, 33, .inr (.inl (fun c => lN ((u).1 c)))))] := hD
  refine lv_iload_n hx hb d_S_faults_41 rfl (lv_at hl 2 rfl) ?_
  refine lv_iconst (v := nI 1) hx hb d_S_faults_42 (by decide) ?_
  refine lv_icmp_ne (tgt := 57) hx hb d_S_faults_43 (by decide) (fun _ => ?_) (fun hc => absurd hc (show ¬ nI 2 = nI 1 from by decide))
  refine lv_aload_n hx hb d_S_faults_57 rfl (lv_at hl 0 rfl) ?_
  refine va_get (D := (dC, dI)) (ci := 0) (v := .ref e0) (C := R_S) (T := F_S) (N := 5) hx hb hts in_S hown hK hP 0 rfl rfl 2 (by decide) (hts _ kw_96) (fun _ h9 => h9) rfl d_S_faults_58 ?_
  refine vp_callSl (va_Run.run (va_runVN (As := []) (rest := []) ⟨hx, hb, hml, hown, hts⟩ (c_D_found l dC dI cI cL e0 e1 u.2.1 u.1 hI.1.1) ⟨va_cnB 0 hts gi_D_found rfl rfl rfl (hN _ kw_501) (hts _ kw_4) ⟨by decide, by decide, by decide⟩ ⟨Nat.le_of_ble_eq_true rfl, Nat.le_of_ble_eq_true rfl⟩, hts _ kw_503, hts _ ks_D_found⟩ (wq_preVR hP hK hN [9, 10] rfl (q0 := 9) (ci := 3) rfl rfl rfl) rfl rfl hl.1 rfl (lv_room (Nat.le_of_ble_eq_true rfl)) d_S_faults_61 ⟨Nat.le_of_ble_eq_true rfl, Nat.le_of_ble_eq_true rfl⟩)) (fun r hq => ?_)
  subst hq
  have hfl : dr_or u.1 33 < 2 ^ 64 := dr_or_lt 33 (fun j hj => hI.1.1 j hj)
  refine lv_lstore_n (lv' := [(3, .long (lN (dr_or u.1 33))), (0, .ref s0), (1, .int (nI m)), (2, .int (nI 2))]) hx hb d_S_faults_64 rfl hl (by decide) rfl (fun ls hl => ?_)
  refine lv_iload_n hx hb d_S_faults_65 rfl (lv_at hl 3 rfl) ?_
  refine lv_iconst (v := nI 2) hx hb d_S_faults_66 (by decide) ?_
  refine lv_icmp_ne (tgt := 77) hx hb d_S_faults_67 (by decide) (fun hc => absurd hc (fun z => z rfl)) (fun _ => ?_)
  refine lv_lload_n hx hb d_S_faults_70 rfl (lv_at hl 0 rfl) ?_
  refine vp_callSi (va_Run.run (va_runS (As := [.long (lN (dr_or u.1 33))]) (rest := []) ⟨hx, hb, hml, hown, hts⟩ (c_JL_bitCount l (dr_or u.1 33) hfl) (va_cwS 1 hts (gi_S kw_197 kw_198 kw_6 gi_JL_bitCount) rfl rfl rfl ⟨by decide, by decide, by decide⟩ ⟨Nat.le_of_ble_eq_true rfl, Nat.le_of_ble_eq_true rfl⟩) wq_preS0 rfl rfl hl.1 rfl (lv_room (Nat.le_of_ble_eq_true rfl)) d_S_faults_71 ⟨Nat.le_of_ble_eq_true rfl, Nat.le_of_ble_eq_true rfl⟩)) (fun r hq => ?_)
  have hq : r = nI (cn_t (ffB p (fun f j => fa p vr mk cc gc oc kd lf rg ol (some f) j) (fun j => fa p vr mk cc gc oc kd lf rg ol none j) m) 64) := by rw [hq, ff_found hI]
  subst hq
  refine lv_goto (tgt := 93) hx hb d_S_faults_74 (by decide) ?_
  have hP := hP.sub (ws' := [(s0, .inr (0, [.ref m0, .ref c0, .ref e0, .ref q1, .long (lN vr)])), (m0, .inr (1, [.long (lN p), .int (nI n), .long (lN (px_r p 2))])), (c0, .inr (2, [.ref k1, .ref k2, .ref k3, .ref k4, .ref k5, .int (nI cc), .int (nI gc), .int (nI oc)])), (k1, .inl (cI, 24, .inl (fun c => nI (kd c)))), (k2, .inl (cI, 24, .inl (fun c => nI (lf c)))), (k3, .inl (cI, 24, .inl (fun c => nI (rg c)))), (k4, .inl (cI, 16, .inl (fun c => nI (ol c)))), (k5, .inl (cL, 32, .inr (.inl (fun c => lN ((u).2.2 c))))), (q1, .inl (cL, 8, .inr (.inl (fun c => lN (mk c))))), (e0, .inr (3, [.ref e1, .long (lN ((u).2.1))])), (e1, .inl (cL, 33, .inr (.inl (fun c => lN ((u).1 c)))))]) [0, 1, 2, 3, 4, 5, 6, 7, 8, 9, 10] rfl
  have hD := hD.sub (ws' := [(s0, .inr (0, [.ref m0, .ref c0, .ref e0, .ref q1, .long (lN vr)])), (m0, .inr (1, [.long (lN p), .int (nI n), .long (lN (px_r p 2))])), (c0, .inr (2, [.ref k1, .ref k2, .ref k3, .ref k4, .ref k5, .int (nI cc), .int (nI gc), .int (nI oc)])), (k1, .inl (cI, 24, .inl (fun c => nI (kd c)))), (k2, .inl (cI, 24, .inl (fun c => nI (lf c)))), (k3, .inl (cI, 24, .inl (fun c => nI (rg c)))), (k4, .inl (cI, 16, .inl (fun c => nI (ol c)))), (k5, .inl (cL, 32, .inr (.inl (fun c => lN ((u).2.2 c))))), (q1, .inl (cL, 8, .inr (.inl (fun c => lN (mk c))))), (e0, .inr (3, [.ref e1, .long (lN ((u).2.1))])), (e1, .inl (cL, 33, .inr (.inl (fun c => lN ((u).1 c)))))]) [0, 1, 2, 3, 4, 5, 6, 7, 8, 9, 10] (by decide) rfl
  exact W.iret (v := nI (cn_t (ffB p (fun f j => fa p vr mk cc gc oc kd lf rg ol (some f) j) (fun j => fa p vr mk cc gc oc kd lf rg ol none j) m) 64)) hx hb hr (fun t9 ht hW => ⟨⟨nI (cn_t (ffB p (fun f j => fa p vr mk cc gc oc kd lf rg ol (some f) j) (fun j => fa p vr mk cc gc oc kd lf rg ol none j) m) 64), u, rfl, rfl, by rw [ht]; exact hP, va_K.moved hW.alike hK, hD⟩, hS.F ht⟩) hS.2.2 d_S_faults_93
set_option maxHeartbeats 4000000 in
set_option maxRecDepth 100000 in
theorem c_S_faults3 (l : Launch) (dC : Nat → ClassId) (dI : Nat → Nat → Nat) (cI cL : ClassId) (sz : Nat) (s0 m0 c0 e0 q1 : Nat) (vr : Nat) (p n : Nat) (hm : md p n) (k1 k2 k3 k4 k5 : Nat) (cc gc oc : Nat) (kd lf rg ol : Nat → Nat) (hk : ck cc gc oc kd lf rg ol) (vv : Nat → Nat) (mk : Nat → Nat) (hmk : ∀ c, c < cc → mk c < 2 ^ 64) (hvr : vr < 2 ^ n) (e1 sn : Nat) (rr : Nat → Nat) (m : Nat) (hmm : m ≤ 256) : Met l y_S_faults w_S_faults ({ frames := 5, cells := 0, slots := 0, locals := 127 } : Room) (va_Pc [.ref s0, .int (nI m), .int (nI 3)] (wq_W (dC, dI) classes [(s0, .inr (0, [.ref m0, .ref c0, .ref e0, .ref q1, .long (lN vr)])), (m0, .inr (1, [.long (lN p), .int (nI n), .long (lN (px_r p 2))])), (c0, .inr (2, [.ref k1, .ref k2, .ref k3, .ref k4, .ref k5, .int (nI cc), .int (nI gc), .int (nI oc)])), (k1, .inl (cI, 24, .inl (fun c => nI (kd c)))), (k2, .inl (cI, 24, .inl (fun c => nI (lf c)))), (k3, .inl (cI, 24, .inl (fun c => nI (rg c)))), (k4, .inl (cI, 16, .inl (fun c => nI (ol c)))), (k5, .inl (cL, 32, .inr (.inl (fun c => lN (vv c))))), (q1, .inl (cL, 8, .inr (.inl (fun c => lN (mk c))))), (e0, .inr (3, [.ref e1, .long (lN sn)])), (e1, .inl (cL, 33, .inr (.inl (fun c => lN (rr c)))))] [(cI, .int), (cL, .long)] sz)) (va_Qi (fun (r : Int32) (u : (Nat → Nat) × Nat × (Nat → Nat)) => (∃ k, k < 64 ∧ (fsB (fun f j => fa p vr mk cc gc oc kd lf rg ol (some f) j) (fun j => fa p vr mk cc gc oc kd lf rg ol none j) m k = true ∧ ¬ ffB p (fun f j => fa p vr mk cc gc oc kd lf rg ol (some f) j) (fun j => fa p vr mk cc gc oc kd lf rg ol none j) m k = true) ∧ (∀ j, j < k → ¬ (fsB (fun f j => fa p vr mk cc gc oc kd lf rg ol (some f) j) (fun j => fa p vr mk cc gc oc kd lf rg ol none j) m j = true ∧ ¬ ffB p (fun f j => fa p vr mk cc gc oc kd lf rg ol (some f) j) (fun j => fa p vr mk cc gc oc kd lf rg ol none j) m j = true)) ∧ r = nI k) ∨ ((∀ j, j < 64 → ¬ (fsB (fun f j => fa p vr mk cc gc oc kd lf rg ol (some f) j) (fun j => fa p vr mk cc gc oc kd lf rg ol none j) m j = true ∧ ¬ ffB p (fun f j => fa p vr mk cc gc oc kd lf rg ol (some f) j) (fun j => fa p vr mk cc gc oc kd lf rg ol none j) m j = true)) ∧ r = -1)) (fun (u : (Nat → Nat) × Nat × (Nat → Nat)) t => wq_B (dC, dI) classes [(cI, .int), (cL, .long)] (va_A [(s0, .inr (0, [.ref m0, .ref c0, .ref e0, .ref q1, .long (lN vr)])), (m0, .inr (1, [.long (lN p), .int (nI n), .long (lN (px_r p 2))])), (c0, .inr (2, [.ref k1, .ref k2, .ref k3, .ref k4, .ref k5, .int (nI cc), .int (nI gc), .int (nI oc)])), (k1, .inl (cI, 24, .inl (fun c => nI (kd c)))), (k2, .inl (cI, 24, .inl (fun c => nI (lf c)))), (k3, .inl (cI, 24, .inl (fun c => nI (rg c)))), (k4, .inl (cI, 16, .inl (fun c => nI (ol c)))), (k5, .inl (cL, 32, .inr (.inl (fun c => lN (vv c))))), (q1, .inl (cL, 8, .inr (.inl (fun c => lN (mk c))))), (e0, .inr (3, [.ref e1, .long (lN sn)])), (e1, .inl (cL, 33, .inr (.inl (fun c => lN (rr c)))))] sz) [(s0, .inr (0, [.ref m0, .ref c0, .ref e0, .ref q1, .long (lN vr)])), (m0, .inr (1, [.long (lN p), .int (nI n), .long (lN (px_r p 2))])), (c0, .inr (2, [.ref k1, .ref k2, .ref k3, .ref k4, .ref k5, .int (nI cc), .int (nI gc), .int (nI oc)])), (k1, .inl (cI, 24, .inl (fun c => nI (kd c)))), (k2, .inl (cI, 24, .inl (fun c => nI (lf c)))), (k3, .inl (cI, 24, .inl (fun c => nI (rg c)))), (k4, .inl (cI, 16, .inl (fun c => nI (ol c)))), (k5, .inl (cL, 32, .inr (.inl (fun c => lN ((u).2.2 c))))), (q1, .inl (cL, 8, .inr (.inl (fun c => lN (mk c))))), (e0, .inr (3, [.ref e1, .long (lN ((u).2.1))])), (e1, .inl (cL, 33, .inr (.inl (fun c => lN ((u).1 c)))))] t) (va_A [(s0, .inr (0, [.ref m0, .ref c0, .ref e0, .ref q1, .long (lN vr)])), (m0, .inr (1, [.long (lN p), .int (nI n), .long (lN (px_r p 2))])), (c0, .inr (2, [.ref k1, .ref k2, .ref k3, .ref k4, .ref k5, .int (nI cc), .int (nI gc), .int (nI oc)])), (k1, .inl (cI, 24, .inl (fun c => nI (kd c)))), (k2, .inl (cI, 24, .inl (fun c => nI (lf c)))), (k3, .inl (cI, 24, .inl (fun c => nI (rg c)))), (k4, .inl (cI, 16, .inl (fun c => nI (ol c)))), (k5, .inl (cL, 32, .inr (.inl (fun c => lN (vv c))))), (q1, .inl (cL, 8, .inr (.inl (fun c => lN (mk c))))), (e0, .inr (3, [.ref e1, .long (lN sn)])), (e1, .inl (cL, 33, .inr (.inl (fun c => lN (rr c)))))] sz)) 0 0 (va_A [(s0, .inr (0, [.ref m0, .ref c0, .ref e0, .ref q1, .long (lN vr)])), (m0, .inr (1, [.long (lN p), .int (nI n), .long (lN (px_r p 2))])), (c0, .inr (2, [.ref k1, .ref k2, .ref k3, .ref k4, .ref k5, .int (nI cc), .int (nI gc), .int (nI oc)])), (k1, .inl (cI, 24, .inl (fun c => nI (kd c)))), (k2, .inl (cI, 24, .inl (fun c => nI (lf c)))), (k3, .inl (cI, 24, .inl (fun c => nI (rg c)))), (k4, .inl (cI, 16, .inl (fun c => nI (ol c)))), (k5, .inl (cL, 32, .inr (.inl (fun c => lN (vv c))))), (q1, .inl (cL, 8, .inr (.inl (fun c => lN (mk c))))), (e0, .inr (3, [.ref e1, .long (lN sn)])), (e1, .inl (cL, 33, .inr (.inl (fun c => lN (rr c)))))] sz) := by
  refine Met.ofW (cc := b_S_faults) (maxL := 5) (ret := (Option.some Jvm.ClassFile.FieldType.int)) (by decide) rfl ?_
  intro pg en st mm ar bw me co s₁ B hml hv
  obtain ⟨rfl, hsz, hP, hK, hD0, hN⟩ := hv
  have hx := B.exec
  have hb := B.bytes
  have hr := B.returns
  have hlocks := B.notSynchronized
  have hts0 := atoms_spec (ws := w_S_faults) B.pre
  have hts : ∀ w ∈ gw, w.before _ st = true := fun w h => hts0 w (List.mem_cons_of_mem _ h)
  have hown : st.vm.findClass R_S = some mm.cls := findClass_of_methodNamed B.named
  subst hsz
  have hD := hD0.self (sz := st.heap.size)
  generalize hAe : va_A [(s0, .inr (0, [.ref m0, .ref c0, .ref e0, .ref q1, .long (lN vr)])), (m0, .inr (1, [.long (lN p), .int (nI n), .long (lN (px_r p 2))])), (c0, .inr (2, [.ref k1, .ref k2, .ref k3, .ref k4, .ref k5, .int (nI cc), .int (nI gc), .int (nI oc)])), (k1, .inl (cI, 24, .inl (fun c => nI (kd c)))), (k2, .inl (cI, 24, .inl (fun c => nI (lf c)))), (k3, .inl (cI, 24, .inl (fun c => nI (rg c)))), (k4, .inl (cI, 16, .inl (fun c => nI (ol c)))), (k5, .inl (cL, 32, .inr (.inl (fun c => lN (vv c))))), (q1, .inl (cL, 8, .inr (.inl (fun c => lN (mk c))))), (e0, .inr (3, [.ref e1, .long (lN sn)])), (e1, .inl (cL, 33, .inr (.inl (fun c => lN (rr c)))))] st.heap.size = A at hD ⊢
  have hA : ∀ q : Nat, st.heap.size ≤ q → A q := fun q h => by rw [← hAe]; exact Or.inr h
  have hS : va_S A st.heap st.heap [] := va_S.rf
  have hl := lv_entry ([.ref s0, .int (nI m), .int (nI 3)]) (n := 5) (Nat.le_of_ble_eq_true rfl)
  rw [lg_entry_eq]
  generalize (lg_sl ([.ref s0, .int (nI m), .int (nI 3)]) ++ List.replicate (5 - (lg_sl ([.ref s0, .int (nI m), .int (nI 3)])).length) Slot.unset).toArray = ls at hl ⊢
  have hl : lv_has ls 5 [(0, .ref s0), (1, .int (nI m)), (2, .int (nI 3))] := hl
  refine lv_iload_n hx hb d_S_faults_0 rfl (lv_at hl 2 rfl) ?_
  refine lv_if_lt (tgt := 9) hx hb d_S_faults_1 (by decide) (fun hc => absurd hc (show ¬ nI 3 < 0 from by decide)) (fun _ => ?_)
  refine lv_iload_n hx hb d_S_faults_4 rfl (lv_at hl 2 rfl) ?_
  refine lv_iconst (v := nI 3) hx hb d_S_faults_5 (by decide) ?_
  refine lv_icmp_le (tgt := 19) hx hb d_S_faults_6 (by decide) (fun _ => ?_) (fun hc => absurd hc (show ¬ ¬ nI 3 ≤ nI 3 from by decide))
  refine lv_aload_n hx hb d_S_faults_19 rfl (lv_at hl 0 rfl) ?_
  refine lv_iload_n hx hb d_S_faults_20 rfl (lv_at hl 1 rfl) ?_
  refine va_csv (va_Run.run (va_runV (As := [.int (nI m)]) (rest := []) ⟨hx, hb, hml, hown, hts⟩ (c_S_requirePatterns l dC dI cI cL s0 m0 c0 e0 q1 vr m hmm) (cwV 1 hts (gi_V kw_459 kw_461 ks_S_requirePatterns kw_1 gi_S_requirePatterns) rfl rfl rfl ⟨rfl, by decide, by decide, by decide⟩ ⟨Nat.le_of_ble_eq_true rfl, Nat.le_of_ble_eq_true rfl⟩) (wq_preVR hP hK hN [0] rfl (q0 := 0) (ci := 0) rfl rfl rfl) rfl rfl hl.1 rfl (lv_room (Nat.le_of_ble_eq_true rfl)) d_S_faults_21 ⟨Nat.le_of_ble_eq_true rfl, Nat.le_of_ble_eq_true rfl⟩)) (fun q1_ => ?_)
  refine lv_iload_n hx hb d_S_faults_24 rfl (lv_at hl 2 rfl) ?_
  refine lv_if_ne (tgt := 36) hx hb d_S_faults_25 (by decide) (fun _ => ?_) (fun hc => absurd hc (show ¬ nI 3 = 0 from by decide))
  refine lv_aload_n hx hb d_S_faults_36 rfl (lv_at hl 0 rfl) ?_
  refine lv_iload_n hx hb d_S_faults_37 rfl (lv_at hl 1 rfl) ?_
  refine wq_v (wr := []) (va_runV (As := [.int (nI m)]) (rest := []) ⟨hx, hb, hml, hown, hts⟩ (c_S_compareAllFaults l dC dI cI cL st.heap.size s0 m0 c0 e0 q1 vr p n hm k1 k2 k3 k4 k5 cc gc oc kd lf rg ol hk vv mk hmk hvr e1 sn rr m hmm) (cwV 1 hts (gi_V kw_473 kw_475 ks_S_compareAllFaults kw_1 gi_S_compareAllFaults) rfl rfl rfl ⟨rfl, by decide, by decide, by decide⟩ ⟨Nat.le_of_ble_eq_true rfl, Nat.le_of_ble_eq_true rfl⟩) (wq_preVW hP hD hK hN [0, 1, 2, 3, 4, 5, 6, 7, 8, 9, 10] rfl rfl (q0 := 0) (ci := 0) rfl rfl rfl) rfl rfl hl.1 rfl (lv_room (Nat.le_of_ble_eq_true rfl)) d_S_faults_38 ⟨Nat.le_of_ble_eq_true rfl, Nat.le_of_ble_eq_true rfl⟩) hP hD hS hA [0, 1, 2, 3, 4, 5, 6, 7, 8, 9, 10] [] rfl rfl rfl (by decide) (fun u H locs hI hP hD hS hz => ?_)
  have hP : va_P (dC, dI) classes [(s0, .inr (0, [.ref m0, .ref c0, .ref e0, .ref q1, .long (lN vr)])), (m0, .inr (1, [.long (lN p), .int (nI n), .long (lN (px_r p 2))])), (c0, .inr (2, [.ref k1, .ref k2, .ref k3, .ref k4, .ref k5, .int (nI cc), .int (nI gc), .int (nI oc)])), (k1, .inl (cI, 24, .inl (fun c => nI (kd c)))), (k2, .inl (cI, 24, .inl (fun c => nI (lf c)))), (k3, .inl (cI, 24, .inl (fun c => nI (rg c)))), (k4, .inl (cI, 16, .inl (fun c => nI (ol c)))), (k5, .inl (cL, 32, .inr (.inl (fun c => lN ((u).2.2 c))))), (q1, .inl (cL, 8, .inr (.inl (fun c => lN (mk c))))), (e0, .inr (3, [.ref e1, .long (lN ((u).2.1))])), (e1, .inl (cL, 33, .inr (.inl (fun c => lN ((u).1 c)))))] H := hP
  have hD : va_D A [(s0, .inr (0, [.ref m0, .ref c0, .ref e0, .ref q1, .long (lN vr)])), (m0, .inr (1, [.long (lN p), .int (nI n), .long (lN (px_r p 2))])), (c0, .inr (2, [.ref k1, .ref k2, .ref k3, .ref k4, .ref k5, .int (nI cc), .int (nI gc), .int (nI oc)])), (k1, .inl (cI, 24, .inl (fun c => nI (kd c)))), (k2, .inl (cI, 24, .inl (fun c => nI (lf c)))), (k3, .inl (cI, 24, .inl (fun c => nI (rg c)))), (k4, .inl (cI, 16, .inl (fun c => nI (ol c)))), (k5, .inl (cL, 32, .inr (.inl (fun c => lN ((u).2.2 c))))), (q1, .inl (cL, 8, .inr (.inl (fun c => lN (mk c))))), (e0, .inr (3, [.ref e1, .long (lN ((u).2.1))])), (e1, .inl (cL, 33, .inr (.inl (fun c => lN ((u).1 c)))))] := hD
  refine lv_iload_n hx hb d_S_faults_41 rfl (lv_at hl 2 rfl) ?_
  refine lv_iconst (v := nI 1) hx hb d_S_faults_42 (by decide) ?_
  refine lv_icmp_ne (tgt := 57) hx hb d_S_faults_43 (by decide) (fun _ => ?_) (fun hc => absurd hc (show ¬ nI 3 = nI 1 from by decide))
  refine lv_aload_n hx hb d_S_faults_57 rfl (lv_at hl 0 rfl) ?_
  refine va_get (D := (dC, dI)) (ci := 0) (v := .ref e0) (C := R_S) (T := F_S) (N := 5) hx hb hts in_S hown hK hP 0 rfl rfl 2 (by decide) (hts _ kw_96) (fun _ h9 => h9) rfl d_S_faults_58 ?_
  refine vp_callSl (va_Run.run (va_runVN (As := []) (rest := []) ⟨hx, hb, hml, hown, hts⟩ (c_D_found l dC dI cI cL e0 e1 u.2.1 u.1 hI.1.1) ⟨va_cnB 0 hts gi_D_found rfl rfl rfl (hN _ kw_501) (hts _ kw_4) ⟨by decide, by decide, by decide⟩ ⟨Nat.le_of_ble_eq_true rfl, Nat.le_of_ble_eq_true rfl⟩, hts _ kw_503, hts _ ks_D_found⟩ (wq_preVR hP hK hN [9, 10] rfl (q0 := 9) (ci := 3) rfl rfl rfl) rfl rfl hl.1 rfl (lv_room (Nat.le_of_ble_eq_true rfl)) d_S_faults_61 ⟨Nat.le_of_ble_eq_true rfl, Nat.le_of_ble_eq_true rfl⟩)) (fun r hq => ?_)
  subst hq
  have hfl : dr_or u.1 33 < 2 ^ 64 := dr_or_lt 33 (fun j hj => hI.1.1 j hj)
  refine lv_lstore_n (lv' := [(3, .long (lN (dr_or u.1 33))), (0, .ref s0), (1, .int (nI m)), (2, .int (nI 3))]) hx hb d_S_faults_64 rfl hl (by decide) rfl (fun ls hl => ?_)
  refine lv_iload_n hx hb d_S_faults_65 rfl (lv_at hl 3 rfl) ?_
  refine lv_iconst (v := nI 2) hx hb d_S_faults_66 (by decide) ?_
  refine lv_icmp_ne (tgt := 77) hx hb d_S_faults_67 (by decide) (fun _ => ?_) (fun hc => absurd hc (show ¬ nI 3 = nI 2 from by decide))
  refine lv_aload_n hx hb d_S_faults_77 rfl (lv_at hl 1 rfl) ?_
  refine va_get (D := (dC, dI)) (ci := 0) (v := .ref e0) (C := R_S) (T := F_S) (N := 5) hx hb hts in_S hown hK hP 0 rfl rfl 2 (by decide) (hts _ kw_96) (fun _ h9 => h9) rfl d_S_faults_78 ?_
  refine va_getN (D := (dC, dI)) (ci := 3) (v := .long (lN ((u).2.1))) (C := R_D) (T := F_D) (N := 2) hx hb hts in_D hown hK hP 9 rfl rfl 1 (by decide) (nw_use hN kw_88) (fun _ h9 => h9) rfl d_S_faults_81 ?_
  refine lv_lload_n hx hb d_S_faults_84 rfl (lv_at hl 0 rfl) ?_
  refine lv_ldc2 (v := (-1)) hx hb hown (hts _ kw_176) d_S_faults_85 ?_
  refine lv_lxor hx hb d_S_faults_88 ?_
  refine lv_topl (nm_r (show _ = lN (dr_or u.1 33 ^^^ (2 ^ 64 - 1)) from lN_not _) ?_)
  refine lv_land hx hb d_S_faults_89 ?_
  refine lv_topl (nm_r (show _ = lN (u.2.1 &&& (dr_or u.1 33 ^^^ (2 ^ 64 - 1))) from wb_and hI.2.1 (Nat.xor_lt_two_pow hfl (by decide))) ?_)
  have hmb := ff_missed hI
  generalize hwe : u.2.1 &&& (dr_or u.1 33 ^^^ (2 ^ 64 - 1)) = wd at hmb ⊢
  have hwl : wd < 2 ^ 64 := by rw [← hwe]; exact Nat.lt_of_le_of_lt Nat.and_le_left hI.2.1
  by_cases hw0 : wd = 0
  · subst hw0
    refine vp_callSi (va_Run.run (va_runS (As := [.long (lN 0)]) (rest := []) ⟨hx, hb, hml, hown, hts⟩ (c_S_lowestBit0 l ) (va_cwS 1 hts (gi_S kw_505 kw_506 kw_1 gi_S_lowestBit) rfl rfl rfl ⟨by decide, by decide, by decide⟩ ⟨Nat.le_of_ble_eq_true rfl, Nat.le_of_ble_eq_true rfl⟩) wq_preS0 rfl rfl hl.1 rfl (lv_room (Nat.le_of_ble_eq_true rfl)) d_S_faults_90 ⟨Nat.le_of_ble_eq_true rfl, Nat.le_of_ble_eq_true rfl⟩)) (fun r hq => ?_)
    subst hq
    have hP := hP.sub (ws' := [(s0, .inr (0, [.ref m0, .ref c0, .ref e0, .ref q1, .long (lN vr)])), (m0, .inr (1, [.long (lN p), .int (nI n), .long (lN (px_r p 2))])), (c0, .inr (2, [.ref k1, .ref k2, .ref k3, .ref k4, .ref k5, .int (nI cc), .int (nI gc), .int (nI oc)])), (k1, .inl (cI, 24, .inl (fun c => nI (kd c)))), (k2, .inl (cI, 24, .inl (fun c => nI (lf c)))), (k3, .inl (cI, 24, .inl (fun c => nI (rg c)))), (k4, .inl (cI, 16, .inl (fun c => nI (ol c)))), (k5, .inl (cL, 32, .inr (.inl (fun c => lN ((u).2.2 c))))), (q1, .inl (cL, 8, .inr (.inl (fun c => lN (mk c))))), (e0, .inr (3, [.ref e1, .long (lN ((u).2.1))])), (e1, .inl (cL, 33, .inr (.inl (fun c => lN ((u).1 c)))))]) [0, 1, 2, 3, 4, 5, 6, 7, 8, 9, 10] rfl
    have hD := hD.sub (ws' := [(s0, .inr (0, [.ref m0, .ref c0, .ref e0, .ref q1, .long (lN vr)])), (m0, .inr (1, [.long (lN p), .int (nI n), .long (lN (px_r p 2))])), (c0, .inr (2, [.ref k1, .ref k2, .ref k3, .ref k4, .ref k5, .int (nI cc), .int (nI gc), .int (nI oc)])), (k1, .inl (cI, 24, .inl (fun c => nI (kd c)))), (k2, .inl (cI, 24, .inl (fun c => nI (lf c)))), (k3, .inl (cI, 24, .inl (fun c => nI (rg c)))), (k4, .inl (cI, 16, .inl (fun c => nI (ol c)))), (k5, .inl (cL, 32, .inr (.inl (fun c => lN ((u).2.2 c))))), (q1, .inl (cL, 8, .inr (.inl (fun c => lN (mk c))))), (e0, .inr (3, [.ref e1, .long (lN ((u).2.1))])), (e1, .inl (cL, 33, .inr (.inl (fun c => lN ((u).1 c)))))]) [0, 1, 2, 3, 4, 5, 6, 7, 8, 9, 10] (by decide) rfl
    exact W.iret (v := (-1)) hx hb hr (fun t9 ht hW => ⟨⟨(-1), u, rfl, Or.inr ⟨fun j hj z => absurd ((hmb j hj).mpr z) (by simp), rfl⟩, by rw [ht]; exact hP, va_K.moved hW.alike hK, hD⟩, hS.F ht⟩) hS.2.2 d_S_faults_93
  · obtain ⟨kx, hkx, hlb⟩ := lb_ex hw0 hwl
    refine vp_callSi (va_Run.run (va_runS (As := [.long (lN wd)]) (rest := []) ⟨hx, hb, hml, hown, hts⟩ (c_S_lowestBitK l wd kx hwl hlb) (va_cwS 1 hts (gi_S kw_505 kw_506 kw_1 gi_S_lowestBit) rfl rfl rfl ⟨by decide, by decide, by decide⟩ ⟨Nat.le_of_ble_eq_true rfl, Nat.le_of_ble_eq_true rfl⟩) wq_preS0 rfl rfl hl.1 rfl (lv_room (Nat.le_of_ble_eq_true rfl)) d_S_faults_90 ⟨Nat.le_of_ble_eq_true rfl, Nat.le_of_ble_eq_true rfl⟩)) (fun r hq => ?_)
    subst hq
    have hP := hP.sub (ws' := [(s0, .inr (0, [.ref m0, .ref c0, .ref e0, .ref q1, .long (lN vr)])), (m0, .inr (1, [.long (lN p), .int (nI n), .long (lN (px_r p 2))])), (c0, .inr (2, [.ref k1, .ref k2, .ref k3, .ref k4, .ref k5, .int (nI cc), .int (nI gc), .int (nI oc)])), (k1, .inl (cI, 24, .inl (fun c => nI (kd c)))), (k2, .inl (cI, 24, .inl (fun c => nI (lf c)))), (k3, .inl (cI, 24, .inl (fun c => nI (rg c)))), (k4, .inl (cI, 16, .inl (fun c => nI (ol c)))), (k5, .inl (cL, 32, .inr (.inl (fun c => lN ((u).2.2 c))))), (q1, .inl (cL, 8, .inr (.inl (fun c => lN (mk c))))), (e0, .inr (3, [.ref e1, .long (lN ((u).2.1))])), (e1, .inl (cL, 33, .inr (.inl (fun c => lN ((u).1 c)))))]) [0, 1, 2, 3, 4, 5, 6, 7, 8, 9, 10] rfl
    have hD := hD.sub (ws' := [(s0, .inr (0, [.ref m0, .ref c0, .ref e0, .ref q1, .long (lN vr)])), (m0, .inr (1, [.long (lN p), .int (nI n), .long (lN (px_r p 2))])), (c0, .inr (2, [.ref k1, .ref k2, .ref k3, .ref k4, .ref k5, .int (nI cc), .int (nI gc), .int (nI oc)])), (k1, .inl (cI, 24, .inl (fun c => nI (kd c)))), (k2, .inl (cI, 24, .inl (fun c => nI (lf c)))), (k3, .inl (cI, 24, .inl (fun c => nI (rg c)))), (k4, .inl (cI, 16, .inl (fun c => nI (ol c)))), (k5, .inl (cL, 32, .inr (.inl (fun c => lN ((u).2.2 c))))), (q1, .inl (cL, 8, .inr (.inl (fun c => lN (mk c))))), (e0, .inr (3, [.ref e1, .long (lN ((u).2.1))])), (e1, .inl (cL, 33, .inr (.inl (fun c => lN ((u).1 c)))))]) [0, 1, 2, 3, 4, 5, 6, 7, 8, 9, 10] (by decide) rfl
    exact W.iret (v := nI kx) hx hb hr (fun t9 ht hW => ⟨⟨nI kx, u, rfl, Or.inl ⟨kx, hkx, (hmb kx hkx).mp hlb.1, fun j hj z => absurd ((hmb j (by omega)).mpr z) (by rw [hlb.2 j hj]; decide), rfl⟩, by rw [ht]; exact hP, va_K.moved hW.alike hK, hD⟩, hS.F ht⟩) hS.2.2 d_S_faults_93
set_option maxHeartbeats 4000000 in
set_option maxRecDepth 100000 in
theorem x_S_faultsA (l : Launch) (dC : Nat → ClassId) (dI : Nat → Nat → Nat) (cI cL : ClassId) (hlt : l.stackTraces = false) (sz : Nat) (s0 m0 c0 e0 q1 : Nat) (vr : Nat) (y1 y2 : Int32) (hy : y2 < 0 ∨ ¬ y2 ≤ nI 3) : vx_Met l y_S_faults w_S_faults ({ frames := 6, cells := 1, slots := 6, locals := 82 } : Room) (va_Pc [.ref s0, .int y1, .int y2] (wq_X (dC, dI) classes [(s0, .inr (0, [.ref m0, .ref c0, .ref e0, .ref q1, .long (lN vr)]))] [(cI, .int), (cL, .long)] sz)) (xq_i sz) (xq "java/lang/IndexOutOfBoundsException" sz) 1 6 (fun q => sz ≤ q) := by
  refine vx_ofW (cc := b_S_faults) (maxL := 5) (ret := (Option.some Jvm.ClassFile.FieldType.int)) (by decide) rfl ?_
  intro pg en st mm ar bw me co s₁ B hml hex hv
  obtain ⟨rfl, hsz, ⟨hP, hK, hN⟩, hE, hZ⟩ := hv
  subst hsz
  have hx := B.exec
  have hb := B.bytes
  have hr := B.returns
  have hlocks := B.notSynchronized
  have hts0 := atoms_spec (ws := w_S_faults) B.pre
  have hts : ∀ w ∈ gw, w.before _ st = true := fun w h => hts0 w (List.mem_cons_of_mem _ h)
  have hown : st.vm.findClass R_S = some mm.cls := findClass_of_methodNamed B.named
  have hl := lv_entry ([.ref s0, .int y1, .int y2]) (n := 5) (Nat.le_of_ble_eq_true rfl)
  rw [lg_entry_eq]
  generalize (lg_sl ([.ref s0, .int y1, .int y2]) ++ List.replicate (5 - (lg_sl ([.ref s0, .int y1, .int y2])).length) Slot.unset).toArray = ls at hl ⊢
  have hl : lv_has ls 5 [(0, .ref s0), (1, .int y1), (2, .int y2)] := hl
  refine lv_iload_n hx hb d_S_faults_0 rfl (lv_at hl 2 rfl) ?_
  refine lv_if_lt (tgt := 9) hx hb d_S_faults_1 (by decide) (fun hn => ?_) (fun hn => ?_)
  · obtain ⟨sa, hstr⟩ := hE.2 _ xs_146
    exact vx_throwS (R := (headSpec w_S_faults ({ frames := 6, cells := 1, slots := 6, locals := 82 } : Room)).room) (rest := []) (cells := 0) (slots := 0) (mc := 1) (ms := 6) (names := ["java/lang/RuntimeException", "java/lang/Exception"]) hx hb hlt hown (by decide) (by decide) (hts _ xt_IO_k) (hts _ xt_IO_i) hstr (xt_IO hts hE) xt_IO_o hZ.1 hZ.2 va_S.rf (hl.1.trans hml.symm) d_S_faults_9 d_S_faults_12 d_S_faults_13 d_S_faults_15 d_S_faults_18 (fun x hx => (hex x hx).elim) (Nat.le_of_ble_eq_true rfl) (Nat.le_of_ble_eq_true rfl) (Nat.le_of_ble_eq_true rfl) (Nat.le_of_ble_eq_true rfl) hlocks xq_hx (fun _ h => nomatch h) (Nat.le_of_ble_eq_true rfl) (Nat.le_of_ble_eq_true rfl)
  · refine lv_iload_n hx hb d_S_faults_4 rfl (lv_at hl 2 rfl) ?_
    refine lv_iconst (v := nI 3) hx hb d_S_faults_5 (by decide) ?_
    refine lv_icmp_le (tgt := 19) hx hb d_S_faults_6 (by decide) (fun hc => absurd hc (fun z => hy.elim hn (fun q => q z))) (fun _ => ?_)
    obtain ⟨sa, hstr⟩ := hE.2 _ xs_146
    exact vx_throwS (R := (headSpec w_S_faults ({ frames := 6, cells := 1, slots := 6, locals := 82 } : Room)).room) (rest := []) (cells := 0) (slots := 0) (mc := 1) (ms := 6) (names := ["java/lang/RuntimeException", "java/lang/Exception"]) hx hb hlt hown (by decide) (by decide) (hts _ xt_IO_k) (hts _ xt_IO_i) hstr (xt_IO hts hE) xt_IO_o hZ.1 hZ.2 va_S.rf (hl.1.trans hml.symm) d_S_faults_9 d_S_faults_12 d_S_faults_13 d_S_faults_15 d_S_faults_18 (fun x hx => (hex x hx).elim) (Nat.le_of_ble_eq_true rfl) (Nat.le_of_ble_eq_true rfl) (Nat.le_of_ble_eq_true rfl) (Nat.le_of_ble_eq_true rfl) hlocks xq_hx (fun _ h => nomatch h) (Nat.le_of_ble_eq_true rfl) (Nat.le_of_ble_eq_true rfl)
set_option maxHeartbeats 4000000 in
set_option maxRecDepth 100000 in
theorem x_S_faultsB (l : Launch) (dC : Nat → ClassId) (dI : Nat → Nat → Nat) (cI cL : ClassId) (hlt : l.stackTraces = false) (sz : Nat) (s0 m0 c0 e0 q1 : Nat) (vr : Nat) (y1 : Int32) (hy : y1 < 0 ∨ ¬ y1 ≤ nI 256) (k : Nat) (hk3 : k ≤ 3) : vx_Met l y_S_faults w_S_faults ({ frames := 7, cells := 1, slots := 6, locals := 103 } : Room) (va_Pc [.ref s0, .int y1, .int (nI k)] (wq_X (dC, dI) classes [(s0, .inr (0, [.ref m0, .ref c0, .ref e0, .ref q1, .long (lN vr)]))] [(cI, .int), (cL, .long)] sz)) (xq_i sz) (xq "java/lang/IllegalArgumentException" sz) 1 6 (fun q => sz ≤ q) := by
  refine vx_ofW (cc := b_S_faults) (maxL := 5) (ret := (Option.some Jvm.ClassFile.FieldType.int)) (by decide) rfl ?_
  intro pg en st mm ar bw me co s₁ B hml hex hv
  obtain ⟨rfl, hsz, ⟨hP, hK, hN⟩, hE, hZ⟩ := hv
  subst hsz
  have hx := B.exec
  have hb := B.bytes
  have hr := B.returns
  have hlocks := B.notSynchronized
  have hts0 := atoms_spec (ws := w_S_faults) B.pre
  have hts : ∀ w ∈ gw, w.before _ st = true := fun w h => hts0 w (List.mem_cons_of_mem _ h)
  have hown : st.vm.findClass R_S = some mm.cls := findClass_of_methodNamed B.named
  have hl := lv_entry ([.ref s0, .int y1, .int (nI k)]) (n := 5) (Nat.le_of_ble_eq_true rfl)
  rw [lg_entry_eq]
  generalize (lg_sl ([.ref s0, .int y1, .int (nI k)]) ++ List.replicate (5 - (lg_sl ([.ref s0, .int y1, .int (nI k)])).length) Slot.unset).toArray = ls at hl ⊢
  have hl : lv_has ls 5 [(0, .ref s0), (1, .int y1), (2, .int (nI k))] := hl
  refine lv_iload_n hx hb d_S_faults_0 rfl (lv_at hl 2 rfl) ?_
  refine lv_if_lt (tgt := 9) hx hb d_S_faults_1 (by decide) (fun hc => absurd hc (nI_nn (by omega))) (fun _ => ?_)
  refine lv_iload_n hx hb d_S_faults_4 rfl (lv_at hl 2 rfl) ?_
  refine lv_iconst (v := nI 3) hx hb d_S_faults_5 (by decide) ?_
  refine lv_icmp_le (tgt := 19) hx hb d_S_faults_6 (by decide) (fun _ => ?_) (fun hc => absurd hc (fun z => z ((nI_leI (by omega) (by decide)).mpr hk3)))
  refine lv_aload_n hx hb d_S_faults_19 rfl (lv_at hl 0 rfl) ?_
  refine lv_iload_n hx hb d_S_faults_20 rfl (lv_at hl 1 rfl) ?_
  exact xq_cv (cells := 0) (slots := 0) (mc := 1) (ms := 6) (MC := 1) (MS := 6) (vx_runV (As := [.int y1]) (rest := []) ⟨hx, hb, hml, hown, hts⟩ (x_S_requirePatterns l dC dI cI cL hlt st.heap.size s0 m0 c0 e0 q1 vr y1 hy) (cwV 1 hts (gi_V kw_459 kw_461 ks_S_requirePatterns kw_1 gi_S_requirePatterns) rfl rfl rfl ⟨rfl, by decide, by decide, by decide⟩ ⟨Nat.le_of_ble_eq_true rfl, Nat.le_of_ble_eq_true rfl⟩) (wq_preVX hP hK hN hE hZ [0] rfl (q0 := 0) (ci := 0) rfl rfl rfl) rfl rfl hl.1 rfl (lv_room (Nat.le_of_ble_eq_true rfl)) d_S_faults_21 ⟨Nat.le_of_ble_eq_true rfl, Nat.le_of_ble_eq_true rfl⟩) hex hlocks (Nat.le_of_ble_eq_true rfl) (Nat.le_of_ble_eq_true rfl)
