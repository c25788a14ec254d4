/-! contracts of the model: sessions, faults; laid by a program -/
theorem cnt_ok {m : Nat} (h : m ≤ 256) : ¬ (nI m < 0 ∨ ¬ nI m ≤ nI 256) := fun z => z.elim (nI_nn (by omega)) (fun q => q ((nI_leI (by omega) (by decide)).mpr h))
/-- the lowest from K on below L that Q holds for, or -1 -/
def lw_p (Q : Nat → Prop) (K L : Nat) (y : Int32) : Prop := (∃ k, K ≤ k ∧ k < L ∧ Q k ∧ (∀ j, K ≤ j → j < k → ¬ Q j) ∧ y = nI k) ∨ ((∀ j, K ≤ j → j < L → ¬ Q j) ∧ y = -1)
theorem lw_0 {Q : Nat → Prop} {L : Nat} : lw_p Q L L (-1) := Or.inr ⟨fun j h1 h2 => absurd h1 (by omega), rfl⟩
theorem lw_yes {Q : Nat → Prop} {K L : Nat} (h : K < L) (hq : Q K) : lw_p Q K L (nI K) := Or.inl ⟨K, Nat.le_refl K, h, hq, fun j h1 h2 => absurd h1 (by omega), rfl⟩
theorem lw_no {Q : Nat → Prop} {K L : Nat} {y : Int32} (h : lw_p Q (K + 1) L y) (hq : ¬ Q K) : lw_p Q K L y := by
  rcases h with ⟨k, h1, h2, h3, h4, h5⟩ | ⟨h1, h2⟩
  · refine Or.inl ⟨k, by omega, h2, h3, fun j h6 h7 => ?_, h5⟩
    by_cases e : j = K
    · rw [e]; exact hq
    · exact h4 j (by omega) h7
  · refine Or.inr ⟨fun j h6 h7 => ?_, h2⟩
    by_cases e : j = K
    · rw [e]; exact hq
    · exact h1 j (by omega) h7
theorem s64 {p n : Nat} (h : md p n) {A : Nat → Nat} {m : Nat} : sg p A m < 2 ^ 64 := by have := res_lt h (sg_lt h A m); omega
theorem sg_x0 {p n : Nat} (h : md p n) (A B : Nat → Nat) (m : Nat) : sg p (fun j => A j ^^^ B j) m = 0 ↔ sg p A m = sg p B m := by
  rw [← sg_lin h A B m]
  constructor
  · intro z
    have := congrArg (fun q => q ^^^ sg p B m) z
    simp only [px_cc, Nat.zero_xor] at this
    exact this
  · intro z
    rw [z, Nat.xor_self]
set_option maxHeartbeats 4000000 in
set_option maxRecDepth 100000 in
theorem c_O_sessionN (l : Launch) (dC : Nat → ClassId) (dI : Nat → Nat → Nat) (cI cL : ClassId) (sz : Nat) (o0 g1 g2 g3 g4 g5 g6 g7 g8 : Nat) (fl p n vr ir od cc gc oc : Nat) (hm : md p n) (kd lf rg ol : Nat → Nat) (hk : ck cc gc oc kd lf rg ol) (mk : Nat → Nat) (hmk : ∀ c, c < cc → mk c < 2 ^ 32) (hvr : vr < 2 ^ n) (ln pa an : Nat → Nat) (m : Nat) (hmm : m ≤ 256) : Met l y_O_session w_O_session ({ frames := 3, cells := 0, slots := 0, locals := 74 } : Room) (va_Pc [.ref o0, .int (nI m), .int (-1)] (wq_W (dC, dI) classes [(o0, .inr (4, [.int (nI fl), .long (lN p), .int (nI n), .long (lN vr), .int (nI ir), .long (lN od), .int (nI cc), .ref g1, .int (nI gc), .ref g2, .ref g3, .ref g4, .int (nI oc), .ref g5, .ref g6, .ref g7, .ref g8])), (g1, .inl (cL, 8, .inr (.inl (fun c => lN (mk c))))), (g2, .inl (cI, 24, .inl (fun c => nI (kd c)))), (g3, .inl (cI, 24, .inl (fun c => nI (lf c)))), (g4, .inl (cI, 24, .inl (fun c => nI (rg c)))), (g5, .inl (cI, 16, .inl (fun c => nI (ol c)))), (g6, .inl (cI, 32, .inl (fun c => nI (ln c)))), (g7, .inl (cI, 256, .inl (fun c => nI (pa c)))), (g8, .inl (cI, 256, .inl (fun c => nI (an c))))] [(cI, .int), (cL, .long)] sz)) (va_Ql (fun (r : Int64) (u : (Nat → Nat) × (Nat → Nat) × (Nat → Nat)) => r = lN (sg p (fun t => fa p vr mk cc gc oc kd lf rg ol none t) m)) (fun (u : (Nat → Nat) × (Nat → Nat) × (Nat → Nat)) t => wq_B (dC, dI) classes [(cI, .int), (cL, .long)] (va_A [(o0, .inr (4, [.int (nI fl), .long (lN p), .int (nI n), .long (lN vr), .int (nI ir), .long (lN od), .int (nI cc), .ref g1, .int (nI gc), .ref g2, .ref g3, .ref g4, .int (nI oc), .ref g5, .ref g6, .ref g7, .ref g8])), (g1, .inl (cL, 8, .inr (.inl (fun c => lN (mk c))))), (g2, .inl (cI, 24, .inl (fun c => nI (kd c)))), (g3, .inl (cI, 24, .inl (fun c => nI (lf c)))), (g4, .inl (cI, 24, .inl (fun c => nI (rg c)))), (g5, .inl (cI, 16, .inl (fun c => nI (ol c)))), (g6, .inl (cI, 32, .inl (fun c => nI (ln c)))), (g7, .inl (cI, 256, .inl (fun c => nI (pa c)))), (g8, .inl (cI, 256, .inl (fun c => nI (an c))))] sz) [(o0, .inr (4, [.int (nI 0), .long (lN p), .int (nI n), .long (lN vr), .int (nI ir), .long (lN od), .int (nI cc), .ref g1, .int (nI gc), .ref g2, .ref g3, .ref g4, .int (nI oc), .ref g5, .ref g6, .ref g7, .ref g8])), (g1, .inl (cL, 8, .inr (.inl (fun c => lN (mk c))))), (g2, .inl (cI, 24, .inl (fun c => nI (kd c)))), (g3, .inl (cI, 24, .inl (fun c => nI (lf c)))), (g4, .inl (cI, 24, .inl (fun c => nI (rg c)))), (g5, .inl (cI, 16, .inl (fun c => nI (ol c)))), (g6, .inl (cI, 32, .inl (fun c => nI ((u).1 c)))), (g7, .inl (cI, 256, .inl (fun c => nI ((u).2.1 c)))), (g8, .inl (cI, 256, .inl (fun c => nI ((u).2.2 c))))] t) (va_A [(o0, .inr (4, [.int (nI fl), .long (lN p), .int (nI n), .long (lN vr), .int (nI ir), .long (lN od), .int (nI cc), .ref g1, .int (nI gc), .ref g2, .ref g3, .ref g4, .int (nI oc), .ref g5, .ref g6, .ref g7, .ref g8])), (g1, .inl (cL, 8, .inr (.inl (fun c => lN (mk c))))), (g2, .inl (cI, 24, .inl (fun c => nI (kd c)))), (g3, .inl (cI, 24, .inl (fun c => nI (lf c)))), (g4, .inl (cI, 24, .inl (fun c => nI (rg c)))), (g5, .inl (cI, 16, .inl (fun c => nI (ol c)))), (g6, .inl (cI, 32, .inl (fun c => nI (ln c)))), (g7, .inl (cI, 256, .inl (fun c => nI (pa c)))), (g8, .inl (cI, 256, .inl (fun c => nI (an c))))] sz)) 0 0 (va_A [(o0, .inr (4, [.int (nI fl), .long (lN p), .int (nI n), .long (lN vr), .int (nI ir), .long (lN od), .int (nI cc), .ref g1, .int (nI gc), .ref g2, .ref g3, .ref g4, .int (nI oc), .ref g5, .ref g6, .ref g7, .ref g8])), (g1, .inl (cL, 8, .inr (.inl (fun c => lN (mk c))))), (g2, .inl (cI, 24, .inl (fun c => nI (kd c)))), (g3, .inl (cI, 24, .inl (fun c => nI (lf c)))), (g4, .inl (cI, 24, .inl (fun c => nI (rg c)))), (g5, .inl (cI, 16, .inl (fun c => nI (ol c)))), (g6, .inl (cI, 32, .inl (fun c => nI (ln c)))), (g7, .inl (cI, 256, .inl (fun c => nI (pa c)))), (g8, .inl (cI, 256, .inl (fun c => nI (an c))))] sz) := by
  refine Met.ofW (cc := b_O_session) (maxL := 4) (ret := (Option.some Jvm.ClassFile.FieldType.long)) (by decide) rfl ?_
  intro pg en st mm ar bw me co s₁ B hml hv
  obtain ⟨rfl, hsz, hP, hK, hD0, hN⟩ := hv
  have hx := B.exec
  have hb := B.bytes
  have hr := B.returns
  have hlocks := B.notSynchronized
  have hts0 := atoms_spec (ws := w_O_session) B.pre
  have hts : ∀ w ∈ gw, w.before _ st = true := fun w h => hts0 w (List.mem_cons_of_mem _ h)
  have hown : st.vm.findClass R_O = some mm.cls := findClass_of_methodNamed B.named
  subst hsz
  have hD := hD0.self (sz := st.heap.size)
  generalize hAe : va_A [(o0, .inr (4, [.int (nI fl), .long (lN p), .int (nI n), .long (lN vr), .int (nI ir), .long (lN od), .int (nI cc), .ref g1, .int (nI gc), .ref g2, .ref g3, .ref g4, .int (nI oc), .ref g5, .ref g6, .ref g7, .ref g8])), (g1, .inl (cL, 8, .inr (.inl (fun c => lN (mk c))))), (g2, .inl (cI, 24, .inl (fun c => nI (kd c)))), (g3, .inl (cI, 24, .inl (fun c => nI (lf c)))), (g4, .inl (cI, 24, .inl (fun c => nI (rg c)))), (g5, .inl (cI, 16, .inl (fun c => nI (ol c)))), (g6, .inl (cI, 32, .inl (fun c => nI (ln c)))), (g7, .inl (cI, 256, .inl (fun c => nI (pa c)))), (g8, .inl (cI, 256, .inl (fun c => nI (an c))))] st.heap.size = A at hD ⊢
  have hA : ∀ q : Nat, st.heap.size ≤ q → A q := fun q h => by rw [← hAe]; exact Or.inr h
  have hS : va_S A st.heap st.heap [] := va_S.rf
  have hl := lv_entry ([.ref o0, .int (nI m), .int (-1)]) (n := 4) (Nat.le_of_ble_eq_true rfl)
  rw [lg_entry_eq]
  generalize (lg_sl ([.ref o0, .int (nI m), .int (-1)]) ++ List.replicate (4 - (lg_sl ([.ref o0, .int (nI m), .int (-1)])).length) Slot.unset).toArray = ls at hl ⊢
  have hl : lv_has ls 4 [(0, .ref o0), (1, .int (nI m)), (2, .int (-1))] := hl
  have h1 := hk.1
  have h2 := hk.2.1
  refine lv_iload_n hx hb d_O_session_0 rfl (lv_at hl 2 rfl) ?_
  refine lv_iconst (v := (-1)) hx hb d_O_session_1 (by decide) ?_
  refine lv_icmp_eq (tgt := 13) hx hb d_O_session_2 (by decide) (fun _ => ?_) (fun hc => absurd hc (fun z => z rfl))
  refine lv_iconst (v := nI 1) hx hb d_O_session_13 (by decide) ?_
  refine lv_goto (tgt := 18) hx hb d_O_session_14 (by decide) ?_
  refine lv_istore_n (lv' := [(3, .int (nI 1)), (0, .ref o0), (1, .int (nI m)), (2, .int (-1))]) hx hb d_O_session_18 rfl hl (by decide) rfl (fun ls hl => ?_)
  refine lv_aload_n hx hb d_O_session_19 rfl (lv_at hl 1 rfl) ?_
  refine lv_iload_n hx hb d_O_session_20 rfl (lv_at hl 0 rfl) ?_
  refine lv_if_ne (tgt := 28) hx hb d_O_session_21 (by decide) (fun _ => ?_) (fun hc => absurd hc (show ¬ nI 1 = 0 from by decide))
  refine lv_iload_n hx hb d_O_session_28 rfl (lv_at hl 2 rfl) ?_
  refine vp_callSi (va_Run.run (va_runS (As := [.int (nI m)]) (rest := [.ref o0]) ⟨hx, hb, hml, hown, hts⟩ (c_O_isCount l (nI m)) (va_cwS 1 hts (gi_S kw_700 kw_701 kw_5 gi_O_isCount) rfl rfl rfl ⟨by decide, by decide, by decide⟩ ⟨Nat.le_of_ble_eq_true rfl, Nat.le_of_ble_eq_true rfl⟩) wq_preS0 rfl rfl hl.1 rfl (lv_room (Nat.le_of_ble_eq_true rfl)) d_O_session_29 ⟨Nat.le_of_ble_eq_true rfl, Nat.le_of_ble_eq_true rfl⟩)) (fun r6 hq6 => ?_)
  have hq6 : r6 = 1 := by
    rcases hq6 with ⟨e9, -⟩ | ⟨-, e9⟩
    · exact e9
    · exact absurd e9 (cnt_ok hmm)
  subst hq6
  refine lv_if_ne (tgt := 39) hx hb d_O_session_32 (by decide) (fun _ => ?_) (fun hc => absurd hc (show ¬ (1 : Int32) = 0 from by decide))
  refine lv_iconst (v := nI 0) hx hb d_O_session_39 (by decide) ?_
  refine wq_i (wr := [(g1, .inl (cL, 8, .inr (.inl (fun c => lN (mk c))))), (g2, .inl (cI, 24, .inl (fun c => nI (kd c)))), (g3, .inl (cI, 24, .inl (fun c => nI (lf c)))), (g4, .inl (cI, 24, .inl (fun c => nI (rg c)))), (g5, .inl (cI, 16, .inl (fun c => nI (ol c)))), (g6, .inl (cI, 32, .inl (fun c => nI (ln c)))), (g7, .inl (cI, 256, .inl (fun c => nI (pa c)))), (g8, .inl (cI, 256, .inl (fun c => nI (an c))))]) (va_runV (As := [.int (nI 0)]) (rest := []) ⟨hx, hb, hml, hown, hts⟩ (c_O_refused0 l dC dI cI cL st.heap.size o0 g1 g2 g3 g4 g5 g6 g7 g8 fl p n vr ir od cc gc oc) (cwV 1 hts (gi_V kw_588 kw_590 ks_O_refused kw_5 gi_O_refused) rfl rfl rfl ⟨rfl, by decide, by decide, by decide⟩ ⟨Nat.le_of_ble_eq_true rfl, Nat.le_of_ble_eq_true rfl⟩) (wq_preVW hP hD hK hN [0] rfl rfl (q0 := 0) (ci := 4) rfl rfl rfl) rfl rfl hl.1 rfl (lv_room (Nat.le_of_ble_eq_true rfl)) d_O_session_40 ⟨Nat.le_of_ble_eq_true rfl, Nat.le_of_ble_eq_true rfl⟩) hP hD hS hA [0] [1, 2, 3, 4, 5, 6, 7, 8] rfl rfl rfl (by decide) (fun r3 u H locs hq3 hP hD hS hz => ?_)
  have hP : va_P (dC, dI) classes [(g1, .inl (cL, 8, .inr (.inl (fun c => lN (mk c))))), (g2, .inl (cI, 24, .inl (fun c => nI (kd c)))), (g3, .inl (cI, 24, .inl (fun c => nI (lf c)))), (g4, .inl (cI, 24, .inl (fun c => nI (rg c)))), (g5, .inl (cI, 16, .inl (fun c => nI (ol c)))), (g6, .inl (cI, 32, .inl (fun c => nI (ln c)))), (g7, .inl (cI, 256, .inl (fun c => nI (pa c)))), (g8, .inl (cI, 256, .inl (fun c => nI (an c)))), (o0, .inr (4, [.int (nI 0), .long (lN p), .int (nI n), .long (lN vr), .int (nI ir), .long (lN od), .int (nI cc), .ref g1, .int (nI gc), .ref g2, .ref g3, .ref g4, .int (nI oc), .ref g5, .ref g6, .ref g7, .ref g8]))] H := hP
  have hD : va_D A [(g1, .inl (cL, 8, .inr (.inl (fun c => lN (mk c))))), (g2, .inl (cI, 24, .inl (fun c => nI (kd c)))), (g3, .inl (cI, 24, .inl (fun c => nI (lf c)))), (g4, .inl (cI, 24, .inl (fun c => nI (rg c)))), (g5, .inl (cI, 16, .inl (fun c => nI (ol c)))), (g6, .inl (cI, 32, .inl (fun c => nI (ln c)))), (g7, .inl (cI, 256, .inl (fun c => nI (pa c)))), (g8, .inl (cI, 256, .inl (fun c => nI (an c)))), (o0, .inr (4, [.int (nI 0), .long (lN p), .int (nI n), .long (lN vr), .int (nI ir), .long (lN od), .int (nI cc), .ref g1, .int (nI gc), .ref g2, .ref g3, .ref g4, .int (nI oc), .ref g5, .ref g6, .ref g7, .ref g8]))] := hD
  subst hq3
  refine lv_if_eq (tgt := 48) hx hb d_O_session_43 (by decide) (fun _ => ?_) (fun hc => absurd hc (fun z => z rfl))
  refine lv_aload_n hx hb d_O_session_48 rfl (lv_at hl 1 rfl) ?_
  refine lv_iload_n hx hb d_O_session_49 rfl (lv_at hl 2 rfl) ?_
  have hP := hP.sub (ws' := [(o0, .inr (4, [.int (nI 0), .long (lN p), .int (nI n), .long (lN vr), .int (nI ir), .long (lN od), .int (nI cc), .ref g1, .int (nI gc), .ref g2, .ref g3, .ref g4, .int (nI oc), .ref g5, .ref g6, .ref g7, .ref g8])), (g1, .inl (cL, 8, .inr (.inl (fun c => lN (mk c))))), (g2, .inl (cI, 24, .inl (fun c => nI (kd c)))), (g3, .inl (cI, 24, .inl (fun c => nI (lf c)))), (g4, .inl (cI, 24, .inl (fun c => nI (rg c)))), (g5, .inl (cI, 16, .inl (fun c => nI (ol c)))), (g6, .inl (cI, 32, .inl (fun c => nI (ln c)))), (g7, .inl (cI, 256, .inl (fun c => nI (pa c)))), (g8, .inl (cI, 256, .inl (fun c => nI (an c))))]) [8, 0, 1, 2, 3, 4, 5, 6, 7] rfl
  have hD := hD.sub (ws' := [(o0, .inr (4, [.int (nI 0), .long (lN p), .int (nI n), .long (lN vr), .int (nI ir), .long (lN od), .int (nI cc), .ref g1, .int (nI gc), .ref g2, .ref g3, .ref g4, .int (nI oc), .ref g5, .ref g6, .ref g7, .ref g8])), (g1, .inl (cL, 8, .inr (.inl (fun c => lN (mk c))))), (g2, .inl (cI, 24, .inl (fun c => nI (kd c)))), (g3, .inl (cI, 24, .inl (fun c => nI (lf c)))), (g4, .inl (cI, 24, .inl (fun c => nI (rg c)))), (g5, .inl (cI, 16, .inl (fun c => nI (ol c)))), (g6, .inl (cI, 32, .inl (fun c => nI (ln c)))), (g7, .inl (cI, 256, .inl (fun c => nI (pa c)))), (g8, .inl (cI, 256, .inl (fun c => nI (an c))))]) [8, 0, 1, 2, 3, 4, 5, 6, 7] (by decide) rfl
  refine wq_v (wr := []) (va_runV (As := [.int (nI m)]) (rest := []) ⟨hx, hb, hml, hown, hts⟩ (c_O_prepare l dC dI cI cL H.size o0 g1 g2 g3 g4 g5 g6 g7 g8 0 p n vr ir od cc gc oc hm kd lf rg ol hk mk hmk hvr ln pa an m hmm) (cwV 1 hts (gi_V kw_703 kw_705 ks_O_prepare kw_5 gi_O_prepare) rfl rfl rfl ⟨rfl, by decide, by decide, by decide⟩ ⟨Nat.le_of_ble_eq_true rfl, Nat.le_of_ble_eq_true rfl⟩) (wq_preVW hP hD hK hN [0, 1, 2, 3, 4, 5, 6, 7, 8] rfl rfl (q0 := 0) (ci := 4) rfl rfl rfl) rfl rfl hl.1 rfl (lv_room (Nat.le_of_ble_eq_true rfl)) d_O_session_50 ⟨Nat.le_of_ble_eq_true rfl, Nat.le_of_ble_eq_true rfl⟩) hP hD hS hA [0, 1, 2, 3, 4, 5, 6, 7, 8] [] rfl rfl rfl (by decide) (fun u H locs hpp hP hD hS hz => ?_)
  have hP : va_P (dC, dI) classes [(o0, .inr (4, [.int (nI 0), .long (lN p), .int (nI n), .long (lN vr), .int (nI ir), .long (lN od), .int (nI cc), .ref g1, .int (nI gc), .ref g2, .ref g3, .ref g4, .int (nI oc), .ref g5, .ref g6, .ref g7, .ref g8])), (g1, .inl (cL, 8, .inr (.inl (fun c => lN (mk c))))), (g2, .inl (cI, 24, .inl (fun c => nI (kd c)))), (g3, .inl (cI, 24, .inl (fun c => nI (lf c)))), (g4, .inl (cI, 24, .inl (fun c => nI (rg c)))), (g5, .inl (cI, 16, .inl (fun c => nI (ol c)))), (g6, .inl (cI, 32, .inl (fun c => nI ((u).1 c)))), (g7, .inl (cI, 256, .inl (fun c => nI ((u).2.1 c)))), (g8, .inl (cI, 256, .inl (fun c => nI ((u).2.2 c))))] H := hP
  have hD : va_D A [(o0, .inr (4, [.int (nI 0), .long (lN p), .int (nI n), .long (lN vr), .int (nI ir), .long (lN od), .int (nI cc), .ref g1, .int (nI gc), .ref g2, .ref g3, .ref g4, .int (nI oc), .ref g5, .ref g6, .ref g7, .ref g8])), (g1, .inl (cL, 8, .inr (.inl (fun c => lN (mk c))))), (g2, .inl (cI, 24, .inl (fun c => nI (kd c)))), (g3, .inl (cI, 24, .inl (fun c => nI (lf c)))), (g4, .inl (cI, 24, .inl (fun c => nI (rg c)))), (g5, .inl (cI, 16, .inl (fun c => nI (ol c)))), (g6, .inl (cI, 32, .inl (fun c => nI ((u).1 c)))), (g7, .inl (cI, 256, .inl (fun c => nI ((u).2.1 c)))), (g8, .inl (cI, 256, .inl (fun c => nI ((u).2.2 c))))] := hD
  have hpa : ∀ t, t < m → u.2.1 t = pt_n mk (rg_t p vr t) cc := fun t ht => (hpp t ht).1
  have han : ∀ t, t < m → u.2.2 t = fa p vr mk cc gc oc kd lf rg ol none t := fun t ht => (hpp t ht).2
  refine lv_aload_n hx hb d_O_session_53 rfl (lv_at hl 1 rfl) ?_
  refine lv_iload_n hx hb d_O_session_54 rfl (lv_at hl 2 rfl) ?_
  refine lv_iload_n hx hb d_O_session_55 rfl (lv_at hl 3 rfl) ?_
  refine wq_l (wr := [(g1, .inl (cL, 8, .inr (.inl (fun c => lN (mk c))))), (g8, .inl (cI, 256, .inl (fun c => nI ((u).2.2 c))))]) (va_runV (As := [.int (nI m), .int (-1)]) (rest := []) ⟨hx, hb, hml, hown, hts⟩ (c_O_signatureN l dC dI cI cL H.size o0 g1 g2 g3 g4 g5 g6 g7 g8 0 p n vr ir od cc gc oc hm kd lf rg ol hk mk hmk u.1 u.2.1 m hmm hpa) (cwV 2 hts (gi_V kw_707 kw_709 ks_O_signature kw_5 gi_O_signature) rfl rfl rfl ⟨rfl, by decide, by decide, by decide⟩ ⟨Nat.le_of_ble_eq_true rfl, Nat.le_of_ble_eq_true rfl⟩) (wq_preVW hP hD hK hN [0, 2, 3, 4, 5, 6, 7] rfl rfl (q0 := 0) (ci := 4) rfl rfl rfl) rfl rfl hl.1 rfl (lv_room (Nat.le_of_ble_eq_true rfl)) d_O_session_56 ⟨Nat.le_of_ble_eq_true rfl, Nat.le_of_ble_eq_true rfl⟩) hP hD hS hA [0, 2, 3, 4, 5, 6, 7] [1, 8] rfl rfl rfl (by decide) (fun r4 v H locs hq4 hP hD hS hz => ?_)
  have hP : va_P (dC, dI) classes [(g1, .inl (cL, 8, .inr (.inl (fun c => lN (mk c))))), (g8, .inl (cI, 256, .inl (fun c => nI ((u).2.2 c)))), (o0, .inr (4, [.int (nI 0), .long (lN p), .int (nI n), .long (lN vr), .int (nI ir), .long (lN od), .int (nI cc), .ref g1, .int (nI gc), .ref g2, .ref g3, .ref g4, .int (nI oc), .ref g5, .ref g6, .ref g7, .ref g8])), (g2, .inl (cI, 24, .inl (fun c => nI (kd c)))), (g3, .inl (cI, 24, .inl (fun c => nI (lf c)))), (g4, .inl (cI, 24, .inl (fun c => nI (rg c)))), (g5, .inl (cI, 16, .inl (fun c => nI (ol c)))), (g6, .inl (cI, 32, .inl (fun c => nI (v c)))), (g7, .inl (cI, 256, .inl (fun c => nI ((u).2.1 c))))] H := hP
  have hD : va_D A [(g1, .inl (cL, 8, .inr (.inl (fun c => lN (mk c))))), (g8, .inl (cI, 256, .inl (fun c => nI ((u).2.2 c)))), (o0, .inr (4, [.int (nI 0), .long (lN p), .int (nI n), .long (lN vr), .int (nI ir), .long (lN od), .int (nI cc), .ref g1, .int (nI gc), .ref g2, .ref g3, .ref g4, .int (nI oc), .ref g5, .ref g6, .ref g7, .ref g8])), (g2, .inl (cI, 24, .inl (fun c => nI (kd c)))), (g3, .inl (cI, 24, .inl (fun c => nI (lf c)))), (g4, .inl (cI, 24, .inl (fun c => nI (rg c)))), (g5, .inl (cI, 16, .inl (fun c => nI (ol c)))), (g6, .inl (cI, 32, .inl (fun c => nI (v c)))), (g7, .inl (cI, 256, .inl (fun c => nI ((u).2.1 c))))] := hD
  subst hq4
  have hP := hP.sub (ws' := [(o0, .inr (4, [.int (nI 0), .long (lN p), .int (nI n), .long (lN vr), .int (nI ir), .long (lN od), .int (nI cc), .ref g1, .int (nI gc), .ref g2, .ref g3, .ref g4, .int (nI oc), .ref g5, .ref g6, .ref g7, .ref g8])), (g1, .inl (cL, 8, .inr (.inl (fun c => lN (mk c))))), (g2, .inl (cI, 24, .inl (fun c => nI (kd c)))), (g3, .inl (cI, 24, .inl (fun c => nI (lf c)))), (g4, .inl (cI, 24, .inl (fun c => nI (rg c)))), (g5, .inl (cI, 16, .inl (fun c => nI (ol c)))), (g6, .inl (cI, 32, .inl (fun c => nI (v c)))), (g7, .inl (cI, 256, .inl (fun c => nI ((u).2.1 c)))), (g8, .inl (cI, 256, .inl (fun c => nI ((u).2.2 c))))]) [2, 0, 3, 4, 5, 6, 7, 8, 1] rfl
  have hD := hD.sub (ws' := [(o0, .inr (4, [.int (nI 0), .long (lN p), .int (nI n), .long (lN vr), .int (nI ir), .long (lN od), .int (nI cc), .ref g1, .int (nI gc), .ref g2, .ref g3, .ref g4, .int (nI oc), .ref g5, .ref g6, .ref g7, .ref g8])), (g1, .inl (cL, 8, .inr (.inl (fun c => lN (mk c))))), (g2, .inl (cI, 24, .inl (fun c => nI (kd c)))), (g3, .inl (cI, 24, .inl (fun c => nI (lf c)))), (g4, .inl (cI, 24, .inl (fun c => nI (rg c)))), (g5, .inl (cI, 16, .inl (fun c => nI (ol c)))), (g6, .inl (cI, 32, .inl (fun c => nI (v c)))), (g7, .inl (cI, 256, .inl (fun c => nI ((u).2.1 c)))), (g8, .inl (cI, 256, .inl (fun c => nI ((u).2.2 c))))]) [2, 0, 3, 4, 5, 6, 7, 8, 1] (by decide) rfl
  exact W.lret (v := lN (sg p (fun t => fa p vr mk cc gc oc kd lf rg ol none t) m)) hx hb hr (fun t9 ht hW => ⟨⟨lN (sg p (fun t => fa p vr mk cc gc oc kd lf rg ol none t) m), (v, u.2.1, u.2.2), rfl, rfl, by rw [ht]; exact hP, va_K.moved hW.alike hK, hD⟩, hS.F ht⟩) hS.2.2 d_O_session_59
set_option maxHeartbeats 4000000 in
set_option maxRecDepth 100000 in
theorem c_O_sessionBN (l : Launch) (dC : Nat → ClassId) (dI : Nat → Nat → Nat) (cI cL : ClassId) (sz : Nat) (o0 g1 g2 g3 g4 g5 g6 g7 g8 : Nat) (fl p n vr ir od cc gc oc : Nat) (hl1 : 2 * (cc + gc) < 2 ^ 31) (y1 : Int32) (hy : (y1 < 0 ∨ ¬ y1 ≤ nI 256)) : Met l y_O_session w_O_session ({ frames := 1, cells := 0, slots := 0, locals := 21 } : Room) (va_Pc [.ref o0, .int y1, .int (-1)] (wq_W (dC, dI) classes [(o0, .inr (4, [.int (nI fl), .long (lN p), .int (nI n), .long (lN vr), .int (nI ir), .long (lN od), .int (nI cc), .ref g1, .int (nI gc), .ref g2, .ref g3, .ref g4, .int (nI oc), .ref g5, .ref g6, .ref g7, .ref g8]))] [(cI, .int), (cL, .long)] sz)) (va_Ql (fun (r : Int64) (u : Unit) => r = lN 0) (fun (u : Unit) t => wq_B (dC, dI) classes [(cI, .int), (cL, .long)] (va_A [(o0, .inr (4, [.int (nI fl), .long (lN p), .int (nI n), .long (lN vr), .int (nI ir), .long (lN od), .int (nI cc), .ref g1, .int (nI gc), .ref g2, .ref g3, .ref g4, .int (nI oc), .ref g5, .ref g6, .ref g7, .ref g8]))] sz) [(o0, .inr (4, [.int (nI 2), .long (lN p), .int (nI n), .long (lN vr), .int (nI ir), .long (lN od), .int (nI cc), .ref g1, .int (nI gc), .ref g2, .ref g3, .ref g4, .int (nI oc), .ref g5, .ref g6, .ref g7, .ref g8]))] t) (va_A [(o0, .inr (4, [.int (nI fl), .long (lN p), .int (nI n), .long (lN vr), .int (nI ir), .long (lN od), .int (nI cc), .ref g1, .int (nI gc), .ref g2, .ref g3, .ref g4, .int (nI oc), .ref g5, .ref g6, .ref g7, .ref g8]))] sz)) 0 0 (va_A [(o0, .inr (4, [.int (nI fl), .long (lN p), .int (nI n), .long (lN vr), .int (nI ir), .long (lN od), .int (nI cc), .ref g1, .int (nI gc), .ref g2, .ref g3, .ref g4, .int (nI oc), .ref g5, .ref g6, .ref g7, .ref g8]))] sz) := by
  refine Met.ofW (cc := b_O_session) (maxL := 4) (ret := (Option.some Jvm.ClassFile.FieldType.long)) (by decide) rfl ?_
  intro pg en st mm ar bw me co s₁ B hml hv
  obtain ⟨rfl, hsz, hP, hK, hD0, hN⟩ := hv
  have hx := B.exec
  have hb := B.bytes
  have hr := B.returns
  have hlocks := B.notSynchronized
  have hts0 := atoms_spec (ws := w_O_session) B.pre
  have hts : ∀ w ∈ gw, w.before _ st = true := fun w h => hts0 w (List.mem_cons_of_mem _ h)
  have hown : st.vm.findClass R_O = some mm.cls := findClass_of_methodNamed B.named
  subst hsz
  have hD := hD0.self (sz := st.heap.size)
  generalize hAe : va_A [(o0, .inr (4, [.int (nI fl), .long (lN p), .int (nI n), .long (lN vr), .int (nI ir), .long (lN od), .int (nI cc), .ref g1, .int (nI gc), .ref g2, .ref g3, .ref g4, .int (nI oc), .ref g5, .ref g6, .ref g7, .ref g8]))] st.heap.size = A at hD ⊢
  have hA : ∀ q : Nat, st.heap.size ≤ q → A q := fun q h => by rw [← hAe]; exact Or.inr h
  have hS : va_S A st.heap st.heap [] := va_S.rf
  have hl := lv_entry ([.ref o0, .int y1, .int (-1)]) (n := 4) (Nat.le_of_ble_eq_true rfl)
  rw [lg_entry_eq]
  generalize (lg_sl ([.ref o0, .int y1, .int (-1)]) ++ List.replicate (4 - (lg_sl ([.ref o0, .int y1, .int (-1)])).length) Slot.unset).toArray = ls at hl ⊢
  have hl : lv_has ls 4 [(0, .ref o0), (1, .int y1), (2, .int (-1))] := hl
  refine lv_iload_n hx hb d_O_session_0 rfl (lv_at hl 2 rfl) ?_
  refine lv_iconst (v := (-1)) hx hb d_O_session_1 (by decide) ?_
  refine lv_icmp_eq (tgt := 13) hx hb d_O_session_2 (by decide) (fun _ => ?_) (fun hc => absurd hc (fun z => z rfl))
  refine lv_iconst (v := nI 1) hx hb d_O_session_13 (by decide) ?_
  refine lv_goto (tgt := 18) hx hb d_O_session_14 (by decide) ?_
  refine lv_istore_n (lv' := [(3, .int (nI 1)), (0, .ref o0), (1, .int y1), (2, .int (-1))]) hx hb d_O_session_18 rfl hl (by decide) rfl (fun ls hl => ?_)
  refine lv_aload_n hx hb d_O_session_19 rfl (lv_at hl 1 rfl) ?_
  refine lv_iload_n hx hb d_O_session_20 rfl (lv_at hl 0 rfl) ?_
  refine lv_if_ne (tgt := 28) hx hb d_O_session_21 (by decide) (fun _ => ?_) (fun hc => absurd hc (show ¬ nI 1 = 0 from by decide))
  refine lv_iload_n hx hb d_O_session_28 rfl (lv_at hl 2 rfl) ?_
  refine vp_callSi (va_Run.run (va_runS (As := [.int y1]) (rest := [.ref o0]) ⟨hx, hb, hml, hown, hts⟩ (c_O_isCount l y1) (va_cwS 1 hts (gi_S kw_700 kw_701 kw_5 gi_O_isCount) rfl rfl rfl ⟨by decide, by decide, by decide⟩ ⟨Nat.le_of_ble_eq_true rfl, Nat.le_of_ble_eq_true rfl⟩) wq_preS0 rfl rfl hl.1 rfl (lv_room (Nat.le_of_ble_eq_true rfl)) d_O_session_29 ⟨Nat.le_of_ble_eq_true rfl, Nat.le_of_ble_eq_true rfl⟩)) (fun r6 hq6 => ?_)
  have hq6 : r6 = 0 := by
    rcases hq6 with ⟨-, e9⟩ | ⟨e9, -⟩
    · exact absurd hy e9
    · exact e9
  subst hq6
  refine lv_if_ne (tgt := 39) hx hb d_O_session_32 (by decide) (fun hc => absurd hc (fun z => z rfl)) (fun _ => ?_)
  refine lv_iconst (v := nI 2) hx hb d_O_session_35 (by decide) ?_
  refine lv_goto (tgt := 40) hx hb d_O_session_36 (by decide) ?_
  refine wq_i (wr := []) (va_runV (As := [.int (nI 2)]) (rest := []) ⟨hx, hb, hml, hown, hts⟩ (c_O_refusedK l dC dI cI cL st.heap.size o0 g1 g2 g3 g4 g5 g6 g7 g8 fl p n vr ir od cc gc oc 2 (by decide) (by decide)) (cwV 1 hts (gi_V kw_588 kw_590 ks_O_refused kw_5 gi_O_refused) rfl rfl rfl ⟨rfl, by decide, by decide, by decide⟩ ⟨Nat.le_of_ble_eq_true rfl, Nat.le_of_ble_eq_true rfl⟩) (wq_preVW hP hD hK hN [0] rfl rfl (q0 := 0) (ci := 4) rfl rfl rfl) rfl rfl hl.1 rfl (lv_room (Nat.le_of_ble_eq_true rfl)) d_O_session_40 ⟨Nat.le_of_ble_eq_true rfl, Nat.le_of_ble_eq_true rfl⟩) hP hD hS hA [0] [] rfl rfl rfl (by decide) (fun r u H locs hq hP hD hS hz => ?_)
  have hP : va_P (dC, dI) classes [(o0, .inr (4, [.int (nI 2), .long (lN p), .int (nI n), .long (lN vr), .int (nI ir), .long (lN od), .int (nI cc), .ref g1, .int (nI gc), .ref g2, .ref g3, .ref g4, .int (nI oc), .ref g5, .ref g6, .ref g7, .ref g8]))] H := hP
  have hD : va_D A [(o0, .inr (4, [.int (nI 2), .long (lN p), .int (nI n), .long (lN vr), .int (nI ir), .long (lN od), .int (nI cc), .ref g1, .int (nI gc), .ref g2, .ref g3, .ref g4, .int (nI oc), .ref g5, .ref g6, .ref g7, .ref g8]))] := hD
  subst hq
  refine lv_if_eq (tgt := 48) hx hb d_O_session_43 (by decide) (fun hc => absurd hc (show ¬ (1 : Int32) = 0 from by decide)) (fun _ => ?_)
  refine lv_lconst (v := lN 0) hx hb d_O_session_46 (by decide) ?_
  have hP := hP.sub (ws' := [(o0, .inr (4, [.int (nI 2), .long (lN p), .int (nI n), .long (lN vr), .int (nI ir), .long (lN od), .int (nI cc), .ref g1, .int (nI gc), .ref g2, .ref g3, .ref g4, .int (nI oc), .ref g5, .ref g6, .ref g7, .ref g8]))]) [0] rfl
  have hD := hD.sub (ws' := [(o0, .inr (4, [.int (nI 2), .long (lN p), .int (nI n), .long (lN vr), .int (nI ir), .long (lN od), .int (nI cc), .ref g1, .int (nI gc), .ref g2, .ref g3, .ref g4, .int (nI oc), .ref g5, .ref g6, .ref g7, .ref g8]))]) [0] (by decide) rfl
  exact W.lret (v := lN 0) hx hb hr (fun t9 ht hW => ⟨⟨lN 0, (), rfl, rfl, by rw [ht]; exact hP, va_K.moved hW.alike hK, hD⟩, hS.F ht⟩) hS.2.2 d_O_session_47
set_option maxHeartbeats 4000000 in
set_option maxRecDepth 100000 in
theorem c_O_sessionF (l : Launch) (dC : Nat → ClassId) (dI : Nat → Nat → Nat) (cI cL : ClassId) (sz : Nat) (o0 g1 g2 g3 g4 g5 g6 g7 g8 : Nat) (fl p n vr ir od cc gc oc : Nat) (hm : md p n) (kd lf rg ol : Nat → Nat) (hk : ck cc gc oc kd lf rg ol) (mk : Nat → Nat) (hmk : ∀ c, c < cc → mk c < 2 ^ 32) (hvr : vr < 2 ^ n) (ln pa an : Nat → Nat) (m : Nat) (hmm : m ≤ 256) (ff : Nat) (hff : ff < 2 * (cc + gc)) : Met l y_O_session w_O_session ({ frames := 3, cells := 0, slots := 0, locals := 74 } : Room) (va_Pc [.ref o0, .int (nI m), .int (nI ff)] (wq_W (dC, dI) classes [(o0, .inr (4, [.int (nI fl), .long (lN p), .int (nI n), .long (lN vr), .int (nI ir), .long (lN od), .int (nI cc), .ref g1, .int (nI gc), .ref g2, .ref g3, .ref g4, .int (nI oc), .ref g5, .ref g6, .ref g7, .ref g8])), (g1, .inl (cL, 8, .inr (.inl (fun c => lN (mk c))))), (g2, .inl (cI, 24, .inl (fun c => nI (kd c)))), (g3, .inl (cI, 24, .inl (fun c => nI (lf c)))), (g4, .inl (cI, 24, .inl (fun c => nI (rg c)))), (g5, .inl (cI, 16, .inl (fun c => nI (ol c)))), (g6, .inl (cI, 32, .inl (fun c => nI (ln c)))), (g7, .inl (cI, 256, .inl (fun c => nI (pa c)))), (g8, .inl (cI, 256, .inl (fun c => nI (an c))))] [(cI, .int), (cL, .long)] sz)) (va_Ql (fun (r : Int64) (u : (Nat → Nat) × (Nat → Nat) × (Nat → Nat)) => r = lN (sg p (fun t => fa p vr mk cc gc oc kd lf rg ol (some ff) t) m)) (fun (u : (Nat → Nat) × (Nat → Nat) × (Nat → Nat)) t => wq_B (dC, dI) classes [(cI, .int), (cL, .long)] (va_A [(o0, .inr (4, [.int (nI fl), .long (lN p), .int (nI n), .long (lN vr), .int (nI ir), .long (lN od), .int (nI cc), .ref g1, .int (nI gc), .ref g2, .ref g3, .ref g4, .int (nI oc), .ref g5, .ref g6, .ref g7, .ref g8])), (g1, .inl (cL, 8, .inr (.inl (fun c => lN (mk c))))), (g2, .inl (cI, 24, .inl (fun c => nI (kd c)))), (g3, .inl (cI, 24, .inl (fun c => nI (lf c)))), (g4, .inl (cI, 24, .inl (fun c => nI (rg c)))), (g5, .inl (cI, 16, .inl (fun c => nI (ol c)))), (g6, .inl (cI, 32, .inl (fun c => nI (ln c)))), (g7, .inl (cI, 256, .inl (fun c => nI (pa c)))), (g8, .inl (cI, 256, .inl (fun c => nI (an c))))] sz) [(o0, .inr (4, [.int (nI 0), .long (lN p), .int (nI n), .long (lN vr), .int (nI ir), .long (lN od), .int (nI cc), .ref g1, .int (nI gc), .ref g2, .ref g3, .ref g4, .int (nI oc), .ref g5, .ref g6, .ref g7, .ref g8])), (g1, .inl (cL, 8, .inr (.inl (fun c => lN (mk c))))), (g2, .inl (cI, 24, .inl (fun c => nI (kd c)))), (g3, .inl (cI, 24, .inl (fun c => nI (lf c)))), (g4, .inl (cI, 24, .inl (fun c => nI (rg c)))), (g5, .inl (cI, 16, .inl (fun c => nI (ol c)))), (g6, .inl (cI, 32, .inl (fun c => nI ((u).1 c)))), (g7, .inl (cI, 256, .inl (fun c => nI ((u).2.1 c)))), (g8, .inl (cI, 256, .inl (fun c => nI ((u).2.2 c))))] t) (va_A [(o0, .inr (4, [.int (nI fl), .long (lN p), .int (nI n), .long (lN vr), .int (nI ir), .long (lN od), .int (nI cc), .ref g1, .int (nI gc), .ref g2, .ref g3, .ref g4, .int (nI oc), .ref g5, .ref g6, .ref g7, .ref g8])), (g1, .inl (cL, 8, .inr (.inl (fun c => lN (mk c))))), (g2, .inl (cI, 24, .inl (fun c => nI (kd c)))), (g3, .inl (cI, 24, .inl (fun c => nI (lf c)))), (g4, .inl (cI, 24, .inl (fun c => nI (rg c)))), (g5, .inl (cI, 16, .inl (fun c => nI (ol c)))), (g6, .inl (cI, 32, .inl (fun c => nI (ln c)))), (g7, .inl (cI, 256, .inl (fun c => nI (pa c)))), (g8, .inl (cI, 256, .inl (fun c => nI (an c))))] sz)) 0 0 (va_A [(o0, .inr (4, [.int (nI fl), .long (lN p), .int (nI n), .long (lN vr), .int (nI ir), .long (lN od), .int (nI cc), .ref g1, .int (nI gc), .ref g2, .ref g3, .ref g4, .int (nI oc), .ref g5, .ref g6, .ref g7, .ref g8])), (g1, .inl (cL, 8, .inr (.inl (fun c => lN (mk c))))), (g2, .inl (cI, 24, .inl (fun c => nI (kd c)))), (g3, .inl (cI, 24, .inl (fun c => nI (lf c)))), (g4, .inl (cI, 24, .inl (fun c => nI (rg c)))), (g5, .inl (cI, 16, .inl (fun c => nI (ol c)))), (g6, .inl (cI, 32, .inl (fun c => nI (ln c)))), (g7, .inl (cI, 256, .inl (fun c => nI (pa c)))), (g8, .inl (cI, 256, .inl (fun c => nI (an c))))] sz) := by
  refine Met.ofW (cc := b_O_session) (maxL := 4) (ret := (Option.some Jvm.ClassFile.FieldType.long)) (by decide) rfl ?_
  intro pg en st mm ar bw me co s₁ B hml hv
  obtain ⟨rfl, hsz, hP, hK, hD0, hN⟩ := hv
  have hx := B.exec
  have hb := B.bytes
  have hr := B.returns
  have hlocks := B.notSynchronized
  have hts0 := atoms_spec (ws := w_O_session) B.pre
  have hts : ∀ w ∈ gw, w.before _ st = true := fun w h => hts0 w (List.mem_cons_of_mem _ h)
  have hown : st.vm.findClass R_O = some mm.cls := findClass_of_methodNamed B.named
  subst hsz
  have hD := hD0.self (sz := st.heap.size)
  generalize hAe : va_A [(o0, .inr (4, [.int (nI fl), .long (lN p), .int (nI n), .long (lN vr), .int (nI ir), .long (lN od), .int (nI cc), .ref g1, .int (nI gc), .ref g2, .ref g3, .ref g4, .int (nI oc), .ref g5, .ref g6, .ref g7, .ref g8])), (g1, .inl (cL, 8, .inr (.inl (fun c => lN (mk c))))), (g2, .inl (cI, 24, .inl (fun c => nI (kd c)))), (g3, .inl (cI, 24, .inl (fun c => nI (lf c)))), (g4, .inl (cI, 24, .inl (fun c => nI (rg c)))), (g5, .inl (cI, 16, .inl (fun c => nI (ol c)))), (g6, .inl (cI, 32, .inl (fun c => nI (ln c)))), (g7, .inl (cI, 256, .inl (fun c => nI (pa c)))), (g8, .inl (cI, 256, .inl (fun c => nI (an c))))] st.heap.size = A at hD ⊢
  have hA : ∀ q : Nat, st.heap.size ≤ q → A q := fun q h => by rw [← hAe]; exact Or.inr h
  have hS : va_S A st.heap st.heap [] := va_S.rf
  have hl := lv_entry ([.ref o0, .int (nI m), .int (nI ff)]) (n := 4) (Nat.le_of_ble_eq_true rfl)
  rw [lg_entry_eq]
  generalize (lg_sl ([.ref o0, .int (nI m), .int (nI ff)]) ++ List.replicate (4 - (lg_sl ([.ref o0, .int (nI m), .int (nI ff)])).length) Slot.unset).toArray = ls at hl ⊢
  have hl : lv_has ls 4 [(0, .ref o0), (1, .int (nI m)), (2, .int (nI ff))] := hl
  have h1 := hk.1
  have h2 := hk.2.1
  refine lv_iload_n hx hb d_O_session_0 rfl (lv_at hl 2 rfl) ?_
  refine lv_iconst (v := (-1)) hx hb d_O_session_1 (by decide) ?_
  refine lv_icmp_eq (tgt := 13) hx hb d_O_session_2 (by decide) (fun hc => absurd hc (nI_m1 (by omega))) (fun _ => ?_)
  refine lv_aload_n hx hb d_O_session_5 rfl (lv_at hl 0 rfl) ?_
  refine lv_iload_n hx hb d_O_session_6 rfl (lv_at hl 2 rfl) ?_
  refine vp_callSi (va_Run.run (va_runV (As := [.int (nI ff)]) (rest := []) ⟨hx, hb, hml, hown, hts⟩ (c_O_isFault l dC dI cI cL o0 g1 g2 g3 g4 g5 g6 g7 g8 fl p n vr ir od cc gc oc (nI ff)) (cwV 1 hts (gi_V kw_685 kw_687 ks_O_isFault kw_5 gi_O_isFault) rfl rfl rfl ⟨rfl, by decide, by decide, by decide⟩ ⟨Nat.le_of_ble_eq_true rfl, Nat.le_of_ble_eq_true rfl⟩) (wq_preVR hP hK hN [0] rfl (q0 := 0) (ci := 4) rfl rfl rfl) rfl rfl hl.1 rfl (lv_room (Nat.le_of_ble_eq_true rfl)) d_O_session_7 ⟨Nat.le_of_ble_eq_true rfl, Nat.le_of_ble_eq_true rfl⟩)) (fun r hq => ?_)
  have hq : r = 1 := by
    rcases hq with ⟨e9, -⟩ | ⟨-, e9⟩
    · exact e9
    · exact absurd e9 (in_ok hff (by omega))
  subst hq
  refine lv_if_eq (tgt := 17) hx hb d_O_session_10 (by decide) (fun hc => absurd hc (show ¬ (1 : Int32) = 0 from by decide)) (fun _ => ?_)
  refine lv_iconst (v := nI 1) hx hb d_O_session_13 (by decide) ?_
  refine lv_goto (tgt := 18) hx hb d_O_session_14 (by decide) ?_
  refine lv_istore_n (lv' := [(3, .int (nI 1)), (0, .ref o0), (1, .int (nI m)), (2, .int (nI ff))]) hx hb d_O_session_18 rfl hl (by decide) rfl (fun ls hl => ?_)
  refine lv_aload_n hx hb d_O_session_19 rfl (lv_at hl 1 rfl) ?_
  refine lv_iload_n hx hb d_O_session_20 rfl (lv_at hl 0 rfl) ?_
  refine lv_if_ne (tgt := 28) hx hb d_O_session_21 (by decide) (fun _ => ?_) (fun hc => absurd hc (show ¬ nI 1 = 0 from by decide))
  refine lv_iload_n hx hb d_O_session_28 rfl (lv_at hl 2 rfl) ?_
  refine vp_callSi (va_Run.run (va_runS (As := [.int (nI m)]) (rest := [.ref o0]) ⟨hx, hb, hml, hown, hts⟩ (c_O_isCount l (nI m)) (va_cwS 1 hts (gi_S kw_700 kw_701 kw_5 gi_O_isCount) rfl rfl rfl ⟨by decide, by decide, by decide⟩ ⟨Nat.le_of_ble_eq_true rfl, Nat.le_of_ble_eq_true rfl⟩) wq_preS0 rfl rfl hl.1 rfl (lv_room (Nat.le_of_ble_eq_true rfl)) d_O_session_29 ⟨Nat.le_of_ble_eq_true rfl, Nat.le_of_ble_eq_true rfl⟩)) (fun r6 hq6 => ?_)
  have hq6 : r6 = 1 := by
    rcases hq6 with ⟨e9, -⟩ | ⟨-, e9⟩
    · exact e9
    · exact absurd e9 (cnt_ok hmm)
  subst hq6
  refine lv_if_ne (tgt := 39) hx hb d_O_session_32 (by decide) (fun _ => ?_) (fun hc => absurd hc (show ¬ (1 : Int32) = 0 from by decide))
  refine lv_iconst (v := nI 0) hx hb d_O_session_39 (by decide) ?_
  refine wq_i (wr := [(g1, .inl (cL, 8, .inr (.inl (fun c => lN (mk c))))), (g2, .inl (cI, 24, .inl (fun c => nI (kd c)))), (g3, .inl (cI, 24, .inl (fun c => nI (lf c)))), (g4, .inl (cI, 24, .inl (fun c => nI (rg c)))), (g5, .inl (cI, 16, .inl (fun c => nI (ol c)))), (g6, .inl (cI, 32, .inl (fun c => nI (ln c)))), (g7, .inl (cI, 256, .inl (fun c => nI (pa c)))), (g8, .inl (cI, 256, .inl (fun c => nI (an c))))]) (va_runV (As := [.int (nI 0)]) (rest := []) ⟨hx, hb, hml, hown, hts⟩ (c_O_refused0 l dC dI cI cL st.heap.size o0 g1 g2 g3 g4 g5 g6 g7 g8 fl p n vr ir od cc gc oc) (cwV 1 hts (gi_V kw_588 kw_590 ks_O_refused kw_5 gi_O_refused) rfl rfl rfl ⟨rfl, by decide, by decide, by decide⟩ ⟨Nat.le_of_ble_eq_true rfl, Nat.le_of_ble_eq_true rfl⟩) (wq_preVW hP hD hK hN [0] rfl rfl (q0 := 0) (ci := 4) rfl rfl rfl) rfl rfl hl.1 rfl (lv_room (Nat.le_of_ble_eq_true rfl)) d_O_session_40 ⟨Nat.le_of_ble_eq_true rfl, Nat.le_of_ble_eq_true rfl⟩) hP hD hS hA [0] [1, 2, 3, 4, 5, 6, 7, 8] rfl rfl rfl (by decide) (fun r3 u H locs hq3 hP hD hS hz => ?_)
  have hP : va_P (dC, dI) classes [(g1, .inl (cL, 8, .inr (.inl (fun c => lN (mk c))))), (g2, .inl (cI, 24, .inl (fun c => nI (kd c)))), (g3, .inl (cI, 24, .inl (fun c => nI (lf c)))), (g4, .inl (cI, 24, .inl (fun c => nI (rg c)))), (g5, .inl (cI, 16, .inl (fun c => nI (ol c)))), (g6, .inl (cI, 32, .inl (fun c => nI (ln c)))), (g7, .inl (cI, 256, .inl (fun c => nI (pa c)))), (g8, .inl (cI, 256, .inl (fun c => nI (an c)))), (o0, .inr (4, [.int (nI 0), .long (lN p), .int (nI n), .long (lN vr), .int (nI ir), .long (lN od), .int (nI cc), .ref g1, .int (nI gc), .ref g2, .ref g3, .ref g4, .int (nI oc), .ref g5, .ref g6, .ref g7, .ref g8]))] H := hP
  have hD : va_D A [(g1, .inl (cL, 8, .inr (.inl (fun c => lN (mk c))))), (g2, .inl (cI, 24, .inl (fun c => nI (kd c)))), (g3, .inl (cI, 24, .inl (fun c => nI (lf c)))), (g4, .inl (cI, 24, .inl (fun c => nI (rg c)))), (g5, .inl (cI, 16, .inl (fun c => nI (ol c)))), (g6, .inl (cI, 32, .inl (fun c => nI (ln c)))), (g7, .inl (cI, 256, .inl (fun c => nI (pa c)))), (g8, .inl (cI, 256, .inl (fun c => nI (an c)))), (o0, .inr (4, [.int (nI 0), .long (lN p), .int (nI n), .long (lN vr), .int (nI ir), .long (lN od), .int (nI cc), .ref g1, .int (nI gc), .ref g2, .ref g3, .ref g4, .int (nI oc), .ref g5, .ref g6, .ref g7, .ref g8]))] := hD
  subst hq3
  refine lv_if_eq (tgt := 48) hx hb d_O_session_43 (by decide) (fun _ => ?_) (fun hc => absurd hc (fun z => z rfl))
  refine lv_aload_n hx hb d_O_session_48 rfl (lv_at hl 1 rfl) ?_
  refine lv_iload_n hx hb d_O_session_49 rfl (lv_at hl 2 rfl) ?_
  have hP := hP.sub (ws' := [(o0, .inr (4, [.int (nI 0), .long (lN p), .int (nI n), .long (lN vr), .int (nI ir), .long (lN od), .int (nI cc), .ref g1, .int (nI gc), .ref g2, .ref g3, .ref g4, .int (nI oc), .ref g5, .ref g6, .ref g7, .ref g8])), (g1, .inl (cL, 8, .inr (.inl (fun c => lN (mk c))))), (g2, .inl (cI, 24, .inl (fun c => nI (kd c)))), (g3, .inl (cI, 24, .inl (fun c => nI (lf c)))), (g4, .inl (cI, 24, .inl (fun c => nI (rg c)))), (g5, .inl (cI, 16, .inl (fun c => nI (ol c)))), (g6, .inl (cI, 32, .inl (fun c => nI (ln c)))), (g7, .inl (cI, 256, .inl (fun c => nI (pa c)))), (g8, .inl (cI, 256, .inl (fun c => nI (an c))))]) [8, 0, 1, 2, 3, 4, 5, 6, 7] rfl
  have hD := hD.sub (ws' := [(o0, .inr (4, [.int (nI 0), .long (lN p), .int (nI n), .long (lN vr), .int (nI ir), .long (lN od), .int (nI cc), .ref g1, .int (nI gc), .ref g2, .ref g3, .ref g4, .int (nI oc), .ref g5, .ref g6, .ref g7, .ref g8])), (g1, .inl (cL, 8, .inr (.inl (fun c => lN (mk c))))), (g2, .inl (cI, 24, .inl (fun c => nI (kd c)))), (g3, .inl (cI, 24, .inl (fun c => nI (lf c)))), (g4, .inl (cI, 24, .inl (fun c => nI (rg c)))), (g5, .inl (cI, 16, .inl (fun c => nI (ol c)))), (g6, .inl (cI, 32, .inl (fun c => nI (ln c)))), (g7, .inl (cI, 256, .inl (fun c => nI (pa c)))), (g8, .inl (cI, 256, .inl (fun c => nI (an c))))]) [8, 0, 1, 2, 3, 4, 5, 6, 7] (by decide) rfl
  refine wq_v (wr := []) (va_runV (As := [.int (nI m)]) (rest := []) ⟨hx, hb, hml, hown, hts⟩ (c_O_prepare l dC dI cI cL H.size o0 g1 g2 g3 g4 g5 g6 g7 g8 0 p n vr ir od cc gc oc hm kd lf rg ol hk mk hmk hvr ln pa an m hmm) (cwV 1 hts (gi_V kw_703 kw_705 ks_O_prepare kw_5 gi_O_prepare) rfl rfl rfl ⟨rfl, by decide, by decide, by decide⟩ ⟨Nat.le_of_ble_eq_true rfl, Nat.le_of_ble_eq_true rfl⟩) (wq_preVW hP hD hK hN [0, 1, 2, 3, 4, 5, 6, 7, 8] rfl rfl (q0 := 0) (ci := 4) rfl rfl rfl) rfl rfl hl.1 rfl (lv_room (Nat.le_of_ble_eq_true rfl)) d_O_session_50 ⟨Nat.le_of_ble_eq_true rfl, Nat.le_of_ble_eq_true rfl⟩) hP hD hS hA [0, 1, 2, 3, 4, 5, 6, 7, 8] [] rfl rfl rfl (by decide) (fun u H locs hpp hP hD hS hz => ?_)
  have hP : va_P (dC, dI) classes [(o0, .inr (4, [.int (nI 0), .long (lN p), .int (nI n), .long (lN vr), .int (nI ir), .long (lN od), .int (nI cc), .ref g1, .int (nI gc), .ref g2, .ref g3, .ref g4, .int (nI oc), .ref g5, .ref g6, .ref g7, .ref g8])), (g1, .inl (cL, 8, .inr (.inl (fun c => lN (mk c))))), (g2, .inl (cI, 24, .inl (fun c => nI (kd c)))), (g3, .inl (cI, 24, .inl (fun c => nI (lf c)))), (g4, .inl (cI, 24, .inl (fun c => nI (rg c)))), (g5, .inl (cI, 16, .inl (fun c => nI (ol c)))), (g6, .inl (cI, 32, .inl (fun c => nI ((u).1 c)))), (g7, .inl (cI, 256, .inl (fun c => nI ((u).2.1 c)))), (g8, .inl (cI, 256, .inl (fun c => nI ((u).2.2 c))))] H := hP
  have hD : va_D A [(o0, .inr (4, [.int (nI 0), .long (lN p), .int (nI n), .long (lN vr), .int (nI ir), .long (lN od), .int (nI cc), .ref g1, .int (nI gc), .ref g2, .ref g3, .ref g4, .int (nI oc), .ref g5, .ref g6, .ref g7, .ref g8])), (g1, .inl (cL, 8, .inr (.inl (fun c => lN (mk c))))), (g2, .inl (cI, 24, .inl (fun c => nI (kd c)))), (g3, .inl (cI, 24, .inl (fun c => nI (lf c)))), (g4, .inl (cI, 24, .inl (fun c => nI (rg c)))), (g5, .inl (cI, 16, .inl (fun c => nI (ol c)))), (g6, .inl (cI, 32, .inl (fun c => nI ((u).1 c)))), (g7, .inl (cI, 256, .inl (fun c => nI ((u).2.1 c)))), (g8, .inl (cI, 256, .inl (fun c => nI ((u).2.2 c))))] := hD
  have hpa : ∀ t, t < m → u.2.1 t = pt_n mk (rg_t p vr t) cc := fun t ht => (hpp t ht).1
  have han : ∀ t, t < m → u.2.2 t = fa p vr mk cc gc oc kd lf rg ol none t := fun t ht => (hpp t ht).2
  refine lv_aload_n hx hb d_O_session_53 rfl (lv_at hl 1 rfl) ?_
  refine lv_iload_n hx hb d_O_session_54 rfl (lv_at hl 2 rfl) ?_
  refine lv_iload_n hx hb d_O_session_55 rfl (lv_at hl 3 rfl) ?_
  refine wq_l (wr := [(g1, .inl (cL, 8, .inr (.inl (fun c => lN (mk c))))), (g8, .inl (cI, 256, .inl (fun c => nI ((u).2.2 c))))]) (va_runV (As := [.int (nI m), .int (nI ff)]) (rest := []) ⟨hx, hb, hml, hown, hts⟩ (c_O_signatureF l dC dI cI cL H.size o0 g1 g2 g3 g4 g5 g6 g7 g8 0 p n vr ir od cc gc oc hm kd lf rg ol hk mk hmk u.1 u.2.1 m hmm hpa ff (by omega)) (cwV 2 hts (gi_V kw_707 kw_709 ks_O_signature kw_5 gi_O_signature) rfl rfl rfl ⟨rfl, by decide, by decide, by decide⟩ ⟨Nat.le_of_ble_eq_true rfl, Nat.le_of_ble_eq_true rfl⟩) (wq_preVW hP hD hK hN [0, 2, 3, 4, 5, 6, 7] rfl rfl (q0 := 0) (ci := 4) rfl rfl rfl) rfl rfl hl.1 rfl (lv_room (Nat.le_of_ble_eq_true rfl)) d_O_session_56 ⟨Nat.le_of_ble_eq_true rfl, Nat.le_of_ble_eq_true rfl⟩) hP hD hS hA [0, 2, 3, 4, 5, 6, 7] [1, 8] rfl rfl rfl (by decide) (fun r4 v H locs hq4 hP hD hS hz => ?_)
  have hP : va_P (dC, dI) classes [(g1, .inl (cL, 8, .inr (.inl (fun c => lN (mk c))))), (g8, .inl (cI, 256, .inl (fun c => nI ((u).2.2 c)))), (o0, .inr (4, [.int (nI 0), .long (lN p), .int (nI n), .long (lN vr), .int (nI ir), .long (lN od), .int (nI cc), .ref g1, .int (nI gc), .ref g2, .ref g3, .ref g4, .int (nI oc), .ref g5, .ref g6, .ref g7, .ref g8])), (g2, .inl (cI, 24, .inl (fun c => nI (kd c)))), (g3, .inl (cI, 24, .inl (fun c => nI (lf c)))), (g4, .inl (cI, 24, .inl (fun c => nI (rg c)))), (g5, .inl (cI, 16, .inl (fun c => nI (ol c)))), (g6, .inl (cI, 32, .inl (fun c => nI (v c)))), (g7, .inl (cI, 256, .inl (fun c => nI ((u).2.1 c))))] H := hP
  have hD : va_D A [(g1, .inl (cL, 8, .inr (.inl (fun c => lN (mk c))))), (g8, .inl (cI, 256, .inl (fun c => nI ((u).2.2 c)))), (o0, .inr (4, [.int (nI 0), .long (lN p), .int (nI n), .long (lN vr), .int (nI ir), .long (lN od), .int (nI cc), .ref g1, .int (nI gc), .ref g2, .ref g3, .ref g4, .int (nI oc), .ref g5, .ref g6, .ref g7, .ref g8])), (g2, .inl (cI, 24, .inl (fun c => nI (kd c)))), (g3, .inl (cI, 24, .inl (fun c => nI (lf c)))), (g4, .inl (cI, 24, .inl (fun c => nI (rg c)))), (g5, .inl (cI, 16, .inl (fun c => nI (ol c)))), (g6, .inl (cI, 32, .inl (fun c => nI (v c)))), (g7, .inl (cI, 256, .inl (fun c => nI ((u).2.1 c))))] := hD
  subst hq4
  have hP := hP.sub (ws' := [(o0, .inr (4, [.int (nI 0), .long (lN p), .int (nI n), .long (lN vr), .int (nI ir), .long (lN od), .int (nI cc), .ref g1, .int (nI gc), .ref g2, .ref g3, .ref g4, .int (nI oc), .ref g5, .ref g6, .ref g7, .ref g8])), (g1, .inl (cL, 8, .inr (.inl (fun c => lN (mk c))))), (g2, .inl (cI, 24, .inl (fun c => nI (kd c)))), (g3, .inl (cI, 24, .inl (fun c => nI (lf c)))), (g4, .inl (cI, 24, .inl (fun c => nI (rg c)))), (g5, .inl (cI, 16, .inl (fun c => nI (ol c)))), (g6, .inl (cI, 32, .inl (fun c => nI (v c)))), (g7, .inl (cI, 256, .inl (fun c => nI ((u).2.1 c)))), (g8, .inl (cI, 256, .inl (fun c => nI ((u).2.2 c))))]) [2, 0, 3, 4, 5, 6, 7, 8, 1] rfl
  have hD := hD.sub (ws' := [(o0, .inr (4, [.int (nI 0), .long (lN p), .int (nI n), .long (lN vr), .int (nI ir), .long (lN od), .int (nI cc), .ref g1, .int (nI gc), .ref g2, .ref g3, .ref g4, .int (nI oc), .ref g5, .ref g6, .ref g7, .ref g8])), (g1, .inl (cL, 8, .inr (.inl (fun c => lN (mk c))))), (g2, .inl (cI, 24, .inl (fun c => nI (kd c)))), (g3, .inl (cI, 24, .inl (fun c => nI (lf c)))), (g4, .inl (cI, 24, .inl (fun c => nI (rg c)))), (g5, .inl (cI, 16, .inl (fun c => nI (ol c)))), (g6, .inl (cI, 32, .inl (fun c => nI (v c)))), (g7, .inl (cI, 256, .inl (fun c => nI ((u).2.1 c)))), (g8, .inl (cI, 256, .inl (fun c => nI ((u).2.2 c))))]) [2, 0, 3, 4, 5, 6, 7, 8, 1] (by decide) rfl
  exact W.lret (v := lN (sg p (fun t => fa p vr mk cc gc oc kd lf rg ol (some ff) t) m)) hx hb hr (fun t9 ht hW => ⟨⟨lN (sg p (fun t => fa p vr mk cc gc oc kd lf rg ol (some ff) t) m), (v, u.2.1, u.2.2), rfl, rfl, by rw [ht]; exact hP, va_K.moved hW.alike hK, hD⟩, hS.F ht⟩) hS.2.2 d_O_session_59
set_option maxHeartbeats 4000000 in
set_option maxRecDepth 100000 in
theorem c_O_sessionBF (l : Launch) (dC : Nat → ClassId) (dI : Nat → Nat → Nat) (cI cL : ClassId) (sz : Nat) (o0 g1 g2 g3 g4 g5 g6 g7 g8 : Nat) (fl p n vr ir od cc gc oc : Nat) (hl1 : 2 * (cc + gc) < 2 ^ 31) (y1 : Int32) (hy : (y1 < 0 ∨ ¬ y1 ≤ nI 256)) (ff : Nat) (hff : ff < 2 * (cc + gc)) : Met l y_O_session w_O_session ({ frames := 1, cells := 0, slots := 0, locals := 21 } : Room) (va_Pc [.ref o0, .int y1, .int (nI ff)] (wq_W (dC, dI) classes [(o0, .inr (4, [.int (nI fl), .long (lN p), .int (nI n), .long (lN vr), .int (nI ir), .long (lN od), .int (nI cc), .ref g1, .int (nI gc), .ref g2, .ref g3, .ref g4, .int (nI oc), .ref g5, .ref g6, .ref g7, .ref g8]))] [(cI, .int), (cL, .long)] sz)) (va_Ql (fun (r : Int64) (u : Unit) => r = lN 0) (fun (u : Unit) t => wq_B (dC, dI) classes [(cI, .int), (cL, .long)] (va_A [(o0, .inr (4, [.int (nI fl), .long (lN p), .int (nI n), .long (lN vr), .int (nI ir), .long (lN od), .int (nI cc), .ref g1, .int (nI gc), .ref g2, .ref g3, .ref g4, .int (nI oc), .ref g5, .ref g6, .ref g7, .ref g8]))] sz) [(o0, .inr (4, [.int (nI 2), .long (lN p), .int (nI n), .long (lN vr), .int (nI ir), .long (lN od), .int (nI cc), .ref g1, .int (nI gc), .ref g2, .ref g3, .ref g4, .int (nI oc), .ref g5, .ref g6, .ref g7, .ref g8]))] t) (va_A [(o0, .inr (4, [.int (nI fl), .long (lN p), .int (nI n), .long (lN vr), .int (nI ir), .long (lN od), .int (nI cc), .ref g1, .int (nI gc), .ref g2, .ref g3, .ref g4, .int (nI oc), .ref g5, .ref g6, .ref g7, .ref g8]))] sz)) 0 0 (va_A [(o0, .inr (4, [.int (nI fl), .long (lN p), .int (nI n), .long (lN vr), .int (nI ir), .long (lN od), .int (nI cc), .ref g1, .int (nI gc), .ref g2, .ref g3, .ref g4, .int (nI oc), .ref g5, .ref g6, .ref g7, .ref g8]))] sz) := by
  refine Met.ofW (cc := b_O_session) (maxL := 4) (ret := (Option.some Jvm.ClassFile.FieldType.long)) (by decide) rfl ?_
  intro pg en st mm ar bw me co s₁ B hml hv
  obtain ⟨rfl, hsz, hP, hK, hD0, hN⟩ := hv
  have hx := B.exec
  have hb := B.bytes
  have hr := B.returns
  have hlocks := B.notSynchronized
  have hts0 := atoms_spec (ws := w_O_session) B.pre
  have hts : ∀ w ∈ gw, w.before _ st = true := fun w h => hts0 w (List.mem_cons_of_mem _ h)
  have hown : st.vm.findClass R_O = some mm.cls := findClass_of_methodNamed B.named
  subst hsz
  have hD := hD0.self (sz := st.heap.size)
  generalize hAe : va_A [(o0, .inr (4, [.int (nI fl), .long (lN p), .int (nI n), .long (lN vr), .int (nI ir), .long (lN od), .int (nI cc), .ref g1, .int (nI gc), .ref g2, .ref g3, .ref g4, .int (nI oc), .ref g5, .ref g6, .ref g7, .ref g8]))] st.heap.size = A at hD ⊢
  have hA : ∀ q : Nat, st.heap.size ≤ q → A q := fun q h => by rw [← hAe]; exact Or.inr h
  have hS : va_S A st.heap st.heap [] := va_S.rf
  have hl := lv_entry ([.ref o0, .int y1, .int (nI ff)]) (n := 4) (Nat.le_of_ble_eq_true rfl)
  rw [lg_entry_eq]
  generalize (lg_sl ([.ref o0, .int y1, .int (nI ff)]) ++ List.replicate (4 - (lg_sl ([.ref o0, .int y1, .int (nI ff)])).length) Slot.unset).toArray = ls at hl ⊢
  have hl : lv_has ls 4 [(0, .ref o0), (1, .int y1), (2, .int (nI ff))] := hl
  refine lv_iload_n hx hb d_O_session_0 rfl (lv_at hl 2 rfl) ?_
  refine lv_iconst (v := (-1)) hx hb d_O_session_1 (by decide) ?_
  refine lv_icmp_eq (tgt := 13) hx hb d_O_session_2 (by decide) (fun hc => absurd hc (nI_m1 (by omega))) (fun _ => ?_)
  refine lv_aload_n hx hb d_O_session_5 rfl (lv_at hl 0 rfl) ?_
  refine lv_iload_n hx hb d_O_session_6 rfl (lv_at hl 2 rfl) ?_
  refine vp_callSi (va_Run.run (va_runV (As := [.int (nI ff)]) (rest := []) ⟨hx, hb, hml, hown, hts⟩ (c_O_isFault l dC dI cI cL o0 g1 g2 g3 g4 g5 g6 g7 g8 fl p n vr ir od cc gc oc (nI ff)) (cwV 1 hts (gi_V kw_685 kw_687 ks_O_isFault kw_5 gi_O_isFault) rfl rfl rfl ⟨rfl, by decide, by decide, by decide⟩ ⟨Nat.le_of_ble_eq_true rfl, Nat.le_of_ble_eq_true rfl⟩) (wq_preVR hP hK hN [0] rfl (q0 := 0) (ci := 4) rfl rfl rfl) rfl rfl hl.1 rfl (lv_room (Nat.le_of_ble_eq_true rfl)) d_O_session_7 ⟨Nat.le_of_ble_eq_true rfl, Nat.le_of_ble_eq_true rfl⟩)) (fun r hq => ?_)
  have hq : r = 1 := by
    rcases hq with ⟨e9, -⟩ | ⟨-, e9⟩
    · exact e9
    · exact absurd e9 (in_ok hff (by omega))
  subst hq
  refine lv_if_eq (tgt := 17) hx hb d_O_session_10 (by decide) (fun hc => absurd hc (show ¬ (1 : Int32) = 0 from by decide)) (fun _ => ?_)
  refine lv_iconst (v := nI 1) hx hb d_O_session_13 (by decide) ?_
  refine lv_goto (tgt := 18) hx hb d_O_session_14 (by decide) ?_
  refine lv_istore_n (lv' := [(3, .int (nI 1)), (0, .ref o0), (1, .int y1), (2, .int (nI ff))]) hx hb d_O_session_18 rfl hl (by decide) rfl (fun ls hl => ?_)
  refine lv_aload_n hx hb d_O_session_19 rfl (lv_at hl 1 rfl) ?_
  refine lv_iload_n hx hb d_O_session_20 rfl (lv_at hl 0 rfl) ?_
  refine lv_if_ne (tgt := 28) hx hb d_O_session_21 (by decide) (fun _ => ?_) (fun hc => absurd hc (show ¬ nI 1 = 0 from by decide))
  refine lv_iload_n hx hb d_O_session_28 rfl (lv_at hl 2 rfl) ?_
  refine vp_callSi (va_Run.run (va_runS (As := [.int y1]) (rest := [.ref o0]) ⟨hx, hb, hml, hown, hts⟩ (c_O_isCount l y1) (va_cwS 1 hts (gi_S kw_700 kw_701 kw_5 gi_O_isCount) rfl rfl rfl ⟨by decide, by decide, by decide⟩ ⟨Nat.le_of_ble_eq_true rfl, Nat.le_of_ble_eq_true rfl⟩) wq_preS0 rfl rfl hl.1 rfl (lv_room (Nat.le_of_ble_eq_true rfl)) d_O_session_29 ⟨Nat.le_of_ble_eq_true rfl, Nat.le_of_ble_eq_true rfl⟩)) (fun r6 hq6 => ?_)
  have hq6 : r6 = 0 := by
    rcases hq6 with ⟨-, e9⟩ | ⟨e9, -⟩
    · exact absurd hy e9
    · exact e9
  subst hq6
  refine lv_if_ne (tgt := 39) hx hb d_O_session_32 (by decide) (fun hc => absurd hc (fun z => z rfl)) (fun _ => ?_)
  refine lv_iconst (v := nI 2) hx hb d_O_session_35 (by decide) ?_
  refine lv_goto (tgt := 40) hx hb d_O_session_36 (by decide) ?_
  refine wq_i (wr := []) (va_runV (As := [.int (nI 2)]) (rest := []) ⟨hx, hb, hml, hown, hts⟩ (c_O_refusedK l dC dI cI cL st.heap.size o0 g1 g2 g3 g4 g5 g6 g7 g8 fl p n vr ir od cc gc oc 2 (by decide) (by decide)) (cwV 1 hts (gi_V kw_588 kw_590 ks_O_refused kw_5 gi_O_refused) rfl rfl rfl ⟨rfl, by decide, by decide, by decide⟩ ⟨Nat.le_of_ble_eq_true rfl, Nat.le_of_ble_eq_true rfl⟩) (wq_preVW hP hD hK hN [0] rfl rfl (q0 := 0) (ci := 4) rfl rfl rfl) rfl rfl hl.1 rfl (lv_room (Nat.le_of_ble_eq_true rfl)) d_O_session_40 ⟨Nat.le_of_ble_eq_true rfl, Nat.le_of_ble_eq_true rfl⟩) hP hD hS hA [0] [] rfl rfl rfl (by decide) (fun r u H locs hq hP hD hS hz => ?_)
  have hP : va_P (dC, dI) classes [(o0, .inr (4, [.int (nI 2), .long (lN p), .int (nI n), .long (lN vr), .int (nI ir), .long (lN od), .int (nI cc), .ref g1, .int (nI gc), .ref g2, .ref g3, .ref g4, .int (nI oc), .ref g5, .ref g6, .ref g7, .ref g8]))] H := hP
  have hD : va_D A [(o0, .inr (4, [.int (nI 2), .long (lN p), .int (nI n), .long (lN vr), .int (nI ir), .long (lN od), .int (nI cc), .ref g1, .int (nI gc), .ref g2, .ref g3, .ref g4, .int (nI oc), .ref g5, .ref g6, .ref g7, .ref g8]))] := hD
  subst hq
  refine lv_if_eq (tgt := 48) hx hb d_O_session_43 (by decide) (fun hc => absurd hc (show ¬ (1 : Int32) = 0 from by decide)) (fun _ => ?_)
  refine lv_lconst (v := lN 0) hx hb d_O_session_46 (by decide) ?_
  have hP := hP.sub (ws' := [(o0, .inr (4, [.int (nI 2), .long (lN p), .int (nI n), .long (lN vr), .int (nI ir), .long (lN od), .int (nI cc), .ref g1, .int (nI gc), .ref g2, .ref g3, .ref g4, .int (nI oc), .ref g5, .ref g6, .ref g7, .ref g8]))]) [0] rfl
  have hD := hD.sub (ws' := [(o0, .inr (4, [.int (nI 2), .long (lN p), .int (nI n), .long (lN vr), .int (nI ir), .long (lN od), .int (nI cc), .ref g1, .int (nI gc), .ref g2, .ref g3, .ref g4, .int (nI oc), .ref g5, .ref g6, .ref g7, .ref g8]))]) [0] (by decide) rfl
  exact W.lret (v := lN 0) hx hb hr (fun t9 ht hW => ⟨⟨lN 0, (), rfl, rfl, by rw [ht]; exact hP, va_K.moved hW.alike hK, hD⟩, hS.F ht⟩) hS.2.2 d_O_session_47
set_option maxHeartbeats 4000000 in
set_option maxRecDepth 100000 in
theorem c_O_sessionA (l : Launch) (dC : Nat → ClassId) (dI : Nat → Nat → Nat) (cI cL : ClassId) (sz : Nat) (o0 g1 g2 g3 g4 g5 g6 g7 g8 : Nat) (fl p n vr ir od cc gc oc : Nat) (y1 y : Int32) (hy : (y < 0 ∨ ¬ y < nI (2 * (cc + gc)))) (hm1 : y ≠ -1) : Met l y_O_session w_O_session ({ frames := 1, cells := 0, slots := 0, locals := 21 } : Room) (va_Pc [.ref o0, .int y1, .int y] (wq_W (dC, dI) classes [(o0, .inr (4, [.int (nI fl), .long (lN p), .int (nI n), .long (lN vr), .int (nI ir), .long (lN od), .int (nI cc), .ref g1, .int (nI gc), .ref g2, .ref g3, .ref g4, .int (nI oc), .ref g5, .ref g6, .ref g7, .ref g8]))] [(cI, .int), (cL, .long)] sz)) (va_Ql (fun (r : Int64) (u : Unit) => r = lN 0) (fun (u : Unit) t => wq_B (dC, dI) classes [(cI, .int), (cL, .long)] (va_A [(o0, .inr (4, [.int (nI fl), .long (lN p), .int (nI n), .long (lN vr), .int (nI ir), .long (lN od), .int (nI cc), .ref g1, .int (nI gc), .ref g2, .ref g3, .ref g4, .int (nI oc), .ref g5, .ref g6, .ref g7, .ref g8]))] sz) [(o0, .inr (4, [.int (nI 1), .long (lN p), .int (nI n), .long (lN vr), .int (nI ir), .long (lN od), .int (nI cc), .ref g1, .int (nI gc), .ref g2, .ref g3, .ref g4, .int (nI oc), .ref g5, .ref g6, .ref g7, .ref g8]))] t) (va_A [(o0, .inr (4, [.int (nI fl), .long (lN p), .int (nI n), .long (lN vr), .int (nI ir), .long (lN od), .int (nI cc), .ref g1, .int (nI gc), .ref g2, .ref g3, .ref g4, .int (nI oc), .ref g5, .ref g6, .ref g7, .ref g8]))] sz)) 0 0 (va_A [(o0, .inr (4, [.int (nI fl), .long (lN p), .int (nI n), .long (lN vr), .int (nI ir), .long (lN od), .int (nI cc), .ref g1, .int (nI gc), .ref g2, .ref g3, .ref g4, .int (nI oc), .ref g5, .ref g6, .ref g7, .ref g8]))] sz) := by
  refine Met.ofW (cc := b_O_session) (maxL := 4) (ret := (Option.some Jvm.ClassFile.FieldType.long)) (by decide) rfl ?_
  intro pg en st mm ar bw me co s₁ B hml hv
  obtain ⟨rfl, hsz, hP, hK, hD0, hN⟩ := hv
  have hx := B.exec
  have hb := B.bytes
  have hr := B.returns
  have hlocks := B.notSynchronized
  have hts0 := atoms_spec (ws := w_O_session) B.pre
  have hts : ∀ w ∈ gw, w.before _ st = true := fun w h => hts0 w (List.mem_cons_of_mem _ h)
  have hown : st.vm.findClass R_O = some mm.cls := findClass_of_methodNamed B.named
  subst hsz
  have hD := hD0.self (sz := st.heap.size)
  generalize hAe : va_A [(o0, .inr (4, [.int (nI fl), .long (lN p), .int (nI n), .long (lN vr), .int (nI ir), .long (lN od), .int (nI cc), .ref g1, .int (nI gc), .ref g2, .ref g3, .ref g4, .int (nI oc), .ref g5, .ref g6, .ref g7, .ref g8]))] st.heap.size = A at hD ⊢
  have hA : ∀ q : Nat, st.heap.size ≤ q → A q := fun q h => by rw [← hAe]; exact Or.inr h
  have hS : va_S A st.heap st.heap [] := va_S.rf
  have hl := lv_entry ([.ref o0, .int y1, .int y]) (n := 4) (Nat.le_of_ble_eq_true rfl)
  rw [lg_entry_eq]
  generalize (lg_sl ([.ref o0, .int y1, .int y]) ++ List.replicate (4 - (lg_sl ([.ref o0, .int y1, .int y])).length) Slot.unset).toArray = ls at hl ⊢
  have hl : lv_has ls 4 [(0, .ref o0), (1, .int y1), (2, .int y)] := hl
  refine lv_iload_n hx hb d_O_session_0 rfl (lv_at hl 2 rfl) ?_
  refine lv_iconst (v := (-1)) hx hb d_O_session_1 (by decide) ?_
  refine lv_icmp_eq (tgt := 13) hx hb d_O_session_2 (by decide) (fun hc => absurd hc (hm1)) (fun _ => ?_)
  refine lv_aload_n hx hb d_O_session_5 rfl (lv_at hl 0 rfl) ?_
  refine lv_iload_n hx hb d_O_session_6 rfl (lv_at hl 2 rfl) ?_
  refine vp_callSi (va_Run.run (va_runV (As := [.int y]) (rest := []) ⟨hx, hb, hml, hown, hts⟩ (c_O_isFault l dC dI cI cL o0 g1 g2 g3 g4 g5 g6 g7 g8 fl p n vr ir od cc gc oc y) (cwV 1 hts (gi_V kw_685 kw_687 ks_O_isFault kw_5 gi_O_isFault) rfl rfl rfl ⟨rfl, by decide, by decide, by decide⟩ ⟨Nat.le_of_ble_eq_true rfl, Nat.le_of_ble_eq_true rfl⟩) (wq_preVR hP hK hN [0] rfl (q0 := 0) (ci := 4) rfl rfl rfl) rfl rfl hl.1 rfl (lv_room (Nat.le_of_ble_eq_true rfl)) d_O_session_7 ⟨Nat.le_of_ble_eq_true rfl, Nat.le_of_ble_eq_true rfl⟩)) (fun r hq => ?_)
  have hq : r = 0 := by
    rcases hq with ⟨-, e9⟩ | ⟨e9, -⟩
    · exact absurd hy e9
    · exact e9
  subst hq
  refine lv_if_eq (tgt := 17) hx hb d_O_session_10 (by decide) (fun _ => ?_) (fun hc => absurd hc (fun z => z rfl))
  refine lv_iconst (v := nI 0) hx hb d_O_session_17 (by decide) ?_
  refine lv_istore_n (lv' := [(3, .int (nI 0)), (0, .ref o0), (1, .int y1), (2, .int y)]) hx hb d_O_session_18 rfl hl (by decide) rfl (fun ls hl => ?_)
  refine lv_aload_n hx hb d_O_session_19 rfl (lv_at hl 1 rfl) ?_
  refine lv_iload_n hx hb d_O_session_20 rfl (lv_at hl 0 rfl) ?_
  refine lv_if_ne (tgt := 28) hx hb d_O_session_21 (by decide) (fun hc => absurd hc (fun z => z rfl)) (fun _ => ?_)
  refine lv_iconst (v := nI 1) hx hb d_O_session_24 (by decide) ?_
  refine lv_goto (tgt := 40) hx hb d_O_session_25 (by decide) ?_
  refine wq_i (wr := []) (va_runV (As := [.int (nI 1)]) (rest := []) ⟨hx, hb, hml, hown, hts⟩ (c_O_refusedK l dC dI cI cL st.heap.size o0 g1 g2 g3 g4 g5 g6 g7 g8 fl p n vr ir od cc gc oc 1 (by decide) (by decide)) (cwV 1 hts (gi_V kw_588 kw_590 ks_O_refused kw_5 gi_O_refused) rfl rfl rfl ⟨rfl, by decide, by decide, by decide⟩ ⟨Nat.le_of_ble_eq_true rfl, Nat.le_of_ble_eq_true rfl⟩) (wq_preVW hP hD hK hN [0] rfl rfl (q0 := 0) (ci := 4) rfl rfl rfl) rfl rfl hl.1 rfl (lv_room (Nat.le_of_ble_eq_true rfl)) d_O_session_40 ⟨Nat.le_of_ble_eq_true rfl, Nat.le_of_ble_eq_true rfl⟩) hP hD hS hA [0] [] rfl rfl rfl (by decide) (fun r u H locs hq hP hD hS hz => ?_)
  have hP : va_P (dC, dI) classes [(o0, .inr (4, [.int (nI 1), .long (lN p), .int (nI n), .long (lN vr), .int (nI ir), .long (lN od), .int (nI cc), .ref g1, .int (nI gc), .ref g2, .ref g3, .ref g4, .int (nI oc), .ref g5, .ref g6, .ref g7, .ref g8]))] H := hP
  have hD : va_D A [(o0, .inr (4, [.int (nI 1), .long (lN p), .int (nI n), .long (lN vr), .int (nI ir), .long (lN od), .int (nI cc), .ref g1, .int (nI gc), .ref g2, .ref g3, .ref g4, .int (nI oc), .ref g5, .ref g6, .ref g7, .ref g8]))] := hD
  subst hq
  refine lv_if_eq (tgt := 48) hx hb d_O_session_43 (by decide) (fun hc => absurd hc (show ¬ (1 : Int32) = 0 from by decide)) (fun _ => ?_)
  refine lv_lconst (v := lN 0) hx hb d_O_session_46 (by decide) ?_
  have hP := hP.sub (ws' := [(o0, .inr (4, [.int (nI 1), .long (lN p), .int (nI n), .long (lN vr), .int (nI ir), .long (lN od), .int (nI cc), .ref g1, .int (nI gc), .ref g2, .ref g3, .ref g4, .int (nI oc), .ref g5, .ref g6, .ref g7, .ref g8]))]) [0] rfl
  have hD := hD.sub (ws' := [(o0, .inr (4, [.int (nI 1), .long (lN p), .int (nI n), .long (lN vr), .int (nI ir), .long (lN od), .int (nI cc), .ref g1, .int (nI gc), .ref g2, .ref g3, .ref g4, .int (nI oc), .ref g5, .ref g6, .ref g7, .ref g8]))]) [0] (by decide) rfl
  exact W.lret (v := lN 0) hx hb hr (fun t9 ht hW => ⟨⟨lN 0, (), rfl, rfl, by rw [ht]; exact hP, va_K.moved hW.alike hK, hD⟩, hS.F ht⟩) hS.2.2 d_O_session_47
set_option maxHeartbeats 4000000 in
set_option maxRecDepth 100000 in
theorem c_O_firstY (l : Launch) (dC : Nat → ClassId) (dI : Nat → Nat → Nat) (cI cL : ClassId) (sz : Nat) (o0 g1 g2 g3 g4 g5 g6 g7 g8 : Nat) (fl p n vr ir od cc gc oc : Nat) (hm : md p n) (kd lf rg ol : Nat → Nat) (hk : ck cc gc oc kd lf rg ol) (mk : Nat → Nat) (hmk : ∀ c, c < cc → mk c < 2 ^ 32) (hvr : vr < 2 ^ n) (ln pa an : Nat → Nat) (m : Nat) (hmm : m ≤ 256) (ff : Nat) (hff : ff < 2 * (cc + gc)) : Met l y_O_first w_O_first ({ frames := 3, cells := 0, slots := 0, locals := 70 } : Room) (va_Pc [.ref o0, .int (nI m), .int (nI ff)] (wq_W (dC, dI) classes [(o0, .inr (4, [.int (nI fl), .long (lN p), .int (nI n), .long (lN vr), .int (nI ir), .long (lN od), .int (nI cc), .ref g1, .int (nI gc), .ref g2, .ref g3, .ref g4, .int (nI oc), .ref g5, .ref g6, .ref g7, .ref g8])), (g1, .inl (cL, 8, .inr (.inl (fun c => lN (mk c))))), (g2, .inl (cI, 24, .inl (fun c => nI (kd c)))), (g3, .inl (cI, 24, .inl (fun c => nI (lf c)))), (g4, .inl (cI, 24, .inl (fun c => nI (rg c)))), (g5, .inl (cI, 16, .inl (fun c => nI (ol c)))), (g6, .inl (cI, 32, .inl (fun c => nI (ln c)))), (g7, .inl (cI, 256, .inl (fun c => nI (pa c)))), (g8, .inl (cI, 256, .inl (fun c => nI (an c))))] [(cI, .int), (cL, .long)] sz)) (va_Qi (fun (r : Int32) (u : (Nat → Nat) × (Nat → Nat) × (Nat → Nat)) => (∃ t, t < m ∧ fa p vr mk cc gc oc kd lf rg ol (some ff) t ≠ fa p vr mk cc gc oc kd lf rg ol none t ∧ (∀ j, j < t → fa p vr mk cc gc oc kd lf rg ol (some ff) j = fa p vr mk cc gc oc kd lf rg ol none j) ∧ r = nI t) ∨ ((∀ j, j < m → fa p vr mk cc gc oc kd lf rg ol (some ff) j = fa p vr mk cc gc oc kd lf rg ol none j) ∧ r = -1)) (fun (u : (Nat → Nat) × (Nat → Nat) × (Nat → Nat)) t => wq_B (dC, dI) classes [(cI, .int), (cL, .long)] (va_A [(o0, .inr (4, [.int (nI fl), .long (lN p), .int (nI n), .long (lN vr), .int (nI ir), .long (lN od), .int (nI cc), .ref g1, .int (nI gc), .ref g2, .ref g3, .ref g4, .int (nI oc), .ref g5, .ref g6, .ref g7, .ref g8])), (g1, .inl (cL, 8, .inr (.inl (fun c => lN (mk c))))), (g2, .inl (cI, 24, .inl (fun c => nI (kd c)))), (g3, .inl (cI, 24, .inl (fun c => nI (lf c)))), (g4, .inl (cI, 24, .inl (fun c => nI (rg c)))), (g5, .inl (cI, 16, .inl (fun c => nI (ol c)))), (g6, .inl (cI, 32, .inl (fun c => nI (ln c)))), (g7, .inl (cI, 256, .inl (fun c => nI (pa c)))), (g8, .inl (cI, 256, .inl (fun c => nI (an c))))] sz) [(o0, .inr (4, [.int (nI 0), .long (lN p), .int (nI n), .long (lN vr), .int (nI ir), .long (lN od), .int (nI cc), .ref g1, .int (nI gc), .ref g2, .ref g3, .ref g4, .int (nI oc), .ref g5, .ref g6, .ref g7, .ref g8])), (g1, .inl (cL, 8, .inr (.inl (fun c => lN (mk c))))), (g2, .inl (cI, 24, .inl (fun c => nI (kd c)))), (g3, .inl (cI, 24, .inl (fun c => nI (lf c)))), (g4, .inl (cI, 24, .inl (fun c => nI (rg c)))), (g5, .inl (cI, 16, .inl (fun c => nI (ol c)))), (g6, .inl (cI, 32, .inl (fun c => nI ((u).1 c)))), (g7, .inl (cI, 256, .inl (fun c => nI ((u).2.1 c)))), (g8, .inl (cI, 256, .inl (fun c => nI ((u).2.2 c))))] t) (va_A [(o0, .inr (4, [.int (nI fl), .long (lN p), .int (nI n), .long (lN vr), .int (nI ir), .long (lN od), .int (nI cc), .ref g1, .int (nI gc), .ref g2, .ref g3, .ref g4, .int (nI oc), .ref g5, .ref g6, .ref g7, .ref g8])), (g1, .inl (cL, 8, .inr (.inl (fun c => lN (mk c))))), (g2, .inl (cI, 24, .inl (fun c => nI (kd c)))), (g3, .inl (cI, 24, .inl (fun c => nI (lf c)))), (g4, .inl (cI, 24, .inl (fun c => nI (rg c)))), (g5, .inl (cI, 16, .inl (fun c => nI (ol c)))), (g6, .inl (cI, 32, .inl (fun c => nI (ln c)))), (g7, .inl (cI, 256, .inl (fun c => nI (pa c)))), (g8, .inl (cI, 256, .inl (fun c => nI (an c))))] sz)) 0 0 (va_A [(o0, .inr (4, [.int (nI fl), .long (lN p), .int (nI n), .long (lN vr), .int (nI ir), .long (lN od), .int (nI cc), .ref g1, .int (nI gc), .ref g2, .ref g3, .ref g4, .int (nI oc), .ref g5, .ref g6, .ref g7, .ref g8])), (g1, .inl (cL, 8, .inr (.inl (fun c => lN (mk c))))), (g2, .inl (cI, 24, .inl (fun c => nI (kd c)))), (g3, .inl (cI, 24, .inl (fun c => nI (lf c)))), (g4, .inl (cI, 24, .inl (fun c => nI (rg c)))), (g5, .inl (cI, 16, .inl (fun c => nI (ol c)))), (g6, .inl (cI, 32, .inl (fun c => nI (ln c)))), (g7, .inl (cI, 256, .inl (fun c => nI (pa c)))), (g8, .inl (cI, 256, .inl (fun c => nI (an c))))] sz) := by
  refine Met.ofW (cc := b_O_first) (maxL := 3) (ret := (Option.some Jvm.ClassFile.FieldType.int)) (by decide) rfl ?_
  intro pg en st mm ar bw me co s₁ B hml hv
  obtain ⟨rfl, hsz, hP, hK, hD0, hN⟩ := hv
  have hx := B.exec
  have hb := B.bytes
  have hr := B.returns
  have hlocks := B.notSynchronized
  have hts0 := atoms_spec (ws := w_O_first) B.pre
  have hts : ∀ w ∈ gw, w.before _ st = true := fun w h => hts0 w (List.mem_cons_of_mem _ h)
  have hown : st.vm.findClass R_O = some mm.cls := findClass_of_methodNamed B.named
  subst hsz
  have hD := hD0.self (sz := st.heap.size)
  generalize hAe : va_A [(o0, .inr (4, [.int (nI fl), .long (lN p), .int (nI n), .long (lN vr), .int (nI ir), .long (lN od), .int (nI cc), .ref g1, .int (nI gc), .ref g2, .ref g3, .ref g4, .int (nI oc), .ref g5, .ref g6, .ref g7, .ref g8])), (g1, .inl (cL, 8, .inr (.inl (fun c => lN (mk c))))), (g2, .inl (cI, 24, .inl (fun c => nI (kd c)))), (g3, .inl (cI, 24, .inl (fun c => nI (lf c)))), (g4, .inl (cI, 24, .inl (fun c => nI (rg c)))), (g5, .inl (cI, 16, .inl (fun c => nI (ol c)))), (g6, .inl (cI, 32, .inl (fun c => nI (ln c)))), (g7, .inl (cI, 256, .inl (fun c => nI (pa c)))), (g8, .inl (cI, 256, .inl (fun c => nI (an c))))] st.heap.size = A at hD ⊢
  have hA : ∀ q : Nat, st.heap.size ≤ q → A q := fun q h => by rw [← hAe]; exact Or.inr h
  have hS : va_S A st.heap st.heap [] := va_S.rf
  have hl := lv_entry ([.ref o0, .int (nI m), .int (nI ff)]) (n := 3) (Nat.le_of_ble_eq_true rfl)
  rw [lg_entry_eq]
  generalize (lg_sl ([.ref o0, .int (nI m), .int (nI ff)]) ++ List.replicate (3 - (lg_sl ([.ref o0, .int (nI m), .int (nI ff)])).length) Slot.unset).toArray = ls at hl ⊢
  have hl : lv_has ls 3 [(0, .ref o0), (1, .int (nI m)), (2, .int (nI ff))] := hl
  have h1 := hk.1
  have h2 := hk.2.1
  refine lv_aload_n hx hb d_O_first_0 rfl (lv_at hl 0 rfl) ?_
  refine lv_aload_n hx hb d_O_first_1 rfl (lv_at hl 0 rfl) ?_
  refine lv_iload_n hx hb d_O_first_2 rfl (lv_at hl 2 rfl) ?_
  refine vp_callSi (va_Run.run (va_runV (As := [.int (nI ff)]) (rest := [.ref o0]) ⟨hx, hb, hml, hown, hts⟩ (c_O_isFault l dC dI cI cL o0 g1 g2 g3 g4 g5 g6 g7 g8 fl p n vr ir od cc gc oc (nI ff)) (cwV 1 hts (gi_V kw_685 kw_687 ks_O_isFault kw_5 gi_O_isFault) rfl rfl rfl ⟨rfl, by decide, by decide, by decide⟩ ⟨Nat.le_of_ble_eq_true rfl, Nat.le_of_ble_eq_true rfl⟩) (wq_preVR hP hK hN [0] rfl (q0 := 0) (ci := 4) rfl rfl rfl) rfl rfl hl.1 rfl (lv_room (Nat.le_of_ble_eq_true rfl)) d_O_first_3 ⟨Nat.le_of_ble_eq_true rfl, Nat.le_of_ble_eq_true rfl⟩)) (fun r hq => ?_)
  have hq : r = 1 := by
    rcases hq with ⟨e9, -⟩ | ⟨-, e9⟩
    · exact e9
    · exact absurd e9 (in_ok hff (by omega))
  subst hq
  refine lv_if_ne (tgt := 13) hx hb d_O_first_6 (by decide) (fun _ => ?_) (fun hc => absurd hc (show ¬ (1 : Int32) = 0 from by decide))
  refine lv_iload_n hx hb d_O_first_13 rfl (lv_at hl 1 rfl) ?_
  refine vp_callSi (va_Run.run (va_runS (As := [.int (nI m)]) (rest := [.ref o0]) ⟨hx, hb, hml, hown, hts⟩ (c_O_isCount l (nI m)) (va_cwS 1 hts (gi_S kw_700 kw_701 kw_5 gi_O_isCount) rfl rfl rfl ⟨by decide, by decide, by decide⟩ ⟨Nat.le_of_ble_eq_true rfl, Nat.le_of_ble_eq_true rfl⟩) wq_preS0 rfl rfl hl.1 rfl (lv_room (Nat.le_of_ble_eq_true rfl)) d_O_first_14 ⟨Nat.le_of_ble_eq_true rfl, Nat.le_of_ble_eq_true rfl⟩)) (fun r6 hq6 => ?_)
  have hq6 : r6 = 1 := by
    rcases hq6 with ⟨e9, -⟩ | ⟨-, e9⟩
    · exact e9
    · exact absurd e9 (cnt_ok hmm)
  subst hq6
  refine lv_if_ne (tgt := 24) hx hb d_O_first_17 (by decide) (fun _ => ?_) (fun hc => absurd hc (show ¬ (1 : Int32) = 0 from by decide))
  refine lv_iconst (v := nI 0) hx hb d_O_first_24 (by decide) ?_
  refine wq_i (wr := [(g1, .inl (cL, 8, .inr (.inl (fun c => lN (mk c))))), (g2, .inl (cI, 24, .inl (fun c => nI (kd c)))), (g3, .inl (cI, 24, .inl (fun c => nI (lf c)))), (g4, .inl (cI, 24, .inl (fun c => nI (rg c)))), (g5, .inl (cI, 16, .inl (fun c => nI (ol c)))), (g6, .inl (cI, 32, .inl (fun c => nI (ln c)))), (g7, .inl (cI, 256, .inl (fun c => nI (pa c)))), (g8, .inl (cI, 256, .inl (fun c => nI (an c))))]) (va_runV (As := [.int (nI 0)]) (rest := []) ⟨hx, hb, hml, hown, hts⟩ (c_O_refused0 l dC dI cI cL st.heap.size o0 g1 g2 g3 g4 g5 g6 g7 g8 fl p n vr ir od cc gc oc) (cwV 1 hts (gi_V kw_588 kw_590 ks_O_refused kw_5 gi_O_refused) rfl rfl rfl ⟨rfl, by decide, by decide, by decide⟩ ⟨Nat.le_of_ble_eq_true rfl, Nat.le_of_ble_eq_true rfl⟩) (wq_preVW hP hD hK hN [0] rfl rfl (q0 := 0) (ci := 4) rfl rfl rfl) rfl rfl hl.1 rfl (lv_room (Nat.le_of_ble_eq_true rfl)) d_O_first_25 ⟨Nat.le_of_ble_eq_true rfl, Nat.le_of_ble_eq_true rfl⟩) hP hD hS hA [0] [1, 2, 3, 4, 5, 6, 7, 8] rfl rfl rfl (by decide) (fun r3 u H locs hq3 hP hD hS hz => ?_)
  have hP : va_P (dC, dI) classes [(g1, .inl (cL, 8, .inr (.inl (fun c => lN (mk c))))), (g2, .inl (cI, 24, .inl (fun c => nI (kd c)))), (g3, .inl (cI, 24, .inl (fun c => nI (lf c)))), (g4, .inl (cI, 24, .inl (fun c => nI (rg c)))), (g5, .inl (cI, 16, .inl (fun c => nI (ol c)))), (g6, .inl (cI, 32, .inl (fun c => nI (ln c)))), (g7, .inl (cI, 256, .inl (fun c => nI (pa c)))), (g8, .inl (cI, 256, .inl (fun c => nI (an c)))), (o0, .inr (4, [.int (nI 0), .long (lN p), .int (nI n), .long (lN vr), .int (nI ir), .long (lN od), .int (nI cc), .ref g1, .int (nI gc), .ref g2, .ref g3, .ref g4, .int (nI oc), .ref g5, .ref g6, .ref g7, .ref g8]))] H := hP
  have hD : va_D A [(g1, .inl (cL, 8, .inr (.inl (fun c => lN (mk c))))), (g2, .inl (cI, 24, .inl (fun c => nI (kd c)))), (g3, .inl (cI, 24, .inl (fun c => nI (lf c)))), (g4, .inl (cI, 24, .inl (fun c => nI (rg c)))), (g5, .inl (cI, 16, .inl (fun c => nI (ol c)))), (g6, .inl (cI, 32, .inl (fun c => nI (ln c)))), (g7, .inl (cI, 256, .inl (fun c => nI (pa c)))), (g8, .inl (cI, 256, .inl (fun c => nI (an c)))), (o0, .inr (4, [.int (nI 0), .long (lN p), .int (nI n), .long (lN vr), .int (nI ir), .long (lN od), .int (nI cc), .ref g1, .int (nI gc), .ref g2, .ref g3, .ref g4, .int (nI oc), .ref g5, .ref g6, .ref g7, .ref g8]))] := hD
  subst hq3
  refine lv_if_eq (tgt := 33) hx hb d_O_first_28 (by decide) (fun _ => ?_) (fun hc => absurd hc (fun z => z rfl))
  refine lv_aload_n hx hb d_O_first_33 rfl (lv_at hl 0 rfl) ?_
  refine lv_iload_n hx hb d_O_first_34 rfl (lv_at hl 1 rfl) ?_
  have hP := hP.sub (ws' := [(o0, .inr (4, [.int (nI 0), .long (lN p), .int (nI n), .long (lN vr), .int (nI ir), .long (lN od), .int (nI cc), .ref g1, .int (nI gc), .ref g2, .ref g3, .ref g4, .int (nI oc), .ref g5, .ref g6, .ref g7, .ref g8])), (g1, .inl (cL, 8, .inr (.inl (fun c => lN (mk c))))), (g2, .inl (cI, 24, .inl (fun c => nI (kd c)))), (g3, .inl (cI, 24, .inl (fun c => nI (lf c)))), (g4, .inl (cI, 24, .inl (fun c => nI (rg c)))), (g5, .inl (cI, 16, .inl (fun c => nI (ol c)))), (g6, .inl (cI, 32, .inl (fun c => nI (ln c)))), (g7, .inl (cI, 256, .inl (fun c => nI (pa c)))), (g8, .inl (cI, 256, .inl (fun c => nI (an c))))]) [8, 0, 1, 2, 3, 4, 5, 6, 7] rfl
  have hD := hD.sub (ws' := [(o0, .inr (4, [.int (nI 0), .long (lN p), .int (nI n), .long (lN vr), .int (nI ir), .long (lN od), .int (nI cc), .ref g1, .int (nI gc), .ref g2, .ref g3, .ref g4, .int (nI oc), .ref g5, .ref g6, .ref g7, .ref g8])), (g1, .inl (cL, 8, .inr (.inl (fun c => lN (mk c))))), (g2, .inl (cI, 24, .inl (fun c => nI (kd c)))), (g3, .inl (cI, 24, .inl (fun c => nI (lf c)))), (g4, .inl (cI, 24, .inl (fun c => nI (rg c)))), (g5, .inl (cI, 16, .inl (fun c => nI (ol c)))), (g6, .inl (cI, 32, .inl (fun c => nI (ln c)))), (g7, .inl (cI, 256, .inl (fun c => nI (pa c)))), (g8, .inl (cI, 256, .inl (fun c => nI (an c))))]) [8, 0, 1, 2, 3, 4, 5, 6, 7] (by decide) rfl
  refine wq_v (wr := []) (va_runV (As := [.int (nI m)]) (rest := []) ⟨hx, hb, hml, hown, hts⟩ (c_O_prepare l dC dI cI cL H.size o0 g1 g2 g3 g4 g5 g6 g7 g8 0 p n vr ir od cc gc oc hm kd lf rg ol hk mk hmk hvr ln pa an m hmm) (cwV 1 hts (gi_V kw_703 kw_705 ks_O_prepare kw_5 gi_O_prepare) rfl rfl rfl ⟨rfl, by decide, by decide, by decide⟩ ⟨Nat.le_of_ble_eq_true rfl, Nat.le_of_ble_eq_true rfl⟩) (wq_preVW hP hD hK hN [0, 1, 2, 3, 4, 5, 6, 7, 8] rfl rfl (q0 := 0) (ci := 4) rfl rfl rfl) rfl rfl hl.1 rfl (lv_room (Nat.le_of_ble_eq_true rfl)) d_O_first_35 ⟨Nat.le_of_ble_eq_true rfl, Nat.le_of_ble_eq_true rfl⟩) hP hD hS hA [0, 1, 2, 3, 4, 5, 6, 7, 8] [] rfl rfl rfl (by decide) (fun u H locs hpp hP hD hS hz => ?_)
  have hP : va_P (dC, dI) classes [(o0, .inr (4, [.int (nI 0), .long (lN p), .int (nI n), .long (lN vr), .int (nI ir), .long (lN od), .int (nI cc), .ref g1, .int (nI gc), .ref g2, .ref g3, .ref g4, .int (nI oc), .ref g5, .ref g6, .ref g7, .ref g8])), (g1, .inl (cL, 8, .inr (.inl (fun c => lN (mk c))))), (g2, .inl (cI, 24, .inl (fun c => nI (kd c)))), (g3, .inl (cI, 24, .inl (fun c => nI (lf c)))), (g4, .inl (cI, 24, .inl (fun c => nI (rg c)))), (g5, .inl (cI, 16, .inl (fun c => nI (ol c)))), (g6, .inl (cI, 32, .inl (fun c => nI ((u).1 c)))), (g7, .inl (cI, 256, .inl (fun c => nI ((u).2.1 c)))), (g8, .inl (cI, 256, .inl (fun c => nI ((u).2.2 c))))] H := hP
  have hD : va_D A [(o0, .inr (4, [.int (nI 0), .long (lN p), .int (nI n), .long (lN vr), .int (nI ir), .long (lN od), .int (nI cc), .ref g1, .int (nI gc), .ref g2, .ref g3, .ref g4, .int (nI oc), .ref g5, .ref g6, .ref g7, .ref g8])), (g1, .inl (cL, 8, .inr (.inl (fun c => lN (mk c))))), (g2, .inl (cI, 24, .inl (fun c => nI (kd c)))), (g3, .inl (cI, 24, .inl (fun c => nI (lf c)))), (g4, .inl (cI, 24, .inl (fun c => nI (rg c)))), (g5, .inl (cI, 16, .inl (fun c => nI (ol c)))), (g6, .inl (cI, 32, .inl (fun c => nI ((u).1 c)))), (g7, .inl (cI, 256, .inl (fun c => nI ((u).2.1 c)))), (g8, .inl (cI, 256, .inl (fun c => nI ((u).2.2 c))))] := hD
  have hpa : ∀ t, t < m → u.2.1 t = pt_n mk (rg_t p vr t) cc := fun t ht => (hpp t ht).1
  have han : ∀ t, t < m → u.2.2 t = fa p vr mk cc gc oc kd lf rg ol none t := fun t ht => (hpp t ht).2
  refine lv_aload_n hx hb d_O_first_38 rfl (lv_at hl 0 rfl) ?_
  refine lv_iload_n hx hb d_O_first_39 rfl (lv_at hl 1 rfl) ?_
  refine lv_iload_n hx hb d_O_first_40 rfl (lv_at hl 2 rfl) ?_
  refine wq_i (wr := [(g1, .inl (cL, 8, .inr (.inl (fun c => lN (mk c)))))]) (va_runV (As := [.int (nI m), .int (nI ff)]) (rest := []) ⟨hx, hb, hml, hown, hts⟩ (c_O_firstSeen l dC dI cI cL H.size o0 g1 g2 g3 g4 g5 g6 g7 g8 0 p n vr ir od cc gc oc kd lf rg ol hk mk u.1 u.2.1 u.2.2 m hmm hpa han ff (by omega)) (cwV 2 hts (gi_V kw_715 kw_717 ks_O_firstSeen kw_5 gi_O_firstSeen) rfl rfl rfl ⟨rfl, by decide, by decide, by decide⟩ ⟨Nat.le_of_ble_eq_true rfl, Nat.le_of_ble_eq_true rfl⟩) (wq_preVW hP hD hK hN [0, 2, 3, 4, 5, 6, 7, 8] rfl rfl (q0 := 0) (ci := 4) rfl rfl rfl) rfl rfl hl.1 rfl (lv_room (Nat.le_of_ble_eq_true rfl)) d_O_first_41 ⟨Nat.le_of_ble_eq_true rfl, Nat.le_of_ble_eq_true rfl⟩) hP hD hS hA [0, 2, 3, 4, 5, 6, 7, 8] [1] rfl rfl rfl (by decide) (fun r4 v H locs hq4 hP hD hS hz => ?_)
  have hP : va_P (dC, dI) classes [(g1, .inl (cL, 8, .inr (.inl (fun c => lN (mk c))))), (o0, .inr (4, [.int (nI 0), .long (lN p), .int (nI n), .long (lN vr), .int (nI ir), .long (lN od), .int (nI cc), .ref g1, .int (nI gc), .ref g2, .ref g3, .ref g4, .int (nI oc), .ref g5, .ref g6, .ref g7, .ref g8])), (g2, .inl (cI, 24, .inl (fun c => nI (kd c)))), (g3, .inl (cI, 24, .inl (fun c => nI (lf c)))), (g4, .inl (cI, 24, .inl (fun c => nI (rg c)))), (g5, .inl (cI, 16, .inl (fun c => nI (ol c)))), (g6, .inl (cI, 32, .inl (fun c => nI (v c)))), (g7, .inl (cI, 256, .inl (fun c => nI ((u).2.1 c)))), (g8, .inl (cI, 256, .inl (fun c => nI ((u).2.2 c))))] H := hP
  have hD : va_D A [(g1, .inl (cL, 8, .inr (.inl (fun c => lN (mk c))))), (o0, .inr (4, [.int (nI 0), .long (lN p), .int (nI n), .long (lN vr), .int (nI ir), .long (lN od), .int (nI cc), .ref g1, .int (nI gc), .ref g2, .ref g3, .ref g4, .int (nI oc), .ref g5, .ref g6, .ref g7, .ref g8])), (g2, .inl (cI, 24, .inl (fun c => nI (kd c)))), (g3, .inl (cI, 24, .inl (fun c => nI (lf c)))), (g4, .inl (cI, 24, .inl (fun c => nI (rg c)))), (g5, .inl (cI, 16, .inl (fun c => nI (ol c)))), (g6, .inl (cI, 32, .inl (fun c => nI (v c)))), (g7, .inl (cI, 256, .inl (fun c => nI ((u).2.1 c)))), (g8, .inl (cI, 256, .inl (fun c => nI ((u).2.2 c))))] := hD
  have hP := hP.sub (ws' := [(o0, .inr (4, [.int (nI 0), .long (lN p), .int (nI n), .long (lN vr), .int (nI ir), .long (lN od), .int (nI cc), .ref g1, .int (nI gc), .ref g2, .ref g3, .ref g4, .int (nI oc), .ref g5, .ref g6, .ref g7, .ref g8])), (g1, .inl (cL, 8, .inr (.inl (fun c => lN (mk c))))), (g2, .inl (cI, 24, .inl (fun c => nI (kd c)))), (g3, .inl (cI, 24, .inl (fun c => nI (lf c)))), (g4, .inl (cI, 24, .inl (fun c => nI (rg c)))), (g5, .inl (cI, 16, .inl (fun c => nI (ol c)))), (g6, .inl (cI, 32, .inl (fun c => nI (v c)))), (g7, .inl (cI, 256, .inl (fun c => nI ((u).2.1 c)))), (g8, .inl (cI, 256, .inl (fun c => nI ((u).2.2 c))))]) [1, 0, 2, 3, 4, 5, 6, 7, 8] rfl
  have hD := hD.sub (ws' := [(o0, .inr (4, [.int (nI 0), .long (lN p), .int (nI n), .long (lN vr), .int (nI ir), .long (lN od), .int (nI cc), .ref g1, .int (nI gc), .ref g2, .ref g3, .ref g4, .int (nI oc), .ref g5, .ref g6, .ref g7, .ref g8])), (g1, .inl (cL, 8, .inr (.inl (fun c => lN (mk c))))), (g2, .inl (cI, 24, .inl (fun c => nI (kd c)))), (g3, .inl (cI, 24, .inl (fun c => nI (lf c)))), (g4, .inl (cI, 24, .inl (fun c => nI (rg c)))), (g5, .inl (cI, 16, .inl (fun c => nI (ol c)))), (g6, .inl (cI, 32, .inl (fun c => nI (v c)))), (g7, .inl (cI, 256, .inl (fun c => nI ((u).2.1 c)))), (g8, .inl (cI, 256, .inl (fun c => nI ((u).2.2 c))))]) [1, 0, 2, 3, 4, 5, 6, 7, 8] (by decide) rfl
  exact W.iret (v := r4) hx hb hr (fun t9 ht hW => ⟨⟨r4, (v, u.2.1, u.2.2), rfl, hq4, by rw [ht]; exact hP, va_K.moved hW.alike hK, hD⟩, hS.F ht⟩) hS.2.2 d_O_first_44
set_option maxHeartbeats 4000000 in
set_option maxRecDepth 100000 in
theorem c_O_firstA (l : Launch) (dC : Nat → ClassId) (dI : Nat → Nat → Nat) (cI cL : ClassId) (sz : Nat) (o0 g1 g2 g3 g4 g5 g6 g7 g8 : Nat) (fl p n vr ir od cc gc oc : Nat) (y1 y : Int32) (hy : (y < 0 ∨ ¬ y < nI (2 * (cc + gc)))) : Met l y_O_first w_O_first ({ frames := 1, cells := 0, slots := 0, locals := 21 } : Room) (va_Pc [.ref o0, .int y1, .int y] (wq_W (dC, dI) classes [(o0, .inr (4, [.int (nI fl), .long (lN p), .int (nI n), .long (lN vr), .int (nI ir), .long (lN od), .int (nI cc), .ref g1, .int (nI gc), .ref g2, .ref g3, .ref g4, .int (nI oc), .ref g5, .ref g6, .ref g7, .ref g8]))] [(cI, .int), (cL, .long)] sz)) (va_Qi (fun (r : Int32) (u : Unit) => r = nI 0) (fun (u : Unit) t => wq_B (dC, dI) classes [(cI, .int), (cL, .long)] (va_A [(o0, .inr (4, [.int (nI fl), .long (lN p), .int (nI n), .long (lN vr), .int (nI ir), .long (lN od), .int (nI cc), .ref g1, .int (nI gc), .ref g2, .ref g3, .ref g4, .int (nI oc), .ref g5, .ref g6, .ref g7, .ref g8]))] sz) [(o0, .inr (4, [.int (nI 1), .long (lN p), .int (nI n), .long (lN vr), .int (nI ir), .long (lN od), .int (nI cc), .ref g1, .int (nI gc), .ref g2, .ref g3, .ref g4, .int (nI oc), .ref g5, .ref g6, .ref g7, .ref g8]))] t) (va_A [(o0, .inr (4, [.int (nI fl), .long (lN p), .int (nI n), .long (lN vr), .int (nI ir), .long (lN od), .int (nI cc), .ref g1, .int (nI gc), .ref g2, .ref g3, .ref g4, .int (nI oc), .ref g5, .ref g6, .ref g7, .ref g8]))] sz)) 0 0 (va_A [(o0, .inr (4, [.int (nI fl), .long (lN p), .int (nI n), .long (lN vr), .int (nI ir), .long (lN od), .int (nI cc), .ref g1, .int (nI gc), .ref g2, .ref g3, .ref g4, .int (nI oc), .ref g5, .ref g6, .ref g7, .ref g8]))] sz) := by
  refine Met.ofW (cc := b_O_first) (maxL := 3) (ret := (Option.some Jvm.ClassFile.FieldType.int)) (by decide) rfl ?_
  intro pg en st mm ar bw me co s₁ B hml hv
  obtain ⟨rfl, hsz, hP, hK, hD0, hN⟩ := hv
  have hx := B.exec
  have hb := B.bytes
  have hr := B.returns
  have hlocks := B.notSynchronized
  have hts0 := atoms_spec (ws := w_O_first) B.pre
  have hts : ∀ w ∈ gw, w.before _ st = true := fun w h => hts0 w (List.mem_cons_of_mem _ h)
  have hown : st.vm.findClass R_O = some mm.cls := findClass_of_methodNamed B.named
  subst hsz
  have hD := hD0.self (sz := st.heap.size)
  generalize hAe : va_A [(o0, .inr (4, [.int (nI fl), .long (lN p), .int (nI n), .long (lN vr), .int (nI ir), .long (lN od), .int (nI cc), .ref g1, .int (nI gc), .ref g2, .ref g3, .ref g4, .int (nI oc), .ref g5, .ref g6, .ref g7, .ref g8]))] st.heap.size = A at hD ⊢
  have hA : ∀ q : Nat, st.heap.size ≤ q → A q := fun q h => by rw [← hAe]; exact Or.inr h
  have hS : va_S A st.heap st.heap [] := va_S.rf
  have hl := lv_entry ([.ref o0, .int y1, .int y]) (n := 3) (Nat.le_of_ble_eq_true rfl)
  rw [lg_entry_eq]
  generalize (lg_sl ([.ref o0, .int y1, .int y]) ++ List.replicate (3 - (lg_sl ([.ref o0, .int y1, .int y])).length) Slot.unset).toArray = ls at hl ⊢
  have hl : lv_has ls 3 [(0, .ref o0), (1, .int y1), (2, .int y)] := hl
  refine lv_aload_n hx hb d_O_first_0 rfl (lv_at hl 0 rfl) ?_
  refine lv_aload_n hx hb d_O_first_1 rfl (lv_at hl 0 rfl) ?_
  refine lv_iload_n hx hb d_O_first_2 rfl (lv_at hl 2 rfl) ?_
  refine vp_callSi (va_Run.run (va_runV (As := [.int y]) (rest := [.ref o0]) ⟨hx, hb, hml, hown, hts⟩ (c_O_isFault l dC dI cI cL o0 g1 g2 g3 g4 g5 g6 g7 g8 fl p n vr ir od cc gc oc y) (cwV 1 hts (gi_V kw_685 kw_687 ks_O_isFault kw_5 gi_O_isFault) rfl rfl rfl ⟨rfl, by decide, by decide, by decide⟩ ⟨Nat.le_of_ble_eq_true rfl, Nat.le_of_ble_eq_true rfl⟩) (wq_preVR hP hK hN [0] rfl (q0 := 0) (ci := 4) rfl rfl rfl) rfl rfl hl.1 rfl (lv_room (Nat.le_of_ble_eq_true rfl)) d_O_first_3 ⟨Nat.le_of_ble_eq_true rfl, Nat.le_of_ble_eq_true rfl⟩)) (fun r hq => ?_)
  have hq : r = 0 := by
    rcases hq with ⟨-, e9⟩ | ⟨e9, -⟩
    · exact absurd hy e9
    · exact e9
  subst hq
  refine lv_if_ne (tgt := 13) hx hb d_O_first_6 (by decide) (fun hc => absurd hc (fun z => z rfl)) (fun _ => ?_)
  refine lv_iconst (v := nI 1) hx hb d_O_first_9 (by decide) ?_
  refine lv_goto (tgt := 25) hx hb d_O_first_10 (by decide) ?_
  refine wq_i (wr := []) (va_runV (As := [.int (nI 1)]) (rest := []) ⟨hx, hb, hml, hown, hts⟩ (c_O_refusedK l dC dI cI cL st.heap.size o0 g1 g2 g3 g4 g5 g6 g7 g8 fl p n vr ir od cc gc oc 1 (by decide) (by decide)) (cwV 1 hts (gi_V kw_588 kw_590 ks_O_refused kw_5 gi_O_refused) rfl rfl rfl ⟨rfl, by decide, by decide, by decide⟩ ⟨Nat.le_of_ble_eq_true rfl, Nat.le_of_ble_eq_true rfl⟩) (wq_preVW hP hD hK hN [0] rfl rfl (q0 := 0) (ci := 4) rfl rfl rfl) rfl rfl hl.1 rfl (lv_room (Nat.le_of_ble_eq_true rfl)) d_O_first_25 ⟨Nat.le_of_ble_eq_true rfl, Nat.le_of_ble_eq_true rfl⟩) hP hD hS hA [0] [] rfl rfl rfl (by decide) (fun r u H locs hq hP hD hS hz => ?_)
  have hP : va_P (dC, dI) classes [(o0, .inr (4, [.int (nI 1), .long (lN p), .int (nI n), .long (lN vr), .int (nI ir), .long (lN od), .int (nI cc), .ref g1, .int (nI gc), .ref g2, .ref g3, .ref g4, .int (nI oc), .ref g5, .ref g6, .ref g7, .ref g8]))] H := hP
  have hD : va_D A [(o0, .inr (4, [.int (nI 1), .long (lN p), .int (nI n), .long (lN vr), .int (nI ir), .long (lN od), .int (nI cc), .ref g1, .int (nI gc), .ref g2, .ref g3, .ref g4, .int (nI oc), .ref g5, .ref g6, .ref g7, .ref g8]))] := hD
  subst hq
  refine lv_if_eq (tgt := 33) hx hb d_O_first_28 (by decide) (fun hc => absurd hc (show ¬ (1 : Int32) = 0 from by decide)) (fun _ => ?_)
  refine lv_iconst (v := nI 0) hx hb d_O_first_31 (by decide) ?_
  have hP := hP.sub (ws' := [(o0, .inr (4, [.int (nI 1), .long (lN p), .int (nI n), .long (lN vr), .int (nI ir), .long (lN od), .int (nI cc), .ref g1, .int (nI gc), .ref g2, .ref g3, .ref g4, .int (nI oc), .ref g5, .ref g6, .ref g7, .ref g8]))]) [0] rfl
  have hD := hD.sub (ws' := [(o0, .inr (4, [.int (nI 1), .long (lN p), .int (nI n), .long (lN vr), .int (nI ir), .long (lN od), .int (nI cc), .ref g1, .int (nI gc), .ref g2, .ref g3, .ref g4, .int (nI oc), .ref g5, .ref g6, .ref g7, .ref g8]))]) [0] (by decide) rfl
  exact W.iret (v := nI 0) hx hb hr (fun t9 ht hW => ⟨⟨nI 0, (), rfl, rfl, by rw [ht]; exact hP, va_K.moved hW.alike hK, hD⟩, hS.F ht⟩) hS.2.2 d_O_first_32
set_option maxHeartbeats 4000000 in
set_option maxRecDepth 100000 in
theorem c_O_firstB (l : Launch) (dC : Nat → ClassId) (dI : Nat → Nat → Nat) (cI cL : ClassId) (sz : Nat) (o0 g1 g2 g3 g4 g5 g6 g7 g8 : Nat) (fl p n vr ir od cc gc oc : Nat) (hl1 : 2 * (cc + gc) < 2 ^ 31) (y1 : Int32) (hy : (y1 < 0 ∨ ¬ y1 ≤ nI 256)) (ff : Nat) (hff : ff < 2 * (cc + gc)) : Met l y_O_first w_O_first ({ frames := 1, cells := 0, slots := 0, locals := 21 } : Room) (va_Pc [.ref o0, .int y1, .int (nI ff)] (wq_W (dC, dI) classes [(o0, .inr (4, [.int (nI fl), .long (lN p), .int (nI n), .long (lN vr), .int (nI ir), .long (lN od), .int (nI cc), .ref g1, .int (nI gc), .ref g2, .ref g3, .ref g4, .int (nI oc), .ref g5, .ref g6, .ref g7, .ref g8]))] [(cI, .int), (cL, .long)] sz)) (va_Qi (fun (r : Int32) (u : Unit) => r = nI 0) (fun (u : Unit) t => wq_B (dC, dI) classes [(cI, .int), (cL, .long)] (va_A [(o0, .inr (4, [.int (nI fl), .long (lN p), .int (nI n), .long (lN vr), .int (nI ir), .long (lN od), .int (nI cc), .ref g1, .int (nI gc), .ref g2, .ref g3, .ref g4, .int (nI oc), .ref g5, .ref g6, .ref g7, .ref g8]))] sz) [(o0, .inr (4, [.int (nI 2), .long (lN p), .int (nI n), .long (lN vr), .int (nI ir), .long (lN od), .int (nI cc), .ref g1, .int (nI gc), .ref g2, .ref g3, .ref g4, .int (nI oc), .ref g5, .ref g6, .ref g7, .ref g8]))] t) (va_A [(o0, .inr (4, [.int (nI fl), .long (lN p), .int (nI n), .long (lN vr), .int (nI ir), .long (lN od), .int (nI cc), .ref g1, .int (nI gc), .ref g2, .ref g3, .ref g4, .int (nI oc), .ref g5, .ref g6, .ref g7, .ref g8]))] sz)) 0 0 (va_A [(o0, .inr (4, [.int (nI fl), .long (lN p), .int (nI n), .long (lN vr), .int (nI ir), .long (lN od), .int (nI cc), .ref g1, .int (nI gc), .ref g2, .ref g3, .ref g4, .int (nI oc), .ref g5, .ref g6, .ref g7, .ref g8]))] sz) := by
  refine Met.ofW (cc := b_O_first) (maxL := 3) (ret := (Option.some Jvm.ClassFile.FieldType.int)) (by decide) rfl ?_
  intro pg en st mm ar bw me co s₁ B hml hv
  obtain ⟨rfl, hsz, hP, hK, hD0, hN⟩ := hv
  have hx := B.exec
  have hb := B.bytes
  have hr := B.returns
  have hlocks := B.notSynchronized
  have hts0 := atoms_spec (ws := w_O_first) B.pre
  have hts : ∀ w ∈ gw, w.before _ st = true := fun w h => hts0 w (List.mem_cons_of_mem _ h)
  have hown : st.vm.findClass R_O = some mm.cls := findClass_of_methodNamed B.named
  subst hsz
  have hD := hD0.self (sz := st.heap.size)
  generalize hAe : va_A [(o0, .inr (4, [.int (nI fl), .long (lN p), .int (nI n), .long (lN vr), .int (nI ir), .long (lN od), .int (nI cc), .ref g1, .int (nI gc), .ref g2, .ref g3, .ref g4, .int (nI oc), .ref g5, .ref g6, .ref g7, .ref g8]))] st.heap.size = A at hD ⊢
  have hA : ∀ q : Nat, st.heap.size ≤ q → A q := fun q h => by rw [← hAe]; exact Or.inr h
  have hS : va_S A st.heap st.heap [] := va_S.rf
  have hl := lv_entry ([.ref o0, .int y1, .int (nI ff)]) (n := 3) (Nat.le_of_ble_eq_true rfl)
  rw [lg_entry_eq]
  generalize (lg_sl ([.ref o0, .int y1, .int (nI ff)]) ++ List.replicate (3 - (lg_sl ([.ref o0, .int y1, .int (nI ff)])).length) Slot.unset).toArray = ls at hl ⊢
  have hl : lv_has ls 3 [(0, .ref o0), (1, .int y1), (2, .int (nI ff))] := hl
  refine lv_aload_n hx hb d_O_first_0 rfl (lv_at hl 0 rfl) ?_
  refine lv_aload_n hx hb d_O_first_1 rfl (lv_at hl 0 rfl) ?_
  refine lv_iload_n hx hb d_O_first_2 rfl (lv_at hl 2 rfl) ?_
  refine vp_callSi (va_Run.run (va_runV (As := [.int (nI ff)]) (rest := [.ref o0]) ⟨hx, hb, hml, hown, hts⟩ (c_O_isFault l dC dI cI cL o0 g1 g2 g3 g4 g5 g6 g7 g8 fl p n vr ir od cc gc oc (nI ff)) (cwV 1 hts (gi_V kw_685 kw_687 ks_O_isFault kw_5 gi_O_isFault) rfl rfl rfl ⟨rfl, by decide, by decide, by decide⟩ ⟨Nat.le_of_ble_eq_true rfl, Nat.le_of_ble_eq_true rfl⟩) (wq_preVR hP hK hN [0] rfl (q0 := 0) (ci := 4) rfl rfl rfl) rfl rfl hl.1 rfl (lv_room (Nat.le_of_ble_eq_true rfl)) d_O_first_3 ⟨Nat.le_of_ble_eq_true rfl, Nat.le_of_ble_eq_true rfl⟩)) (fun r hq => ?_)
  have hq : r = 1 := by
    rcases hq with ⟨e9, -⟩ | ⟨-, e9⟩
    · exact e9
    · exact absurd e9 (in_ok hff hl1)
  subst hq
  refine lv_if_ne (tgt := 13) hx hb d_O_first_6 (by decide) (fun _ => ?_) (fun hc => absurd hc (show ¬ (1 : Int32) = 0 from by decide))
  refine lv_iload_n hx hb d_O_first_13 rfl (lv_at hl 1 rfl) ?_
  refine vp_callSi (va_Run.run (va_runS (As := [.int y1]) (rest := [.ref o0]) ⟨hx, hb, hml, hown, hts⟩ (c_O_isCount l y1) (va_cwS 1 hts (gi_S kw_700 kw_701 kw_5 gi_O_isCount) rfl rfl rfl ⟨by decide, by decide, by decide⟩ ⟨Nat.le_of_ble_eq_true rfl, Nat.le_of_ble_eq_true rfl⟩) wq_preS0 rfl rfl hl.1 rfl (lv_room (Nat.le_of_ble_eq_true rfl)) d_O_first_14 ⟨Nat.le_of_ble_eq_true rfl, Nat.le_of_ble_eq_true rfl⟩)) (fun r6 hq6 => ?_)
  have hq6 : r6 = 0 := by
    rcases hq6 with ⟨-, e9⟩ | ⟨e9, -⟩
    · exact absurd hy e9
    · exact e9
  subst hq6
  refine lv_if_ne (tgt := 24) hx hb d_O_first_17 (by decide) (fun hc => absurd hc (fun z => z rfl)) (fun _ => ?_)
  refine lv_iconst (v := nI 2) hx hb d_O_first_20 (by decide) ?_
  refine lv_goto (tgt := 25) hx hb d_O_first_21 (by decide) ?_
  refine wq_i (wr := []) (va_runV (As := [.int (nI 2)]) (rest := []) ⟨hx, hb, hml, hown, hts⟩ (c_O_refusedK l dC dI cI cL st.heap.size o0 g1 g2 g3 g4 g5 g6 g7 g8 fl p n vr ir od cc gc oc 2 (by decide) (by decide)) (cwV 1 hts (gi_V kw_588 kw_590 ks_O_refused kw_5 gi_O_refused) rfl rfl rfl ⟨rfl, by decide, by decide, by decide⟩ ⟨Nat.le_of_ble_eq_true rfl, Nat.le_of_ble_eq_true rfl⟩) (wq_preVW hP hD hK hN [0] rfl rfl (q0 := 0) (ci := 4) rfl rfl rfl) rfl rfl hl.1 rfl (lv_room (Nat.le_of_ble_eq_true rfl)) d_O_first_25 ⟨Nat.le_of_ble_eq_true rfl, Nat.le_of_ble_eq_true rfl⟩) hP hD hS hA [0] [] rfl rfl rfl (by decide) (fun r u H locs hq hP hD hS hz => ?_)
  have hP : va_P (dC, dI) classes [(o0, .inr (4, [.int (nI 2), .long (lN p), .int (nI n), .long (lN vr), .int (nI ir), .long (lN od), .int (nI cc), .ref g1, .int (nI gc), .ref g2, .ref g3, .ref g4, .int (nI oc), .ref g5, .ref g6, .ref g7, .ref g8]))] H := hP
  have hD : va_D A [(o0, .inr (4, [.int (nI 2), .long (lN p), .int (nI n), .long (lN vr), .int (nI ir), .long (lN od), .int (nI cc), .ref g1, .int (nI gc), .ref g2, .ref g3, .ref g4, .int (nI oc), .ref g5, .ref g6, .ref g7, .ref g8]))] := hD
  subst hq
  refine lv_if_eq (tgt := 33) hx hb d_O_first_28 (by decide) (fun hc => absurd hc (show ¬ (1 : Int32) = 0 from by decide)) (fun _ => ?_)
  refine lv_iconst (v := nI 0) hx hb d_O_first_31 (by decide) ?_
  have hP := hP.sub (ws' := [(o0, .inr (4, [.int (nI 2), .long (lN p), .int (nI n), .long (lN vr), .int (nI ir), .long (lN od), .int (nI cc), .ref g1, .int (nI gc), .ref g2, .ref g3, .ref g4, .int (nI oc), .ref g5, .ref g6, .ref g7, .ref g8]))]) [0] rfl
  have hD := hD.sub (ws' := [(o0, .inr (4, [.int (nI 2), .long (lN p), .int (nI n), .long (lN vr), .int (nI ir), .long (lN od), .int (nI cc), .ref g1, .int (nI gc), .ref g2, .ref g3, .ref g4, .int (nI oc), .ref g5, .ref g6, .ref g7, .ref g8]))]) [0] (by decide) rfl
  exact W.iret (v := nI 0) hx hb hr (fun t9 ht hW => ⟨⟨nI 0, (), rfl, rfl, by rw [ht]; exact hP, va_K.moved hW.alike hK, hD⟩, hS.F ht⟩) hS.2.2 d_O_first_32
set_option maxHeartbeats 4000000 in
set_option maxRecDepth 100000 in
theorem c_O_faultsY (l : Launch) (dC : Nat → ClassId) (dI : Nat → Nat → Nat) (cI cL : ClassId) (sz : Nat) (o0 g1 g2 g3 g4 g5 g6 g7 g8 : Nat) (fl p n vr ir od cc gc oc : Nat) (hm : md p n) (kd lf rg ol : Nat → Nat) (hk : ck cc gc oc kd lf rg ol) (mk : Nat → Nat) (hmk : ∀ c, c < cc → mk c < 2 ^ 32) (hvr : vr < 2 ^ n) (ln pa an : Nat → Nat) (m : Nat) (hmm : m ≤ 256) (k : Nat) (hk3 : k ≤ 3) : Met l y_O_faults w_O_faults ({ frames := 3, cells := 0, slots := 0, locals := 74 } : Room) (va_Pc [.ref o0, .int (nI m), .int (nI k)] (wq_W (dC, dI) classes [(o0, .inr (4, [.int (nI fl), .long (lN p), .int (nI n), .long (lN vr), .int (nI ir), .long (lN od), .int (nI cc), .ref g1, .int (nI gc), .ref g2, .ref g3, .ref g4, .int (nI oc), .ref g5, .ref g6, .ref g7, .ref g8])), (g1, .inl (cL, 8, .inr (.inl (fun c => lN (mk c))))), (g2, .inl (cI, 24, .inl (fun c => nI (kd c)))), (g3, .inl (cI, 24, .inl (fun c => nI (lf c)))), (g4, .inl (cI, 24, .inl (fun c => nI (rg c)))), (g5, .inl (cI, 16, .inl (fun c => nI (ol c)))), (g6, .inl (cI, 32, .inl (fun c => nI (ln c)))), (g7, .inl (cI, 256, .inl (fun c => nI (pa c)))), (g8, .inl (cI, 256, .inl (fun c => nI (an c))))] [(cI, .int), (cL, .long)] sz)) (va_Qi (fun (r : Int32) (u : (Nat → Nat) × (Nat → Nat) × (Nat → Nat)) => (k = 0 → r = nI (2 * (cc + gc))) ∧ (k = 1 → r = nI (cn_t (fsB (fun f j => fa p vr mk cc gc oc kd lf rg ol (some f) j) (fun j => fa p vr mk cc gc oc kd lf rg ol none j) m) (2 * (cc + gc)))) ∧ (k = 2 → r = nI (cn_t (ffB p (fun f j => fa p vr mk cc gc oc kd lf rg ol (some f) j) (fun j => fa p vr mk cc gc oc kd lf rg ol none j) m) (2 * (cc + gc)))) ∧ (k = 3 → lw_p (fun j => (fsB (fun f j => fa p vr mk cc gc oc kd lf rg ol (some f) j) (fun j => fa p vr mk cc gc oc kd lf rg ol none j) m j = true ∧ ¬ ffB p (fun f j => fa p vr mk cc gc oc kd lf rg ol (some f) j) (fun j => fa p vr mk cc gc oc kd lf rg ol none j) m j = true)) 0 (2 * (cc + gc)) r)) (fun (u : (Nat → Nat) × (Nat → Nat) × (Nat → Nat)) t => wq_B (dC, dI) classes [(cI, .int), (cL, .long)] (va_A [(o0, .inr (4, [.int (nI fl), .long (lN p), .int (nI n), .long (lN vr), .int (nI ir), .long (lN od), .int (nI cc), .ref g1, .int (nI gc), .ref g2, .ref g3, .ref g4, .int (nI oc), .ref g5, .ref g6, .ref g7, .ref g8])), (g1, .inl (cL, 8, .inr (.inl (fun c => lN (mk c))))), (g2, .inl (cI, 24, .inl (fun c => nI (kd c)))), (g3, .inl (cI, 24, .inl (fun c => nI (lf c)))), (g4, .inl (cI, 24, .inl (fun c => nI (rg c)))), (g5, .inl (cI, 16, .inl (fun c => nI (ol c)))), (g6, .inl (cI, 32, .inl (fun c => nI (ln c)))), (g7, .inl (cI, 256, .inl (fun c => nI (pa c)))), (g8, .inl (cI, 256, .inl (fun c => nI (an c))))] sz) [(o0, .inr (4, [.int (nI 0), .long (lN p), .int (nI n), .long (lN vr), .int (nI ir), .long (lN od), .int (nI cc), .ref g1, .int (nI gc), .ref g2, .ref g3, .ref g4, .int (nI oc), .ref g5, .ref g6, .ref g7, .ref g8])), (g1, .inl (cL, 8, .inr (.inl (fun c => lN (mk c))))), (g2, .inl (cI, 24, .inl (fun c => nI (kd c)))), (g3, .inl (cI, 24, .inl (fun c => nI (lf c)))), (g4, .inl (cI, 24, .inl (fun c => nI (rg c)))), (g5, .inl (cI, 16, .inl (fun c => nI (ol c)))), (g6, .inl (cI, 32, .inl (fun c => nI ((u).1 c)))), (g7, .inl (cI, 256, .inl (fun c => nI ((u).2.1 c)))), (g8, .inl (cI, 256, .inl (fun c => nI ((u).2.2 c))))] t) (va_A [(o0, .inr (4, [.int (nI fl), .long (lN p), .int (nI n), .long (lN vr), .int (nI ir), .long (lN od), .int (nI cc), .ref g1, .int (nI gc), .ref g2, .ref g3, .ref g4, .int (nI oc), .ref g5, .ref g6, .ref g7, .ref g8])), (g1, .inl (cL, 8, .inr (.inl (fun c => lN (mk c))))), (g2, .inl (cI, 24, .inl (fun c => nI (kd c)))), (g3, .inl (cI, 24, .inl (fun c => nI (lf c)))), (g4, .inl (cI, 24, .inl (fun c => nI (rg c)))), (g5, .inl (cI, 16, .inl (fun c => nI (ol c)))), (g6, .inl (cI, 32, .inl (fun c => nI (ln c)))), (g7, .inl (cI, 256, .inl (fun c => nI (pa c)))), (g8, .inl (cI, 256, .inl (fun c => nI (an c))))] sz)) 0 0 (va_A [(o0, .inr (4, [.int (nI fl), .long (lN p), .int (nI n), .long (lN vr), .int (nI ir), .long (lN od), .int (nI cc), .ref g1, .int (nI gc), .ref g2, .ref g3, .ref g4, .int (nI oc), .ref g5, .ref g6, .ref g7, .ref g8])), (g1, .inl (cL, 8, .inr (.inl (fun c => lN (mk c))))), (g2, .inl (cI, 24, .inl (fun c => nI (kd c)))), (g3, .inl (cI, 24, .inl (fun c => nI (lf c)))), (g4, .inl (cI, 24, .inl (fun c => nI (rg c)))), (g5, .inl (cI, 16, .inl (fun c => nI (ol c)))), (g6, .inl (cI, 32, .inl (fun c => nI (ln c)))), (g7, .inl (cI, 256, .inl (fun c => nI (pa c)))), (g8, .inl (cI, 256, .inl (fun c => nI (an c))))] sz) := by
  refine Met.ofW (cc := b_O_faults) (maxL := 12) (ret := (Option.some Jvm.ClassFile.FieldType.int)) (by decide) rfl ?_
  intro pg en st mm ar bw me co s₁ B hml hv
  obtain ⟨rfl, hsz, hP, hK, hD0, hN⟩ := hv
  have hx := B.exec
  have hb := B.bytes
  have hr := B.returns
  have hlocks := B.notSynchronized
  have hts0 := atoms_spec (ws := w_O_faults) B.pre
  have hts : ∀ w ∈ gw, w.before _ st = true := fun w h => hts0 w (List.mem_cons_of_mem _ h)
  have hown : st.vm.findClass R_O = some mm.cls := findClass_of_methodNamed B.named
  subst hsz
  have hD := hD0.self (sz := st.heap.size)
  generalize hAe : va_A [(o0, .inr (4, [.int (nI fl), .long (lN p), .int (nI n), .long (lN vr), .int (nI ir), .long (lN od), .int (nI cc), .ref g1, .int (nI gc), .ref g2, .ref g3, .ref g4, .int (nI oc), .ref g5, .ref g6, .ref g7, .ref g8])), (g1, .inl (cL, 8, .inr (.inl (fun c => lN (mk c))))), (g2, .inl (cI, 24, .inl (fun c => nI (kd c)))), (g3, .inl (cI, 24, .inl (fun c => nI (lf c)))), (g4, .inl (cI, 24, .inl (fun c => nI (rg c)))), (g5, .inl (cI, 16, .inl (fun c => nI (ol c)))), (g6, .inl (cI, 32, .inl (fun c => nI (ln c)))), (g7, .inl (cI, 256, .inl (fun c => nI (pa c)))), (g8, .inl (cI, 256, .inl (fun c => nI (an c))))] st.heap.size = A at hD ⊢
  have hA : ∀ q : Nat, st.heap.size ≤ q → A q := fun q h => by rw [← hAe]; exact Or.inr h
  have hS : va_S A st.heap st.heap [] := va_S.rf
  have hl := lv_entry ([.ref o0, .int (nI m), .int (nI k)]) (n := 12) (Nat.le_of_ble_eq_true rfl)
  rw [lg_entry_eq]
  generalize (lg_sl ([.ref o0, .int (nI m), .int (nI k)]) ++ List.replicate (12 - (lg_sl ([.ref o0, .int (nI m), .int (nI k)])).length) Slot.unset).toArray = ls at hl ⊢
  have hl : lv_has ls 12 [(0, .ref o0), (1, .int (nI m)), (2, .int (nI k))] := hl
  have h1 := hk.1
  have h2 := hk.2.1
  refine lv_aload_n hx hb d_O_faults_0 rfl (lv_at hl 0 rfl) ?_
  refine lv_iload_n hx hb d_O_faults_1 rfl (lv_at hl 2 rfl) ?_
  refine lv_if_lt (tgt := 10) hx hb d_O_faults_2 (by decide) (fun hc => absurd hc (nI_nn (by omega))) (fun _ => ?_)
  refine lv_iload_n hx hb d_O_faults_5 rfl (lv_at hl 2 rfl) ?_
  refine lv_iconst (v := nI 3) hx hb d_O_faults_6 (by decide) ?_
  refine lv_icmp_le (tgt := 14) hx hb d_O_faults_7 (by decide) (fun _ => ?_) (fun hc => absurd hc (fun z => z ((nI_leI (by omega) (by decide)).mpr hk3)))
  refine lv_iload_n hx hb d_O_faults_14 rfl (lv_at hl 1 rfl) ?_
  refine vp_callSi (va_Run.run (va_runS (As := [.int (nI m)]) (rest := [.ref o0]) ⟨hx, hb, hml, hown, hts⟩ (c_O_isCount l (nI m)) (va_cwS 1 hts (gi_S kw_700 kw_701 kw_5 gi_O_isCount) rfl rfl rfl ⟨by decide, by decide, by decide⟩ ⟨Nat.le_of_ble_eq_true rfl, Nat.le_of_ble_eq_true rfl⟩) wq_preS0 rfl rfl hl.1 rfl (lv_room (Nat.le_of_ble_eq_true rfl)) d_O_faults_15 ⟨Nat.le_of_ble_eq_true rfl, Nat.le_of_ble_eq_true rfl⟩)) (fun r6 hq6 => ?_)
  have hq6 : r6 = 1 := by
    rcases hq6 with ⟨e9, -⟩ | ⟨-, e9⟩
    · exact e9
    · exact absurd e9 (cnt_ok hmm)
  subst hq6
  refine lv_if_ne (tgt := 25) hx hb d_O_faults_18 (by decide) (fun _ => ?_) (fun hc => absurd hc (show ¬ (1 : Int32) = 0 from by decide))
  refine lv_iconst (v := nI 0) hx hb d_O_faults_25 (by decide) ?_
  refine wq_i (wr := [(g1, .inl (cL, 8, .inr (.inl (fun c => lN (mk c))))), (g2, .inl (cI, 24, .inl (fun c => nI (kd c)))), (g3, .inl (cI, 24, .inl (fun c => nI (lf c)))), (g4, .inl (cI, 24, .inl (fun c => nI (rg c)))), (g5, .inl (cI, 16, .inl (fun c => nI (ol c)))), (g6, .inl (cI, 32, .inl (fun c => nI (ln c)))), (g7, .inl (cI, 256, .inl (fun c => nI (pa c)))), (g8, .inl (cI, 256, .inl (fun c => nI (an c))))]) (va_runV (As := [.int (nI 0)]) (rest := []) ⟨hx, hb, hml, hown, hts⟩ (c_O_refused0 l dC dI cI cL st.heap.size o0 g1 g2 g3 g4 g5 g6 g7 g8 fl p n vr ir od cc gc oc) (cwV 1 hts (gi_V kw_588 kw_590 ks_O_refused kw_5 gi_O_refused) rfl rfl rfl ⟨rfl, by decide, by decide, by decide⟩ ⟨Nat.le_of_ble_eq_true rfl, Nat.le_of_ble_eq_true rfl⟩) (wq_preVW hP hD hK hN [0] rfl rfl (q0 := 0) (ci := 4) rfl rfl rfl) rfl rfl hl.1 rfl (lv_room (Nat.le_of_ble_eq_true rfl)) d_O_faults_26 ⟨Nat.le_of_ble_eq_true rfl, Nat.le_of_ble_eq_true rfl⟩) hP hD hS hA [0] [1, 2, 3, 4, 5, 6, 7, 8] rfl rfl rfl (by decide) (fun r3 u H locs hq3 hP hD hS hz => ?_)
  have hP : va_P (dC, dI) classes [(g1, .inl (cL, 8, .inr (.inl (fun c => lN (mk c))))), (g2, .inl (cI, 24, .inl (fun c => nI (kd c)))), (g3, .inl (cI, 24, .inl (fun c => nI (lf c)))), (g4, .inl (cI, 24, .inl (fun c => nI (rg c)))), (g5, .inl (cI, 16, .inl (fun c => nI (ol c)))), (g6, .inl (cI, 32, .inl (fun c => nI (ln c)))), (g7, .inl (cI, 256, .inl (fun c => nI (pa c)))), (g8, .inl (cI, 256, .inl (fun c => nI (an c)))), (o0, .inr (4, [.int (nI 0), .long (lN p), .int (nI n), .long (lN vr), .int (nI ir), .long (lN od), .int (nI cc), .ref g1, .int (nI gc), .ref g2, .ref g3, .ref g4, .int (nI oc), .ref g5, .ref g6, .ref g7, .ref g8]))] H := hP
  have hD : va_D A [(g1, .inl (cL, 8, .inr (.inl (fun c => lN (mk c))))), (g2, .inl (cI, 24, .inl (fun c => nI (kd c)))), (g3, .inl (cI, 24, .inl (fun c => nI (lf c)))), (g4, .inl (cI, 24, .inl (fun c => nI (rg c)))), (g5, .inl (cI, 16, .inl (fun c => nI (ol c)))), (g6, .inl (cI, 32, .inl (fun c => nI (ln c)))), (g7, .inl (cI, 256, .inl (fun c => nI (pa c)))), (g8, .inl (cI, 256, .inl (fun c => nI (an c)))), (o0, .inr (4, [.int (nI 0), .long (lN p), .int (nI n), .long (lN vr), .int (nI ir), .long (lN od), .int (nI cc), .ref g1, .int (nI gc), .ref g2, .ref g3, .ref g4, .int (nI oc), .ref g5, .ref g6, .ref g7, .ref g8]))] := hD
  subst hq3
  refine lv_if_eq (tgt := 34) hx hb d_O_faults_29 (by decide) (fun _ => ?_) (fun hc => absurd hc (fun z => z rfl))
  refine lv_aload_n hx hb d_O_faults_34 rfl (lv_at hl 0 rfl) ?_
  refine lv_iload_n hx hb d_O_faults_35 rfl (lv_at hl 1 rfl) ?_
  have hP := hP.sub (ws' := [(o0, .inr (4, [.int (nI 0), .long (lN p), .int (nI n), .long (lN vr), .int (nI ir), .long (lN od), .int (nI cc), .ref g1, .int (nI gc), .ref g2, .ref g3, .ref g4, .int (nI oc), .ref g5, .ref g6, .ref g7, .ref g8])), (g1, .inl (cL, 8, .inr (.inl (fun c => lN (mk c))))), (g2, .inl (cI, 24, .inl (fun c => nI (kd c)))), (g3, .inl (cI, 24, .inl (fun c => nI (lf c)))), (g4, .inl (cI, 24, .inl (fun c => nI (rg c)))), (g5, .inl (cI, 16, .inl (fun c => nI (ol c)))), (g6, .inl (cI, 32, .inl (fun c => nI (ln c)))), (g7, .inl (cI, 256, .inl (fun c => nI (pa c)))), (g8, .inl (cI, 256, .inl (fun c => nI (an c))))]) [8, 0, 1, 2, 3, 4, 5, 6, 7] rfl
  have hD := hD.sub (ws' := [(o0, .inr (4, [.int (nI 0), .long (lN p), .int (nI n), .long (lN vr), .int (nI ir), .long (lN od), .int (nI cc), .ref g1, .int (nI gc), .ref g2, .ref g3, .ref g4, .int (nI oc), .ref g5, .ref g6, .ref g7, .ref g8])), (g1, .inl (cL, 8, .inr (.inl (fun c => lN (mk c))))), (g2, .inl (cI, 24, .inl (fun c => nI (kd c)))), (g3, .inl (cI, 24, .inl (fun c => nI (lf c)))), (g4, .inl (cI, 24, .inl (fun c => nI (rg c)))), (g5, .inl (cI, 16, .inl (fun c => nI (ol c)))), (g6, .inl (cI, 32, .inl (fun c => nI (ln c)))), (g7, .inl (cI, 256, .inl (fun c => nI (pa c)))), (g8, .inl (cI, 256, .inl (fun c => nI (an c))))]) [8, 0, 1, 2, 3, 4, 5, 6, 7] (by decide) rfl
  refine wq_v (wr := []) (va_runV (As := [.int (nI m)]) (rest := []) ⟨hx, hb, hml, hown, hts⟩ (c_O_prepare l dC dI cI cL H.size o0 g1 g2 g3 g4 g5 g6 g7 g8 0 p n vr ir od cc gc oc hm kd lf rg ol hk mk hmk hvr ln pa an m hmm) (cwV 1 hts (gi_V kw_703 kw_705 ks_O_prepare kw_5 gi_O_prepare) rfl rfl rfl ⟨rfl, by decide, by decide, by decide⟩ ⟨Nat.le_of_ble_eq_true rfl, Nat.le_of_ble_eq_true rfl⟩) (wq_preVW hP hD hK hN [0, 1, 2, 3, 4, 5, 6, 7, 8] rfl rfl (q0 := 0) (ci := 4) rfl rfl rfl) rfl rfl hl.1 rfl (lv_room (Nat.le_of_ble_eq_true rfl)) d_O_faults_36 ⟨Nat.le_of_ble_eq_true rfl, Nat.le_of_ble_eq_true rfl⟩) hP hD hS hA [0, 1, 2, 3, 4, 5, 6, 7, 8] [] rfl rfl rfl (by decide) (fun u H locs hpp hP hD hS hz => ?_)
  have hP : va_P (dC, dI) classes [(o0, .inr (4, [.int (nI 0), .long (lN p), .int (nI n), .long (lN vr), .int (nI ir), .long (lN od), .int (nI cc), .ref g1, .int (nI gc), .ref g2, .ref g3, .ref g4, .int (nI oc), .ref g5, .ref g6, .ref g7, .ref g8])), (g1, .inl (cL, 8, .inr (.inl (fun c => lN (mk c))))), (g2, .inl (cI, 24, .inl (fun c => nI (kd c)))), (g3, .inl (cI, 24, .inl (fun c => nI (lf c)))), (g4, .inl (cI, 24, .inl (fun c => nI (rg c)))), (g5, .inl (cI, 16, .inl (fun c => nI (ol c)))), (g6, .inl (cI, 32, .inl (fun c => nI ((u).1 c)))), (g7, .inl (cI, 256, .inl (fun c => nI ((u).2.1 c)))), (g8, .inl (cI, 256, .inl (fun c => nI ((u).2.2 c))))] H := hP
  have hD : va_D A [(o0, .inr (4, [.int (nI 0), .long (lN p), .int (nI n), .long (lN vr), .int (nI ir), .long (lN od), .int (nI cc), .ref g1, .int (nI gc), .ref g2, .ref g3, .ref g4, .int (nI oc), .ref g5, .ref g6, .ref g7, .ref g8])), (g1, .inl (cL, 8, .inr (.inl (fun c => lN (mk c))))), (g2, .inl (cI, 24, .inl (fun c => nI (kd c)))), (g3, .inl (cI, 24, .inl (fun c => nI (lf c)))), (g4, .inl (cI, 24, .inl (fun c => nI (rg c)))), (g5, .inl (cI, 16, .inl (fun c => nI (ol c)))), (g6, .inl (cI, 32, .inl (fun c => nI ((u).1 c)))), (g7, .inl (cI, 256, .inl (fun c => nI ((u).2.1 c)))), (g8, .inl (cI, 256, .inl (fun c => nI ((u).2.2 c))))] := hD
  have hpa : ∀ t, t < m → u.2.1 t = pt_n mk (rg_t p vr t) cc := fun t ht => (hpp t ht).1
  have han : ∀ t, t < m → u.2.2 t = fa p vr mk cc gc oc kd lf rg ol none t := fun t ht => (hpp t ht).2
  refine lv_aload_n hx hb d_O_faults_39 rfl (lv_at hl 0 rfl) ?_
  refine lv_iload_n hx hb d_O_faults_40 rfl (lv_at hl 1 rfl) ?_
  refine lv_iconst (v := (-1)) hx hb d_O_faults_41 (by decide) ?_
  refine wq_l (wr := [(g1, .inl (cL, 8, .inr (.inl (fun c => lN (mk c))))), (g8, .inl (cI, 256, .inl (fun c => nI ((u).2.2 c))))]) (va_runV (As := [.int (nI m), .int (-1)]) (rest := []) ⟨hx, hb, hml, hown, hts⟩ (c_O_signatureN l dC dI cI cL H.size o0 g1 g2 g3 g4 g5 g6 g7 g8 0 p n vr ir od cc gc oc hm kd lf rg ol hk mk hmk u.1 u.2.1 m hmm hpa) (cwV 2 hts (gi_V kw_707 kw_709 ks_O_signature kw_5 gi_O_signature) rfl rfl rfl ⟨rfl, by decide, by decide, by decide⟩ ⟨Nat.le_of_ble_eq_true rfl, Nat.le_of_ble_eq_true rfl⟩) (wq_preVW hP hD hK hN [0, 2, 3, 4, 5, 6, 7] rfl rfl (q0 := 0) (ci := 4) rfl rfl rfl) rfl rfl hl.1 rfl (lv_room (Nat.le_of_ble_eq_true rfl)) d_O_faults_42 ⟨Nat.le_of_ble_eq_true rfl, Nat.le_of_ble_eq_true rfl⟩) hP hD hS hA [0, 2, 3, 4, 5, 6, 7] [1, 8] rfl rfl rfl (by decide) (fun r4 v0 H locs hq4 hP hD hS hz => ?_)
  have hP : va_P (dC, dI) classes [(g1, .inl (cL, 8, .inr (.inl (fun c => lN (mk c))))), (g8, .inl (cI, 256, .inl (fun c => nI ((u).2.2 c)))), (o0, .inr (4, [.int (nI 0), .long (lN p), .int (nI n), .long (lN vr), .int (nI ir), .long (lN od), .int (nI cc), .ref g1, .int (nI gc), .ref g2, .ref g3, .ref g4, .int (nI oc), .ref g5, .ref g6, .ref g7, .ref g8])), (g2, .inl (cI, 24, .inl (fun c => nI (kd c)))), (g3, .inl (cI, 24, .inl (fun c => nI (lf c)))), (g4, .inl (cI, 24, .inl (fun c => nI (rg c)))), (g5, .inl (cI, 16, .inl (fun c => nI (ol c)))), (g6, .inl (cI, 32, .inl (fun c => nI (v0 c)))), (g7, .inl (cI, 256, .inl (fun c => nI ((u).2.1 c))))] H := hP
  have hD : va_D A [(g1, .inl (cL, 8, .inr (.inl (fun c => lN (mk c))))), (g8, .inl (cI, 256, .inl (fun c => nI ((u).2.2 c)))), (o0, .inr (4, [.int (nI 0), .long (lN p), .int (nI n), .long (lN vr), .int (nI ir), .long (lN od), .int (nI cc), .ref g1, .int (nI gc), .ref g2, .ref g3, .ref g4, .int (nI oc), .ref g5, .ref g6, .ref g7, .ref g8])), (g2, .inl (cI, 24, .inl (fun c => nI (kd c)))), (g3, .inl (cI, 24, .inl (fun c => nI (lf c)))), (g4, .inl (cI, 24, .inl (fun c => nI (rg c)))), (g5, .inl (cI, 16, .inl (fun c => nI (ol c)))), (g6, .inl (cI, 32, .inl (fun c => nI (v0 c)))), (g7, .inl (cI, 256, .inl (fun c => nI ((u).2.1 c))))] := hD
  subst hq4
  refine lv_lstore_n (lv' := [(3, .long (lN (sg p (fun t => fa p vr mk cc gc oc kd lf rg ol none t) m))), (0, .ref o0), (1, .int (nI m)), (2, .int (nI k))]) hx hb d_O_faults_45 rfl hl (by decide) rfl (fun ls hl => ?_)
  refine lv_iconst (v := nI 2) hx hb d_O_faults_46 (by decide) ?_
  refine lv_aload_n hx hb d_O_faults_47 rfl (lv_at hl 1 rfl) ?_
  refine va_get (D := (dC, dI)) (ci := 4) (v := .int (nI cc)) (C := R_O) (T := F_O) (N := 17) hx hb hts in_O hown hK hP 2 rfl rfl 6 (by decide) (hts _ kw_534) (fun _ h9 => h9) rfl d_O_faults_48 ?_
  refine lv_aload_n hx hb d_O_faults_51 rfl (lv_at hl 1 rfl) ?_
  refine va_get (D := (dC, dI)) (ci := 4) (v := .int (nI gc)) (C := R_O) (T := F_O) (N := 17) hx hb hts in_O hown hK hP 2 rfl rfl 8 (by decide) (hts _ kw_536) (fun _ h9 => h9) rfl d_O_faults_52 ?_
  refine lv_iadd hx hb d_O_faults_55 ?_
  refine lv_topi (nm_r (show _ = nI (cc + gc) from nI_add cc gc) ?_)
  refine lv_imul hx hb d_O_faults_56 ?_
  refine lv_topi (nm_r (show _ = nI (2 * (cc + gc)) from pk_mul 2 (cc + gc)) ?_)
  refine lv_istore (lv' := [(5, .int (nI (2 * (cc + gc)))), (3, .long (lN (sg p (fun t => fa p vr mk cc gc oc kd lf rg ol none t) m))), (0, .ref o0), (1, .int (nI m)), (2, .int (nI k))]) hx hb d_O_faults_57 hl (by decide) rfl (fun ls hl => ?_)
  refine lv_iconst (v := nI 0) hx hb d_O_faults_59 (by decide) ?_
  refine lv_istore (lv' := [(6, .int (nI 0)), (5, .int (nI (2 * (cc + gc)))), (3, .long (lN (sg p (fun t => fa p vr mk cc gc oc kd lf rg ol none t) m))), (0, .ref o0), (1, .int (nI m)), (2, .int (nI k))]) hx hb d_O_faults_60 hl (by decide) rfl (fun ls hl => ?_)
  refine lv_iconst (v := nI 0) hx hb d_O_faults_62 (by decide) ?_
  refine lv_istore (lv' := [(7, .int (nI 0)), (6, .int (nI 0)), (5, .int (nI (2 * (cc + gc)))), (3, .long (lN (sg p (fun t => fa p vr mk cc gc oc kd lf rg ol none t) m))), (0, .ref o0), (1, .int (nI m)), (2, .int (nI k))]) hx hb d_O_faults_63 hl (by decide) rfl (fun ls hl => ?_)
  refine lv_iconst (v := (-1)) hx hb d_O_faults_65 (by decide) ?_
  refine lv_istore (lv' := [(8, .int (-1)), (7, .int (nI 0)), (6, .int (nI 0)), (5, .int (nI (2 * (cc + gc)))), (3, .long (lN (sg p (fun t => fa p vr mk cc gc oc kd lf rg ol none t) m))), (0, .ref o0), (1, .int (nI m)), (2, .int (nI k))]) hx hb d_O_faults_66 hl (by decide) rfl (fun ls hl => ?_)
  refine lv_iload hx hb d_O_faults_68 (lv_at hl 3 rfl) ?_
  refine lv_iconst (v := nI 1) hx hb d_O_faults_70 (by decide) ?_
  refine lv_isub hx hb d_O_faults_71 ?_
  refine lv_topi (nm_r (show _ = jm (2 * (cc + gc)) from rfl) ?_)
  refine lv_istore (lv' := [(9, .int (jm (2 * (cc + gc)))), (8, .int (-1)), (7, .int (nI 0)), (6, .int (nI 0)), (5, .int (nI (2 * (cc + gc)))), (3, .long (lN (sg p (fun t => fa p vr mk cc gc oc kd lf rg ol none t) m))), (0, .ref o0), (1, .int (nI m)), (2, .int (nI k))]) hx hb d_O_faults_72 hl (by decide) rfl (fun ls hl => ?_)
  have hP := hP.sub (ws' := [(o0, .inr (4, [.int (nI 0), .long (lN p), .int (nI n), .long (lN vr), .int (nI ir), .long (lN od), .int (nI cc), .ref g1, .int (nI gc), .ref g2, .ref g3, .ref g4, .int (nI oc), .ref g5, .ref g6, .ref g7, .ref g8])), (g1, .inl (cL, 8, .inr (.inl (fun c => lN (mk c))))), (g2, .inl (cI, 24, .inl (fun c => nI (kd c)))), (g3, .inl (cI, 24, .inl (fun c => nI (lf c)))), (g4, .inl (cI, 24, .inl (fun c => nI (rg c)))), (g5, .inl (cI, 16, .inl (fun c => nI (ol c)))), (g6, .inl (cI, 32, .inl (fun c => nI (v0 c)))), (g7, .inl (cI, 256, .inl (fun c => nI ((u).2.1 c)))), (g8, .inl (cI, 256, .inl (fun c => nI ((u).2.2 c))))]) [2, 0, 3, 4, 5, 6, 7, 8, 1] rfl
  have hD := hD.sub (ws' := [(o0, .inr (4, [.int (nI 0), .long (lN p), .int (nI n), .long (lN vr), .int (nI ir), .long (lN od), .int (nI cc), .ref g1, .int (nI gc), .ref g2, .ref g3, .ref g4, .int (nI oc), .ref g5, .ref g6, .ref g7, .ref g8])), (g1, .inl (cL, 8, .inr (.inl (fun c => lN (mk c))))), (g2, .inl (cI, 24, .inl (fun c => nI (kd c)))), (g3, .inl (cI, 24, .inl (fun c => nI (lf c)))), (g4, .inl (cI, 24, .inl (fun c => nI (rg c)))), (g5, .inl (cI, 16, .inl (fun c => nI (ol c)))), (g6, .inl (cI, 32, .inl (fun c => nI (v0 c)))), (g7, .inl (cI, 256, .inl (fun c => nI ((u).2.1 c)))), (g8, .inl (cI, 256, .inl (fun c => nI ((u).2.2 c))))]) [2, 0, 3, 4, 5, 6, 7, 8, 1] (by decide) rfl
  have loop : ∀ (K c6 c7 : Nat) (y8 : Int32) (v : Nat → Nat), K ≤ 2 * (cc + gc) → c6 + cn_t (fsB (fun f j => fa p vr mk cc gc oc kd lf rg ol (some f) j) (fun j => fa p vr mk cc gc oc kd lf rg ol none j) m) K = cn_t (fsB (fun f j => fa p vr mk cc gc oc kd lf rg ol (some f) j) (fun j => fa p vr mk cc gc oc kd lf rg ol none j) m) (2 * (cc + gc)) → c7 + cn_t (ffB p (fun f j => fa p vr mk cc gc oc kd lf rg ol (some f) j) (fun j => fa p vr mk cc gc oc kd lf rg ol none j) m) K = cn_t (ffB p (fun f j => fa p vr mk cc gc oc kd lf rg ol (some f) j) (fun j => fa p vr mk cc gc oc kd lf rg ol none j) m) (2 * (cc + gc)) → lw_p (fun j => (fsB (fun f j => fa p vr mk cc gc oc kd lf rg ol (some f) j) (fun j => fa p vr mk cc gc oc kd lf rg ol none j) m j = true ∧ ¬ ffB p (fun f j => fa p vr mk cc gc oc kd lf rg ol (some f) j) (fun j => fa p vr mk cc gc oc kd lf rg ol none j) m j = true)) K (2 * (cc + gc)) y8 → ∀ (H : Heap) (locs : List Loc), va_P (dC, dI) classes [(o0, .inr (4, [.int (nI 0), .long (lN p), .int (nI n), .long (lN vr), .int (nI ir), .long (lN od), .int (nI cc), .ref g1, .int (nI gc), .ref g2, .ref g3, .ref g4, .int (nI oc), .ref g5, .ref g6, .ref g7, .ref g8])), (g1, .inl (cL, 8, .inr (.inl (fun c => lN (mk c))))), (g2, .inl (cI, 24, .inl (fun c => nI (kd c)))), (g3, .inl (cI, 24, .inl (fun c => nI (lf c)))), (g4, .inl (cI, 24, .inl (fun c => nI (rg c)))), (g5, .inl (cI, 16, .inl (fun c => nI (ol c)))), (g6, .inl (cI, 32, .inl (fun c => nI (v c)))), (g7, .inl (cI, 256, .inl (fun c => nI ((u).2.1 c)))), (g8, .inl (cI, 256, .inl (fun c => nI ((u).2.2 c))))] H → va_D A [(o0, .inr (4, [.int (nI 0), .long (lN p), .int (nI n), .long (lN vr), .int (nI ir), .long (lN od), .int (nI cc), .ref g1, .int (nI gc), .ref g2, .ref g3, .ref g4, .int (nI oc), .ref g5, .ref g6, .ref g7, .ref g8])), (g1, .inl (cL, 8, .inr (.inl (fun c => lN (mk c))))), (g2, .inl (cI, 24, .inl (fun c => nI (kd c)))), (g3, .inl (cI, 24, .inl (fun c => nI (lf c)))), (g4, .inl (cI, 24, .inl (fun c => nI (rg c)))), (g5, .inl (cI, 16, .inl (fun c => nI (ol c)))), (g6, .inl (cI, 32, .inl (fun c => nI (v c)))), (g7, .inl (cI, 256, .inl (fun c => nI ((u).2.1 c)))), (g8, .inl (cI, 256, .inl (fun c => nI ((u).2.2 c))))] → va_S A st.heap H locs → ∀ (ls : Array Slot), lv_has ls 12 [(0, .ref o0), (1, .int (nI m)), (2, .int (nI k)), (3, .long (lN (sg p (fun t => fa p vr mk cc gc oc kd lf rg ol none t) m))), (5, .int (nI (2 * (cc + gc)))), (6, .int (nI c6)), (7, .int (nI c7)), (8, .int y8), (9, .int (jm K))] → W pg l en (headSpec w_O_faults ({ frames := 3, cells := 0, slots := 0, locals := 74 } : Room)).room st mm ([.ref o0, .int (nI m), .int (nI k)] : List Value).toArray bw me co H locs 0 0 (MQ bw (va_Qi (fun (r : Int32) (u : (Nat → Nat) × (Nat → Nat) × (Nat → Nat)) => (k = 0 → r = nI (2 * (cc + gc))) ∧ (k = 1 → r = nI (cn_t (fsB (fun f j => fa p vr mk cc gc oc kd lf rg ol (some f) j) (fun j => fa p vr mk cc gc oc kd lf rg ol none j) m) (2 * (cc + gc)))) ∧ (k = 2 → r = nI (cn_t (ffB p (fun f j => fa p vr mk cc gc oc kd lf rg ol (some f) j) (fun j => fa p vr mk cc gc oc kd lf rg ol none j) m) (2 * (cc + gc)))) ∧ (k = 3 → lw_p (fun j => (fsB (fun f j => fa p vr mk cc gc oc kd lf rg ol (some f) j) (fun j => fa p vr mk cc gc oc kd lf rg ol none j) m j = true ∧ ¬ ffB p (fun f j => fa p vr mk cc gc oc kd lf rg ol (some f) j) (fun j => fa p vr mk cc gc oc kd lf rg ol none j) m j = true)) 0 (2 * (cc + gc)) r)) (fun (u : (Nat → Nat) × (Nat → Nat) × (Nat → Nat)) t => wq_B (dC, dI) classes [(cI, .int), (cL, .long)] A [(o0, .inr (4, [.int (nI 0), .long (lN p), .int (nI n), .long (lN vr), .int (nI ir), .long (lN od), .int (nI cc), .ref g1, .int (nI gc), .ref g2, .ref g3, .ref g4, .int (nI oc), .ref g5, .ref g6, .ref g7, .ref g8])), (g1, .inl (cL, 8, .inr (.inl (fun c => lN (mk c))))), (g2, .inl (cI, 24, .inl (fun c => nI (kd c)))), (g3, .inl (cI, 24, .inl (fun c => nI (lf c)))), (g4, .inl (cI, 24, .inl (fun c => nI (rg c)))), (g5, .inl (cI, 16, .inl (fun c => nI (ol c)))), (g6, .inl (cI, 32, .inl (fun c => nI ((u).1 c)))), (g7, .inl (cI, 256, .inl (fun c => nI ((u).2.1 c)))), (g8, .inl (cI, 256, .inl (fun c => nI ((u).2.2 c))))] t) A) ([.ref o0, .int (nI m), .int (nI k)] : List Value).toArray st 0 0 A) (F0 mm 74 ls []) := by
    intro K
    induction K with
    | zero =>
      intro c6 c7 y8 v hKL hc6 hc7 h8 H locs hP hD hS ls hl
      have hc6 : c6 = cn_t (fsB (fun f j => fa p vr mk cc gc oc kd lf rg ol (some f) j) (fun j => fa p vr mk cc gc oc kd lf rg ol none j) m) (2 * (cc + gc)) := hc6
      have hc7 : c7 = cn_t (ffB p (fun f j => fa p vr mk cc gc oc kd lf rg ol (some f) j) (fun j => fa p vr mk cc gc oc kd lf rg ol none j) m) (2 * (cc + gc)) := hc7
      refine lv_iload hx hb d_O_faults_74 (lv_at hl 8 rfl) ?_
      refine lv_if_lt (tgt := 177) hx hb d_O_faults_76 (by decide) (fun hc => ?_) (fun hc => ?_)
      · have hkk : k = 0 ∨ k = 1 ∨ k = 2 ∨ k = 3 := by omega
        rcases hkk with e | e | e | e
        · subst e
          refine lv_iload_n hx hb d_O_faults_177 rfl (lv_at hl 2 rfl) ?_
          refine lv_if_ne (tgt := 186) hx hb d_O_faults_178 (by decide) (fun hc => absurd hc (fun z => z rfl)) (fun _ => ?_)
          refine lv_iload hx hb d_O_faults_181 (lv_at hl 4 rfl) ?_
          refine lv_goto (tgt := 208) hx hb d_O_faults_183 (by decide) ?_
          have hP := hP.sub (ws' := [(o0, .inr (4, [.int (nI 0), .long (lN p), .int (nI n), .long (lN vr), .int (nI ir), .long (lN od), .int (nI cc), .ref g1, .int (nI gc), .ref g2, .ref g3, .ref g4, .int (nI oc), .ref g5, .ref g6, .ref g7, .ref g8])), (g1, .inl (cL, 8, .inr (.inl (fun c => lN (mk c))))), (g2, .inl (cI, 24, .inl (fun c => nI (kd c)))), (g3, .inl (cI, 24, .inl (fun c => nI (lf c)))), (g4, .inl (cI, 24, .inl (fun c => nI (rg c)))), (g5, .inl (cI, 16, .inl (fun c => nI (ol c)))), (g6, .inl (cI, 32, .inl (fun c => nI (v c)))), (g7, .inl (cI, 256, .inl (fun c => nI ((u).2.1 c)))), (g8, .inl (cI, 256, .inl (fun c => nI ((u).2.2 c))))]) [0, 1, 2, 3, 4, 5, 6, 7, 8] rfl
          have hD := hD.sub (ws' := [(o0, .inr (4, [.int (nI 0), .long (lN p), .int (nI n), .long (lN vr), .int (nI ir), .long (lN od), .int (nI cc), .ref g1, .int (nI gc), .ref g2, .ref g3, .ref g4, .int (nI oc), .ref g5, .ref g6, .ref g7, .ref g8])), (g1, .inl (cL, 8, .inr (.inl (fun c => lN (mk c))))), (g2, .inl (cI, 24, .inl (fun c => nI (kd c)))), (g3, .inl (cI, 24, .inl (fun c => nI (lf c)))), (g4, .inl (cI, 24, .inl (fun c => nI (rg c)))), (g5, .inl (cI, 16, .inl (fun c => nI (ol c)))), (g6, .inl (cI, 32, .inl (fun c => nI (v c)))), (g7, .inl (cI, 256, .inl (fun c => nI ((u).2.1 c)))), (g8, .inl (cI, 256, .inl (fun c => nI ((u).2.2 c))))]) [0, 1, 2, 3, 4, 5, 6, 7, 8] (by decide) rfl
          exact W.iret (v := nI (2 * (cc + gc))) hx hb hr (fun t9 ht hW => ⟨⟨nI (2 * (cc + gc)), (v, u.2.1, u.2.2), rfl, ⟨fun _ => rfl, fun z => absurd z (by decide), fun z => absurd z (by decide), fun z => absurd z (by decide)⟩, by rw [ht]; exact hP, va_K.moved hW.alike hK, hD⟩, hS.F ht⟩) hS.2.2 d_O_faults_208
        · subst e
          refine lv_iload_n hx hb d_O_faults_177 rfl (lv_at hl 2 rfl) ?_
          refine lv_if_ne (tgt := 186) hx hb d_O_faults_178 (by decide) (fun _ => ?_) (fun hc => absurd hc (show ¬ nI 1 = 0 from by decide))
          refine lv_iload_n hx hb d_O_faults_186 rfl (lv_at hl 2 rfl) ?_
          refine lv_iconst (v := nI 1) hx hb d_O_faults_187 (by decide) ?_
          refine lv_icmp_ne (tgt := 196) hx hb d_O_faults_188 (by decide) (fun hc => absurd hc (fun z => z rfl)) (fun _ => ?_)
          refine lv_iload hx hb d_O_faults_191 (lv_at hl 5 rfl) ?_
          refine lv_goto (tgt := 208) hx hb d_O_faults_193 (by decide) ?_
          have hP := hP.sub (ws' := [(o0, .inr (4, [.int (nI 0), .long (lN p), .int (nI n), .long (lN vr), .int (nI ir), .long (lN od), .int (nI cc), .ref g1, .int (nI gc), .ref g2, .ref g3, .ref g4, .int (nI oc), .ref g5, .ref g6, .ref g7, .ref g8])), (g1, .inl (cL, 8, .inr (.inl (fun c => lN (mk c))))), (g2, .inl (cI, 24, .inl (fun c => nI (kd c)))), (g3, .inl (cI, 24, .inl (fun c => nI (lf c)))), (g4, .inl (cI, 24, .inl (fun c => nI (rg c)))), (g5, .inl (cI, 16, .inl (fun c => nI (ol c)))), (g6, .inl (cI, 32, .inl (fun c => nI (v c)))), (g7, .inl (cI, 256, .inl (fun c => nI ((u).2.1 c)))), (g8, .inl (cI, 256, .inl (fun c => nI ((u).2.2 c))))]) [0, 1, 2, 3, 4, 5, 6, 7, 8] rfl
          have hD := hD.sub (ws' := [(o0, .inr (4, [.int (nI 0), .long (lN p), .int (nI n), .long (lN vr), .int (nI ir), .long (lN od), .int (nI cc), .ref g1, .int (nI gc), .ref g2, .ref g3, .ref g4, .int (nI oc), .ref g5, .ref g6, .ref g7, .ref g8])), (g1, .inl (cL, 8, .inr (.inl (fun c => lN (mk c))))), (g2, .inl (cI, 24, .inl (fun c => nI (kd c)))), (g3, .inl (cI, 24, .inl (fun c => nI (lf c)))), (g4, .inl (cI, 24, .inl (fun c => nI (rg c)))), (g5, .inl (cI, 16, .inl (fun c => nI (ol c)))), (g6, .inl (cI, 32, .inl (fun c => nI (v c)))), (g7, .inl (cI, 256, .inl (fun c => nI ((u).2.1 c)))), (g8, .inl (cI, 256, .inl (fun c => nI ((u).2.2 c))))]) [0, 1, 2, 3, 4, 5, 6, 7, 8] (by decide) rfl
          exact W.iret (v := nI c6) hx hb hr (fun t9 ht hW => ⟨⟨nI c6, (v, u.2.1, u.2.2), rfl, ⟨fun z => absurd z (by decide), fun _ => by rw [hc6], fun z => absurd z (by decide), fun z => absurd z (by decide)⟩, by rw [ht]; exact hP, va_K.moved hW.alike hK, hD⟩, hS.F ht⟩) hS.2.2 d_O_faults_208
        · subst e
          refine lv_iload_n hx hb d_O_faults_177 rfl (lv_at hl 2 rfl) ?_
          refine lv_if_ne (tgt := 186) hx hb d_O_faults_178 (by decide) (fun _ => ?_) (fun hc => absurd hc (show ¬ nI 2 = 0 from by decide))
          refine lv_iload_n hx hb d_O_faults_186 rfl (lv_at hl 2 rfl) ?_
          refine lv_iconst (v := nI 1) hx hb d_O_faults_187 (by decide) ?_
          refine lv_icmp_ne (tgt := 196) hx hb d_O_faults_188 (by decide) (fun _ => ?_) (fun hc => absurd hc (show ¬ nI 2 = nI 1 from by decide))
          refine lv_iload_n hx hb d_O_faults_196 rfl (lv_at hl 2 rfl) ?_
          refine lv_iconst (v := nI 2) hx hb d_O_faults_197 (by decide) ?_
          refine lv_icmp_ne (tgt := 206) hx hb d_O_faults_198 (by decide) (fun hc => absurd hc (fun z => z rfl)) (fun _ => ?_)
          refine lv_iload hx hb d_O_faults_201 (lv_at hl 6 rfl) ?_
          refine lv_goto (tgt := 208) hx hb d_O_faults_203 (by decide) ?_
          have hP := hP.sub (ws' := [(o0, .inr (4, [.int (nI 0), .long (lN p), .int (nI n), .long (lN vr), .int (nI ir), .long (lN od), .int (nI cc), .ref g1, .int (nI gc), .ref g2, .ref g3, .ref g4, .int (nI oc), .ref g5, .ref g6, .ref g7, .ref g8])), (g1, .inl (cL, 8, .inr (.inl (fun c => lN (mk c))))), (g2, .inl (cI, 24, .inl (fun c => nI (kd c)))), (g3, .inl (cI, 24, .inl (fun c => nI (lf c)))), (g4, .inl (cI, 24, .inl (fun c => nI (rg c)))), (g5, .inl (cI, 16, .inl (fun c => nI (ol c)))), (g6, .inl (cI, 32, .inl (fun c => nI (v c)))), (g7, .inl (cI, 256, .inl (fun c => nI ((u).2.1 c)))), (g8, .inl (cI, 256, .inl (fun c => nI ((u).2.2 c))))]) [0, 1, 2, 3, 4, 5, 6, 7, 8] rfl
          have hD := hD.sub (ws' := [(o0, .inr (4, [.int (nI 0), .long (lN p), .int (nI n), .long (lN vr), .int (nI ir), .long (lN od), .int (nI cc), .ref g1, .int (nI gc), .ref g2, .ref g3, .ref g4, .int (nI oc), .ref g5, .ref g6, .ref g7, .ref g8])), (g1, .inl (cL, 8, .inr (.inl (fun c => lN (mk c))))), (g2, .inl (cI, 24, .inl (fun c => nI (kd c)))), (g3, .inl (cI, 24, .inl (fun c => nI (lf c)))), (g4, .inl (cI, 24, .inl (fun c => nI (rg c)))), (g5, .inl (cI, 16, .inl (fun c => nI (ol c)))), (g6, .inl (cI, 32, .inl (fun c => nI (v c)))), (g7, .inl (cI, 256, .inl (fun c => nI ((u).2.1 c)))), (g8, .inl (cI, 256, .inl (fun c => nI ((u).2.2 c))))]) [0, 1, 2, 3, 4, 5, 6, 7, 8] (by decide) rfl
          exact W.iret (v := nI c7) hx hb hr (fun t9 ht hW => ⟨⟨nI c7, (v, u.2.1, u.2.2), rfl, ⟨fun z => absurd z (by decide), fun z => absurd z (by decide), fun _ => by rw [hc7], fun z => absurd z (by decide)⟩, by rw [ht]; exact hP, va_K.moved hW.alike hK, hD⟩, hS.F ht⟩) hS.2.2 d_O_faults_208
        · subst e
          refine lv_iload_n hx hb d_O_faults_177 rfl (lv_at hl 2 rfl) ?_
          refine lv_if_ne (tgt := 186) hx hb d_O_faults_178 (by decide) (fun _ => ?_) (fun hc => absurd hc (show ¬ nI 3 = 0 from by decide))
          refine lv_iload_n hx hb d_O_faults_186 rfl (lv_at hl 2 rfl) ?_
          refine lv_iconst (v := nI 1) hx hb d_O_faults_187 (by decide) ?_
          refine lv_icmp_ne (tgt := 196) hx hb d_O_faults_188 (by decide) (fun _ => ?_) (fun hc => absurd hc (show ¬ nI 3 = nI 1 from by decide))
          refine lv_iload_n hx hb d_O_faults_196 rfl (lv_at hl 2 rfl) ?_
          refine lv_iconst (v := nI 2) hx hb d_O_faults_197 (by decide) ?_
          refine lv_icmp_ne (tgt := 206) hx hb d_O_faults_198 (by decide) (fun _ => ?_) (fun hc => absurd hc (show ¬ nI 3 = nI 2 from by decide))
          refine lv_iload hx hb d_O_faults_206 (lv_at hl 7 rfl) ?_
          have hP := hP.sub (ws' := [(o0, .inr (4, [.int (nI 0), .long (lN p), .int (nI n), .long (lN vr), .int (nI ir), .long (lN od), .int (nI cc), .ref g1, .int (nI gc), .ref g2, .ref g3, .ref g4, .int (nI oc), .ref g5, .ref g6, .ref g7, .ref g8])), (g1, .inl (cL, 8, .inr (.inl (fun c => lN (mk c))))), (g2, .inl (cI, 24, .inl (fun c => nI (kd c)))), (g3, .inl (cI, 24, .inl (fun c => nI (lf c)))), (g4, .inl (cI, 24, .inl (fun c => nI (rg c)))), (g5, .inl (cI, 16, .inl (fun c => nI (ol c)))), (g6, .inl (cI, 32, .inl (fun c => nI (v c)))), (g7, .inl (cI, 256, .inl (fun c => nI ((u).2.1 c)))), (g8, .inl (cI, 256, .inl (fun c => nI ((u).2.2 c))))]) [0, 1, 2, 3, 4, 5, 6, 7, 8] rfl
          have hD := hD.sub (ws' := [(o0, .inr (4, [.int (nI 0), .long (lN p), .int (nI n), .long (lN vr), .int (nI ir), .long (lN od), .int (nI cc), .ref g1, .int (nI gc), .ref g2, .ref g3, .ref g4, .int (nI oc), .ref g5, .ref g6, .ref g7, .ref g8])), (g1, .inl (cL, 8, .inr (.inl (fun c => lN (mk c))))), (g2, .inl (cI, 24, .inl (fun c => nI (kd c)))), (g3, .inl (cI, 24, .inl (fun c => nI (lf c)))), (g4, .inl (cI, 24, .inl (fun c => nI (rg c)))), (g5, .inl (cI, 16, .inl (fun c => nI (ol c)))), (g6, .inl (cI, 32, .inl (fun c => nI (v c)))), (g7, .inl (cI, 256, .inl (fun c => nI ((u).2.1 c)))), (g8, .inl (cI, 256, .inl (fun c => nI ((u).2.2 c))))]) [0, 1, 2, 3, 4, 5, 6, 7, 8] (by decide) rfl
          exact W.iret (v := y8) hx hb hr (fun t9 ht hW => ⟨⟨y8, (v, u.2.1, u.2.2), rfl, ⟨fun z => absurd z (by decide), fun z => absurd z (by decide), fun z => absurd z (by decide), fun _ => h8⟩, by rw [ht]; exact hP, va_K.moved hW.alike hK, hD⟩, hS.F ht⟩) hS.2.2 d_O_faults_208
      · exact absurd ((jm_neg (by decide)).mpr rfl) hc
    | succ K ih =>
      intro c6 c7 y8 v hKL hc6 hc7 h8 H locs hP hD hS ls hl
      have hc6 : c6 + (cn_t (fsB (fun f j => fa p vr mk cc gc oc kd lf rg ol (some f) j) (fun j => fa p vr mk cc gc oc kd lf rg ol none j) m) K + (if (fsB (fun f j => fa p vr mk cc gc oc kd lf rg ol (some f) j) (fun j => fa p vr mk cc gc oc kd lf rg ol none j) m) K = true then 1 else 0)) = cn_t (fsB (fun f j => fa p vr mk cc gc oc kd lf rg ol (some f) j) (fun j => fa p vr mk cc gc oc kd lf rg ol none j) m) (2 * (cc + gc)) := hc6
      have hc7 : c7 + (cn_t (ffB p (fun f j => fa p vr mk cc gc oc kd lf rg ol (some f) j) (fun j => fa p vr mk cc gc oc kd lf rg ol none j) m) K + (if (ffB p (fun f j => fa p vr mk cc gc oc kd lf rg ol (some f) j) (fun j => fa p vr mk cc gc oc kd lf rg ol none j) m) K = true then 1 else 0)) = cn_t (ffB p (fun f j => fa p vr mk cc gc oc kd lf rg ol (some f) j) (fun j => fa p vr mk cc gc oc kd lf rg ol none j) m) (2 * (cc + gc)) := hc7
      refine lv_iload hx hb d_O_faults_74 (lv_at hl 8 rfl) ?_
      refine lv_if_lt (tgt := 177) hx hb d_O_faults_76 (by decide) (fun hc => ?_) (fun hc => ?_)
      · exact absurd ((jm_neg (by omega)).mp hc) (by omega)
      · have e9 : (jm (K + 1)) = (nI K) := jm_succ K
        have hl : lv_has ls 12 [(0, .ref o0), (1, .int (nI m)), (2, .int (nI k)), (3, .long (lN (sg p (fun t => fa p vr mk cc gc oc kd lf rg ol none t) m))), (5, .int (nI (2 * (cc + gc)))), (6, .int (nI c6)), (7, .int (nI c7)), (8, .int y8), (9, .int (nI K))] := by rw [← e9]; exact hl
        refine lv_aload_n hx hb d_O_faults_79 rfl (lv_at hl 0 rfl) ?_
        refine lv_iload_n hx hb d_O_faults_80 rfl (lv_at hl 1 rfl) ?_
        refine lv_iload hx hb d_O_faults_81 (lv_at hl 8 rfl) ?_
        refine wq_i (wr := [(g1, .inl (cL, 8, .inr (.inl (fun c => lN (mk c)))))]) (va_runV (As := [.int (nI m), .int (nI K)]) (rest := []) ⟨hx, hb, hml, hown, hts⟩ (c_O_firstSeen l dC dI cI cL H.size o0 g1 g2 g3 g4 g5 g6 g7 g8 0 p n vr ir od cc gc oc kd lf rg ol hk mk v u.2.1 u.2.2 m hmm hpa han K (by omega)) (cwV 2 hts (gi_V kw_715 kw_717 ks_O_firstSeen kw_5 gi_O_firstSeen) rfl rfl rfl ⟨rfl, by decide, by decide, by decide⟩ ⟨Nat.le_of_ble_eq_true rfl, Nat.le_of_ble_eq_true rfl⟩) (wq_preVW hP hD hK hN [0, 2, 3, 4, 5, 6, 7, 8] rfl rfl (q0 := 0) (ci := 4) rfl rfl rfl) rfl rfl hl.1 rfl (lv_room (Nat.le_of_ble_eq_true rfl)) d_O_faults_83 ⟨Nat.le_of_ble_eq_true rfl, Nat.le_of_ble_eq_true rfl⟩) hP hD hS hA [0, 2, 3, 4, 5, 6, 7, 8] [1] rfl rfl rfl (by decide) (fun r5 v1 H locs hq5 hP hD hS hz => ?_)
        have hP : va_P (dC, dI) classes [(g1, .inl (cL, 8, .inr (.inl (fun c => lN (mk c))))), (o0, .inr (4, [.int (nI 0), .long (lN p), .int (nI n), .long (lN vr), .int (nI ir), .long (lN od), .int (nI cc), .ref g1, .int (nI gc), .ref g2, .ref g3, .ref g4, .int (nI oc), .ref g5, .ref g6, .ref g7, .ref g8])), (g2, .inl (cI, 24, .inl (fun c => nI (kd c)))), (g3, .inl (cI, 24, .inl (fun c => nI (lf c)))), (g4, .inl (cI, 24, .inl (fun c => nI (rg c)))), (g5, .inl (cI, 16, .inl (fun c => nI (ol c)))), (g6, .inl (cI, 32, .inl (fun c => nI (v1 c)))), (g7, .inl (cI, 256, .inl (fun c => nI ((u).2.1 c)))), (g8, .inl (cI, 256, .inl (fun c => nI ((u).2.2 c))))] H := hP
        have hD : va_D A [(g1, .inl (cL, 8, .inr (.inl (fun c => lN (mk c))))), (o0, .inr (4, [.int (nI 0), .long (lN p), .int (nI n), .long (lN vr), .int (nI ir), .long (lN od), .int (nI cc), .ref g1, .int (nI gc), .ref g2, .ref g3, .ref g4, .int (nI oc), .ref g5, .ref g6, .ref g7, .ref g8])), (g2, .inl (cI, 24, .inl (fun c => nI (kd c)))), (g3, .inl (cI, 24, .inl (fun c => nI (lf c)))), (g4, .inl (cI, 24, .inl (fun c => nI (rg c)))), (g5, .inl (cI, 16, .inl (fun c => nI (ol c)))), (g6, .inl (cI, 32, .inl (fun c => nI (v1 c)))), (g7, .inl (cI, 256, .inl (fun c => nI ((u).2.1 c)))), (g8, .inl (cI, 256, .inl (fun c => nI ((u).2.2 c))))] := hD
        rcases hq5 with ⟨t, ht1, ht2, -, rfl⟩ | ⟨hsame, rfl⟩
        · have hsB : (fsB (fun f j => fa p vr mk cc gc oc kd lf rg ol (some f) j) (fun j => fa p vr mk cc gc oc kd lf rg ol none j) m) K = true := fsB_iff.mpr ⟨t, ht1, ht2⟩
          refine lv_if_lt (tgt := 93) hx hb d_O_faults_86 (by decide) (fun hc => absurd hc (nI_nn (by omega))) (fun _ => ?_)
          refine lv_iconst (v := nI 1) hx hb d_O_faults_89 (by decide) ?_
          refine lv_goto (tgt := 94) hx hb d_O_faults_90 (by decide) ?_
          refine lv_istore (lv' := [(10, .int (nI 1)), (0, .ref o0), (1, .int (nI m)), (2, .int (nI k)), (3, .long (lN (sg p (fun t => fa p vr mk cc gc oc kd lf rg ol none t) m))), (5, .int (nI (2 * (cc + gc)))), (6, .int (nI c6)), (7, .int (nI c7)), (8, .int y8), (9, .int (nI K))]) hx hb d_O_faults_94 hl (by decide) rfl (fun ls hl => ?_)
          refine lv_iload hx hb d_O_faults_96 (lv_at hl 0 rfl) ?_
          refine lv_if_eq (tgt := 117) hx hb d_O_faults_98 (by decide) (fun hc => absurd hc (show ¬ nI 1 = 0 from by decide)) (fun _ => ?_)
          refine lv_aload_n hx hb d_O_faults_101 rfl (lv_at hl 1 rfl) ?_
          refine lv_iload_n hx hb d_O_faults_102 rfl (lv_at hl 2 rfl) ?_
          refine lv_iload hx hb d_O_faults_103 (lv_at hl 9 rfl) ?_
          refine wq_l (wr := [(g1, .inl (cL, 8, .inr (.inl (fun c => lN (mk c))))), (g8, .inl (cI, 256, .inl (fun c => nI ((u).2.2 c))))]) (va_runV (As := [.int (nI m), .int (nI K)]) (rest := []) ⟨hx, hb, hml, hown, hts⟩ (c_O_signatureF l dC dI cI cL H.size o0 g1 g2 g3 g4 g5 g6 g7 g8 0 p n vr ir od cc gc oc hm kd lf rg ol hk mk hmk v1 u.2.1 m hmm hpa K (by omega)) (cwV 2 hts (gi_V kw_707 kw_709 ks_O_signature kw_5 gi_O_signature) rfl rfl rfl ⟨rfl, by decide, by decide, by decide⟩ ⟨Nat.le_of_ble_eq_true rfl, Nat.le_of_ble_eq_true rfl⟩) (wq_preVW hP hD hK hN [1, 2, 3, 4, 5, 6, 7] rfl rfl (q0 := 1) (ci := 4) rfl rfl rfl) rfl rfl hl.1 rfl (lv_room (Nat.le_of_ble_eq_true rfl)) d_O_faults_105 ⟨Nat.le_of_ble_eq_true rfl, Nat.le_of_ble_eq_true rfl⟩) hP hD hS hA [1, 2, 3, 4, 5, 6, 7] [0, 8] rfl rfl rfl (by decide) (fun r7 v2 H locs hq7 hP hD hS hz => ?_)
          have hP : va_P (dC, dI) classes [(g1, .inl (cL, 8, .inr (.inl (fun c => lN (mk c))))), (g8, .inl (cI, 256, .inl (fun c => nI ((u).2.2 c)))), (o0, .inr (4, [.int (nI 0), .long (lN p), .int (nI n), .long (lN vr), .int (nI ir), .long (lN od), .int (nI cc), .ref g1, .int (nI gc), .ref g2, .ref g3, .ref g4, .int (nI oc), .ref g5, .ref g6, .ref g7, .ref g8])), (g2, .inl (cI, 24, .inl (fun c => nI (kd c)))), (g3, .inl (cI, 24, .inl (fun c => nI (lf c)))), (g4, .inl (cI, 24, .inl (fun c => nI (rg c)))), (g5, .inl (cI, 16, .inl (fun c => nI (ol c)))), (g6, .inl (cI, 32, .inl (fun c => nI (v2 c)))), (g7, .inl (cI, 256, .inl (fun c => nI ((u).2.1 c))))] H := hP
          have hD : va_D A [(g1, .inl (cL, 8, .inr (.inl (fun c => lN (mk c))))), (g8, .inl (cI, 256, .inl (fun c => nI ((u).2.2 c)))), (o0, .inr (4, [.int (nI 0), .long (lN p), .int (nI n), .long (lN vr), .int (nI ir), .long (lN od), .int (nI cc), .ref g1, .int (nI gc), .ref g2, .ref g3, .ref g4, .int (nI oc), .ref g5, .ref g6, .ref g7, .ref g8])), (g2, .inl (cI, 24, .inl (fun c => nI (kd c)))), (g3, .inl (cI, 24, .inl (fun c => nI (lf c)))), (g4, .inl (cI, 24, .inl (fun c => nI (rg c)))), (g5, .inl (cI, 16, .inl (fun c => nI (ol c)))), (g6, .inl (cI, 32, .inl (fun c => nI (v2 c)))), (g7, .inl (cI, 256, .inl (fun c => nI ((u).2.1 c))))] := hD
          subst hq7
          refine lv_lload_n hx hb d_O_faults_108 rfl (lv_at hl 4 rfl) ?_
          refine W.lcmp hx hb d_O_faults_109 ?_
          refine lv_if_eq (tgt := 117) hx hb d_O_faults_110 (by decide) (fun hse => ?_) (fun hse => ?_)
          · have hse : sg p (fun t => fa p vr mk cc gc oc kd lf rg ol (some K) t) m = sg p (fun t => fa p vr mk cc gc oc kd lf rg ol none t) m := (lN_eqI (s64 hm) (s64 hm)).mp (cmq_eq hse)
            have hfB : ¬ (ffB p (fun f j => fa p vr mk cc gc oc kd lf rg ol (some f) j) (fun j => fa p vr mk cc gc oc kd lf rg ol none j) m) K = true := fun z => ffB_iff.mp z ((sg_x0 hm _ _ m).mpr hse)
            refine lv_iconst (v := nI 0) hx hb d_O_faults_117 (by decide) ?_
            refine lv_istore (lv' := [(11, .int (nI 0)), (10, .int (nI 1)), (0, .ref o0), (1, .int (nI m)), (2, .int (nI k)), (3, .long (lN (sg p (fun t => fa p vr mk cc gc oc kd lf rg ol none t) m))), (5, .int (nI (2 * (cc + gc)))), (6, .int (nI c6)), (7, .int (nI c7)), (8, .int y8), (9, .int (nI K))]) hx hb d_O_faults_118 hl (by decide) rfl (fun ls hl => ?_)
            refine lv_iload hx hb d_O_faults_120 (lv_at hl 1 rfl) ?_
            refine lv_if_eq (tgt := 132) hx hb d_O_faults_122 (by decide) (fun hc => absurd hc (show ¬ nI 1 = 0 from by decide)) (fun _ => ?_)
            refine lv_iload hx hb d_O_faults_125 (lv_at hl 7 rfl) ?_
            refine lv_iconst (v := nI 1) hx hb d_O_faults_127 (by decide) ?_
            refine lv_iadd hx hb d_O_faults_128 ?_
            refine lv_topi (nm_r (show _ = nI (c6 + 1) from nI_add c6 1) ?_)
            refine lv_goto (tgt := 134) hx hb d_O_faults_129 (by decide) ?_
            refine lv_istore (lv' := [(6, .int (nI (c6 + 1))), (11, .int (nI 0)), (10, .int (nI 1)), (0, .ref o0), (1, .int (nI m)), (2, .int (nI k)), (3, .long (lN (sg p (fun t => fa p vr mk cc gc oc kd lf rg ol none t) m))), (5, .int (nI (2 * (cc + gc)))), (7, .int (nI c7)), (8, .int y8), (9, .int (nI K))]) hx hb d_O_faults_134 hl (by decide) rfl (fun ls hl => ?_)
            refine lv_iload hx hb d_O_faults_136 (lv_at hl 1 rfl) ?_
            refine lv_if_eq (tgt := 148) hx hb d_O_faults_138 (by decide) (fun _ => ?_) (fun hc => absurd hc (fun z => z rfl))
            refine lv_iload hx hb d_O_faults_148 (lv_at hl 8 rfl) ?_
            refine lv_istore (lv' := [(7, .int (nI c7)), (6, .int (nI (c6 + 1))), (11, .int (nI 0)), (10, .int (nI 1)), (0, .ref o0), (1, .int (nI m)), (2, .int (nI k)), (3, .long (lN (sg p (fun t => fa p vr mk cc gc oc kd lf rg ol none t) m))), (5, .int (nI (2 * (cc + gc)))), (8, .int y8), (9, .int (nI K))]) hx hb d_O_faults_150 hl (by decide) rfl (fun ls hl => ?_)
            refine lv_iload hx hb d_O_faults_152 (lv_at hl 3 rfl) ?_
            refine lv_if_eq (tgt := 167) hx hb d_O_faults_154 (by decide) (fun hc => absurd hc (show ¬ nI 1 = 0 from by decide)) (fun _ => ?_)
            refine lv_iload hx hb d_O_faults_157 (lv_at hl 2 rfl) ?_
            refine lv_if_ne (tgt := 167) hx hb d_O_faults_159 (by decide) (fun hc => absurd hc (fun z => z rfl)) (fun _ => ?_)
            refine lv_iload hx hb d_O_faults_162 (lv_at hl 10 rfl) ?_
            refine lv_goto (tgt := 169) hx hb d_O_faults_164 (by decide) ?_
            refine lv_istore (lv' := [(8, .int (nI K)), (7, .int (nI c7)), (6, .int (nI (c6 + 1))), (11, .int (nI 0)), (10, .int (nI 1)), (0, .ref o0), (1, .int (nI m)), (2, .int (nI k)), (3, .long (lN (sg p (fun t => fa p vr mk cc gc oc kd lf rg ol none t) m))), (5, .int (nI (2 * (cc + gc)))), (9, .int (nI K))]) hx hb d_O_faults_169 hl (by decide) rfl (fun ls hl => ?_)
            refine lv_iinc (v := jm K) (lv' := [(9, .int (jm K)), (8, .int (nI K)), (7, .int (nI c7)), (6, .int (nI (c6 + 1))), (11, .int (nI 0)), (10, .int (nI 1)), (0, .ref o0), (1, .int (nI m)), (2, .int (nI k)), (3, .long (lN (sg p (fun t => fa p vr mk cc gc oc kd lf rg ol none t) m))), (5, .int (nI (2 * (cc + gc))))]) hx hb d_O_faults_171 hl (k := 10) rfl (jm_dec K) (by decide) rfl (fun ls hl => ?_)
            refine lv_goto (tgt := 74) hx hb d_O_faults_174 (by decide) ?_
            have hl := lv_sub (l' := [(0, .ref o0), (1, .int (nI m)), (2, .int (nI k)), (3, .long (lN (sg p (fun t => fa p vr mk cc gc oc kd lf rg ol none t) m))), (5, .int (nI (2 * (cc + gc)))), (6, .int (nI (c6 + 1))), (7, .int (nI c7)), (8, .int (nI K)), (9, .int (jm K))]) hl [6, 7, 8, 9, 10, 3, 2, 1, 0] rfl
            have hP := hP.sub (ws' := [(o0, .inr (4, [.int (nI 0), .long (lN p), .int (nI n), .long (lN vr), .int (nI ir), .long (lN od), .int (nI cc), .ref g1, .int (nI gc), .ref g2, .ref g3, .ref g4, .int (nI oc), .ref g5, .ref g6, .ref g7, .ref g8])), (g1, .inl (cL, 8, .inr (.inl (fun c => lN (mk c))))), (g2, .inl (cI, 24, .inl (fun c => nI (kd c)))), (g3, .inl (cI, 24, .inl (fun c => nI (lf c)))), (g4, .inl (cI, 24, .inl (fun c => nI (rg c)))), (g5, .inl (cI, 16, .inl (fun c => nI (ol c)))), (g6, .inl (cI, 32, .inl (fun c => nI (v2 c)))), (g7, .inl (cI, 256, .inl (fun c => nI ((u).2.1 c)))), (g8, .inl (cI, 256, .inl (fun c => nI ((u).2.2 c))))]) [2, 0, 3, 4, 5, 6, 7, 8, 1] rfl
            have hD := hD.sub (ws' := [(o0, .inr (4, [.int (nI 0), .long (lN p), .int (nI n), .long (lN vr), .int (nI ir), .long (lN od), .int (nI cc), .ref g1, .int (nI gc), .ref g2, .ref g3, .ref g4, .int (nI oc), .ref g5, .ref g6, .ref g7, .ref g8])), (g1, .inl (cL, 8, .inr (.inl (fun c => lN (mk c))))), (g2, .inl (cI, 24, .inl (fun c => nI (kd c)))), (g3, .inl (cI, 24, .inl (fun c => nI (lf c)))), (g4, .inl (cI, 24, .inl (fun c => nI (rg c)))), (g5, .inl (cI, 16, .inl (fun c => nI (ol c)))), (g6, .inl (cI, 32, .inl (fun c => nI (v2 c)))), (g7, .inl (cI, 256, .inl (fun c => nI ((u).2.1 c)))), (g8, .inl (cI, 256, .inl (fun c => nI ((u).2.2 c))))]) [2, 0, 3, 4, 5, 6, 7, 8, 1] (by decide) rfl
            exact ih (c6 + 1) (c7) (nI K) v2 (by omega) (by rw [if_pos hsB] at hc6; omega) (by rw [if_neg hfB] at hc7; omega) (lw_yes (by omega) ⟨hsB, hfB⟩) H locs hP hD hS ls hl
          · have hse : ¬ sg p (fun t => fa p vr mk cc gc oc kd lf rg ol (some K) t) m = sg p (fun t => fa p vr mk cc gc oc kd lf rg ol none t) m := fun z => cmq_ne hse (by rw [z])
            have hfB : (ffB p (fun f j => fa p vr mk cc gc oc kd lf rg ol (some f) j) (fun j => fa p vr mk cc gc oc kd lf rg ol none j) m) K = true := ffB_iff.mpr (fun z => hse ((sg_x0 hm _ _ m).mp z))
            refine lv_iconst (v := nI 1) hx hb d_O_faults_113 (by decide) ?_
            refine lv_goto (tgt := 118) hx hb d_O_faults_114 (by decide) ?_
            refine lv_istore (lv' := [(11, .int (nI 1)), (10, .int (nI 1)), (0, .ref o0), (1, .int (nI m)), (2, .int (nI k)), (3, .long (lN (sg p (fun t => fa p vr mk cc gc oc kd lf rg ol none t) m))), (5, .int (nI (2 * (cc + gc)))), (6, .int (nI c6)), (7, .int (nI c7)), (8, .int y8), (9, .int (nI K))]) hx hb d_O_faults_118 hl (by decide) rfl (fun ls hl => ?_)
            refine lv_iload hx hb d_O_faults_120 (lv_at hl 1 rfl) ?_
            refine lv_if_eq (tgt := 132) hx hb d_O_faults_122 (by decide) (fun hc => absurd hc (show ¬ nI 1 = 0 from by decide)) (fun _ => ?_)
            refine lv_iload hx hb d_O_faults_125 (lv_at hl 7 rfl) ?_
            refine lv_iconst (v := nI 1) hx hb d_O_faults_127 (by decide) ?_
            refine lv_iadd hx hb d_O_faults_128 ?_
            refine lv_topi (nm_r (show _ = nI (c6 + 1) from nI_add c6 1) ?_)
            refine lv_goto (tgt := 134) hx hb d_O_faults_129 (by decide) ?_
            refine lv_istore (lv' := [(6, .int (nI (c6 + 1))), (11, .int (nI 1)), (10, .int (nI 1)), (0, .ref o0), (1, .int (nI m)), (2, .int (nI k)), (3, .long (lN (sg p (fun t => fa p vr mk cc gc oc kd lf rg ol none t) m))), (5, .int (nI (2 * (cc + gc)))), (7, .int (nI c7)), (8, .int y8), (9, .int (nI K))]) hx hb d_O_faults_134 hl (by decide) rfl (fun ls hl => ?_)
            refine lv_iload hx hb d_O_faults_136 (lv_at hl 1 rfl) ?_
            refine lv_if_eq (tgt := 148) hx hb d_O_faults_138 (by decide) (fun hc => absurd hc (show ¬ nI 1 = 0 from by decide)) (fun _ => ?_)
            refine lv_iload hx hb d_O_faults_141 (lv_at hl 8 rfl) ?_
            refine lv_iconst (v := nI 1) hx hb d_O_faults_143 (by decide) ?_
            refine lv_iadd hx hb d_O_faults_144 ?_
            refine lv_topi (nm_r (show _ = nI (c7 + 1) from nI_add c7 1) ?_)
            refine lv_goto (tgt := 150) hx hb d_O_faults_145 (by decide) ?_
            refine lv_istore (lv' := [(7, .int (nI (c7 + 1))), (6, .int (nI (c6 + 1))), (11, .int (nI 1)), (10, .int (nI 1)), (0, .ref o0), (1, .int (nI m)), (2, .int (nI k)), (3, .long (lN (sg p (fun t => fa p vr mk cc gc oc kd lf rg ol none t) m))), (5, .int (nI (2 * (cc + gc)))), (8, .int y8), (9, .int (nI K))]) hx hb d_O_faults_150 hl (by decide) rfl (fun ls hl => ?_)
            refine lv_iload hx hb d_O_faults_152 (lv_at hl 3 rfl) ?_
            refine lv_if_eq (tgt := 167) hx hb d_O_faults_154 (by decide) (fun hc => absurd hc (show ¬ nI 1 = 0 from by decide)) (fun _ => ?_)
            refine lv_iload hx hb d_O_faults_157 (lv_at hl 2 rfl) ?_
            refine lv_if_ne (tgt := 167) hx hb d_O_faults_159 (by decide) (fun _ => ?_) (fun hc => absurd hc (show ¬ nI 1 = 0 from by decide))
            refine lv_iload hx hb d_O_faults_167 (lv_at hl 9 rfl) ?_
            refine lv_istore (lv' := [(8, .int y8), (7, .int (nI (c7 + 1))), (6, .int (nI (c6 + 1))), (11, .int (nI 1)), (10, .int (nI 1)), (0, .ref o0), (1, .int (nI m)), (2, .int (nI k)), (3, .long (lN (sg p (fun t => fa p vr mk cc gc oc kd lf rg ol none t) m))), (5, .int (nI (2 * (cc + gc)))), (9, .int (nI K))]) hx hb d_O_faults_169 hl (by decide) rfl (fun ls hl => ?_)
            refine lv_iinc (v := jm K) (lv' := [(9, .int (jm K)), (8, .int y8), (7, .int (nI (c7 + 1))), (6, .int (nI (c6 + 1))), (11, .int (nI 1)), (10, .int (nI 1)), (0, .ref o0), (1, .int (nI m)), (2, .int (nI k)), (3, .long (lN (sg p (fun t => fa p vr mk cc gc oc kd lf rg ol none t) m))), (5, .int (nI (2 * (cc + gc))))]) hx hb d_O_faults_171 hl (k := 10) rfl (jm_dec K) (by decide) rfl (fun ls hl => ?_)
            refine lv_goto (tgt := 74) hx hb d_O_faults_174 (by decide) ?_
            have hl := lv_sub (l' := [(0, .ref o0), (1, .int (nI m)), (2, .int (nI k)), (3, .long (lN (sg p (fun t => fa p vr mk cc gc oc kd lf rg ol none t) m))), (5, .int (nI (2 * (cc + gc)))), (6, .int (nI (c6 + 1))), (7, .int (nI (c7 + 1))), (8, .int y8), (9, .int (jm K))]) hl [6, 7, 8, 9, 10, 3, 2, 1, 0] rfl
            have hP := hP.sub (ws' := [(o0, .inr (4, [.int (nI 0), .long (lN p), .int (nI n), .long (lN vr), .int (nI ir), .long (lN od), .int (nI cc), .ref g1, .int (nI gc), .ref g2, .ref g3, .ref g4, .int (nI oc), .ref g5, .ref g6, .ref g7, .ref g8])), (g1, .inl (cL, 8, .inr (.inl (fun c => lN (mk c))))), (g2, .inl (cI, 24, .inl (fun c => nI (kd c)))), (g3, .inl (cI, 24, .inl (fun c => nI (lf c)))), (g4, .inl (cI, 24, .inl (fun c => nI (rg c)))), (g5, .inl (cI, 16, .inl (fun c => nI (ol c)))), (g6, .inl (cI, 32, .inl (fun c => nI (v2 c)))), (g7, .inl (cI, 256, .inl (fun c => nI ((u).2.1 c)))), (g8, .inl (cI, 256, .inl (fun c => nI ((u).2.2 c))))]) [2, 0, 3, 4, 5, 6, 7, 8, 1] rfl
            have hD := hD.sub (ws' := [(o0, .inr (4, [.int (nI 0), .long (lN p), .int (nI n), .long (lN vr), .int (nI ir), .long (lN od), .int (nI cc), .ref g1, .int (nI gc), .ref g2, .ref g3, .ref g4, .int (nI oc), .ref g5, .ref g6, .ref g7, .ref g8])), (g1, .inl (cL, 8, .inr (.inl (fun c => lN (mk c))))), (g2, .inl (cI, 24, .inl (fun c => nI (kd c)))), (g3, .inl (cI, 24, .inl (fun c => nI (lf c)))), (g4, .inl (cI, 24, .inl (fun c => nI (rg c)))), (g5, .inl (cI, 16, .inl (fun c => nI (ol c)))), (g6, .inl (cI, 32, .inl (fun c => nI (v2 c)))), (g7, .inl (cI, 256, .inl (fun c => nI ((u).2.1 c)))), (g8, .inl (cI, 256, .inl (fun c => nI ((u).2.2 c))))]) [2, 0, 3, 4, 5, 6, 7, 8, 1] (by decide) rfl
            exact ih (c6 + 1) (c7 + 1) y8 v2 (by omega) (by rw [if_pos hsB] at hc6; omega) (by rw [if_pos hfB] at hc7; omega) (lw_no h8 (fun z => z.2 hfB)) H locs hP hD hS ls hl
        · have hsB : ¬ (fsB (fun f j => fa p vr mk cc gc oc kd lf rg ol (some f) j) (fun j => fa p vr mk cc gc oc kd lf rg ol none j) m) K = true := fun z => by
            obtain ⟨j, hj, hne⟩ := fsB_iff.mp z
            exact hne (hsame j hj)
          have hfB : ¬ (ffB p (fun f j => fa p vr mk cc gc oc kd lf rg ol (some f) j) (fun j => fa p vr mk cc gc oc kd lf rg ol none j) m) K = true := fun z => ffB_iff.mp z (sg_zero hm m (fun j hj => by rw [hsame j hj, Nat.xor_self]))
          refine lv_if_lt (tgt := 93) hx hb d_O_faults_86 (by decide) (fun _ => ?_) (fun hc => absurd hc (show ¬ ¬ (-1 : Int32) < 0 from by decide))
          refine lv_iconst (v := nI 0) hx hb d_O_faults_93 (by decide) ?_
          refine lv_istore (lv' := [(10, .int (nI 0)), (0, .ref o0), (1, .int (nI m)), (2, .int (nI k)), (3, .long (lN (sg p (fun t => fa p vr mk cc gc oc kd lf rg ol none t) m))), (5, .int (nI (2 * (cc + gc)))), (6, .int (nI c6)), (7, .int (nI c7)), (8, .int y8), (9, .int (nI K))]) hx hb d_O_faults_94 hl (by decide) rfl (fun ls hl => ?_)
          refine lv_iload hx hb d_O_faults_96 (lv_at hl 0 rfl) ?_
          refine lv_if_eq (tgt := 117) hx hb d_O_faults_98 (by decide) (fun _ => ?_) (fun hc => absurd hc (fun z => z rfl))
          refine lv_iconst (v := nI 0) hx hb d_O_faults_117 (by decide) ?_
          refine lv_istore (lv' := [(11, .int (nI 0)), (10, .int (nI 0)), (0, .ref o0), (1, .int (nI m)), (2, .int (nI k)), (3, .long (lN (sg p (fun t => fa p vr mk cc gc oc kd lf rg ol none t) m))), (5, .int (nI (2 * (cc + gc)))), (6, .int (nI c6)), (7, .int (nI c7)), (8, .int y8), (9, .int (nI K))]) hx hb d_O_faults_118 hl (by decide) rfl (fun ls hl => ?_)
          refine lv_iload hx hb d_O_faults_120 (lv_at hl 1 rfl) ?_
          refine lv_if_eq (tgt := 132) hx hb d_O_faults_122 (by decide) (fun _ => ?_) (fun hc => absurd hc (fun z => z rfl))
          refine lv_iload hx hb d_O_faults_132 (lv_at hl 7 rfl) ?_
          refine lv_istore (lv' := [(6, .int (nI c6)), (11, .int (nI 0)), (10, .int (nI 0)), (0, .ref o0), (1, .int (nI m)), (2, .int (nI k)), (3, .long (lN (sg p (fun t => fa p vr mk cc gc oc kd lf rg ol none t) m))), (5, .int (nI (2 * (cc + gc)))), (7, .int (nI c7)), (8, .int y8), (9, .int (nI K))]) hx hb d_O_faults_134 hl (by decide) rfl (fun ls hl => ?_)
          refine lv_iload hx hb d_O_faults_136 (lv_at hl 1 rfl) ?_
          refine lv_if_eq (tgt := 148) hx hb d_O_faults_138 (by decide) (fun _ => ?_) (fun hc => absurd hc (fun z => z rfl))
          refine lv_iload hx hb d_O_faults_148 (lv_at hl 8 rfl) ?_
          refine lv_istore (lv' := [(7, .int (nI c7)), (6, .int (nI c6)), (11, .int (nI 0)), (10, .int (nI 0)), (0, .ref o0), (1, .int (nI m)), (2, .int (nI k)), (3, .long (lN (sg p (fun t => fa p vr mk cc gc oc kd lf rg ol none t) m))), (5, .int (nI (2 * (cc + gc)))), (8, .int y8), (9, .int (nI K))]) hx hb d_O_faults_150 hl (by decide) rfl (fun ls hl => ?_)
          refine lv_iload hx hb d_O_faults_152 (lv_at hl 3 rfl) ?_
          refine lv_if_eq (tgt := 167) hx hb d_O_faults_154 (by decide) (fun _ => ?_) (fun hc => absurd hc (fun z => z rfl))
          refine lv_iload hx hb d_O_faults_167 (lv_at hl 9 rfl) ?_
          refine lv_istore (lv' := [(8, .int y8), (7, .int (nI c7)), (6, .int (nI c6)), (11, .int (nI 0)), (10, .int (nI 0)), (0, .ref o0), (1, .int (nI m)), (2, .int (nI k)), (3, .long (lN (sg p (fun t => fa p vr mk cc gc oc kd lf rg ol none t) m))), (5, .int (nI (2 * (cc + gc)))), (9, .int (nI K))]) hx hb d_O_faults_169 hl (by decide) rfl (fun ls hl => ?_)
          refine lv_iinc (v := jm K) (lv' := [(9, .int (jm K)), (8, .int y8), (7, .int (nI c7)), (6, .int (nI c6)), (11, .int (nI 0)), (10, .int (nI 0)), (0, .ref o0), (1, .int (nI m)), (2, .int (nI k)), (3, .long (lN (sg p (fun t => fa p vr mk cc gc oc kd lf rg ol none t) m))), (5, .int (nI (2 * (cc + gc))))]) hx hb d_O_faults_171 hl (k := 10) rfl (jm_dec K) (by decide) rfl (fun ls hl => ?_)
          refine lv_goto (tgt := 74) hx hb d_O_faults_174 (by decide) ?_
          have hl := lv_sub (l' := [(0, .ref o0), (1, .int (nI m)), (2, .int (nI k)), (3, .long (lN (sg p (fun t => fa p vr mk cc gc oc kd lf rg ol none t) m))), (5, .int (nI (2 * (cc + gc)))), (6, .int (nI c6)), (7, .int (nI c7)), (8, .int y8), (9, .int (jm K))]) hl [6, 7, 8, 9, 10, 3, 2, 1, 0] rfl
          have hP := hP.sub (ws' := [(o0, .inr (4, [.int (nI 0), .long (lN p), .int (nI n), .long (lN vr), .int (nI ir), .long (lN od), .int (nI cc), .ref g1, .int (nI gc), .ref g2, .ref g3, .ref g4, .int (nI oc), .ref g5, .ref g6, .ref g7, .ref g8])), (g1, .inl (cL, 8, .inr (.inl (fun c => lN (mk c))))), (g2, .inl (cI, 24, .inl (fun c => nI (kd c)))), (g3, .inl (cI, 24, .inl (fun c => nI (lf c)))), (g4, .inl (cI, 24, .inl (fun c => nI (rg c)))), (g5, .inl (cI, 16, .inl (fun c => nI (ol c)))), (g6, .inl (cI, 32, .inl (fun c => nI (v1 c)))), (g7, .inl (cI, 256, .inl (fun c => nI ((u).2.1 c)))), (g8, .inl (cI, 256, .inl (fun c => nI ((u).2.2 c))))]) [1, 0, 2, 3, 4, 5, 6, 7, 8] rfl
          have hD := hD.sub (ws' := [(o0, .inr (4, [.int (nI 0), .long (lN p), .int (nI n), .long (lN vr), .int (nI ir), .long (lN od), .int (nI cc), .ref g1, .int (nI gc), .ref g2, .ref g3, .ref g4, .int (nI oc), .ref g5, .ref g6, .ref g7, .ref g8])), (g1, .inl (cL, 8, .inr (.inl (fun c => lN (mk c))))), (g2, .inl (cI, 24, .inl (fun c => nI (kd c)))), (g3, .inl (cI, 24, .inl (fun c => nI (lf c)))), (g4, .inl (cI, 24, .inl (fun c => nI (rg c)))), (g5, .inl (cI, 16, .inl (fun c => nI (ol c)))), (g6, .inl (cI, 32, .inl (fun c => nI (v1 c)))), (g7, .inl (cI, 256, .inl (fun c => nI ((u).2.1 c)))), (g8, .inl (cI, 256, .inl (fun c => nI ((u).2.2 c))))]) [1, 0, 2, 3, 4, 5, 6, 7, 8] (by decide) rfl
          exact ih (c6) (c7) y8 v1 (by omega) (by rw [if_neg hsB] at hc6; omega) (by rw [if_neg hfB] at hc7; omega) (lw_no h8 (fun z => hsB z.1)) H locs hP hD hS ls hl
  have hl := lv_sub (l' := [(0, .ref o0), (1, .int (nI m)), (2, .int (nI k)), (3, .long (lN (sg p (fun t => fa p vr mk cc gc oc kd lf rg ol none t) m))), (5, .int (nI (2 * (cc + gc)))), (6, .int (nI 0)), (7, .int (nI 0)), (8, .int (-1)), (9, .int (jm (2 * (cc + gc))))]) hl [6, 7, 8, 5, 4, 3, 2, 1, 0] rfl
  exact loop (2 * (cc + gc)) 0 0 (-1) v0 (Nat.le_refl _) (Nat.zero_add _) (Nat.zero_add _) lw_0 H locs hP hD hS ls hl
set_option maxHeartbeats 4000000 in
set_option maxRecDepth 100000 in
theorem c_O_faultsA (l : Launch) (dC : Nat → ClassId) (dI : Nat → Nat → Nat) (cI cL : ClassId) (sz : Nat) (o0 g1 g2 g3 g4 g5 g6 g7 g8 : Nat) (fl p n vr ir od cc gc oc : Nat) (y1 y2 : Int32) (hy : y2 < 0 ∨ ¬ y2 ≤ nI 3) : Met l y_O_faults w_O_faults ({ frames := 1, cells := 0, slots := 0, locals := 21 } : Room) (va_Pc [.ref o0, .int y1, .int y2] (wq_W (dC, dI) classes [(o0, .inr (4, [.int (nI fl), .long (lN p), .int (nI n), .long (lN vr), .int (nI ir), .long (lN od), .int (nI cc), .ref g1, .int (nI gc), .ref g2, .ref g3, .ref g4, .int (nI oc), .ref g5, .ref g6, .ref g7, .ref g8]))] [(cI, .int), (cL, .long)] sz)) (va_Qi (fun (r : Int32) (u : Unit) => r = nI 0) (fun (u : Unit) t => wq_B (dC, dI) classes [(cI, .int), (cL, .long)] (va_A [(o0, .inr (4, [.int (nI fl), .long (lN p), .int (nI n), .long (lN vr), .int (nI ir), .long (lN od), .int (nI cc), .ref g1, .int (nI gc), .ref g2, .ref g3, .ref g4, .int (nI oc), .ref g5, .ref g6, .ref g7, .ref g8]))] sz) [(o0, .inr (4, [.int (nI 1), .long (lN p), .int (nI n), .long (lN vr), .int (nI ir), .long (lN od), .int (nI cc), .ref g1, .int (nI gc), .ref g2, .ref g3, .ref g4, .int (nI oc), .ref g5, .ref g6, .ref g7, .ref g8]))] t) (va_A [(o0, .inr (4, [.int (nI fl), .long (lN p), .int (nI n), .long (lN vr), .int (nI ir), .long (lN od), .int (nI cc), .ref g1, .int (nI gc), .ref g2, .ref g3, .ref g4, .int (nI oc), .ref g5, .ref g6, .ref g7, .ref g8]))] sz)) 0 0 (va_A [(o0, .inr (4, [.int (nI fl), .long (lN p), .int (nI n), .long (lN vr), .int (nI ir), .long (lN od), .int (nI cc), .ref g1, .int (nI gc), .ref g2, .ref g3, .ref g4, .int (nI oc), .ref g5, .ref g6, .ref g7, .ref g8]))] sz) := by
  refine Met.ofW (cc := b_O_faults) (maxL := 12) (ret := (Option.some Jvm.ClassFile.FieldType.int)) (by decide) rfl ?_
  intro pg en st mm ar bw me co s₁ B hml hv
  obtain ⟨rfl, hsz, hP, hK, hD0, hN⟩ := hv
  have hx := B.exec
  have hb := B.bytes
  have hr := B.returns
  have hlocks := B.notSynchronized
  have hts0 := atoms_spec (ws := w_O_faults) B.pre
  have hts : ∀ w ∈ gw, w.before _ st = true := fun w h => hts0 w (List.mem_cons_of_mem _ h)
  have hown : st.vm.findClass R_O = some mm.cls := findClass_of_methodNamed B.named
  subst hsz
  have hD := hD0.self (sz := st.heap.size)
  generalize hAe : va_A [(o0, .inr (4, [.int (nI fl), .long (lN p), .int (nI n), .long (lN vr), .int (nI ir), .long (lN od), .int (nI cc), .ref g1, .int (nI gc), .ref g2, .ref g3, .ref g4, .int (nI oc), .ref g5, .ref g6, .ref g7, .ref g8]))] st.heap.size = A at hD ⊢
  have hA : ∀ q : Nat, st.heap.size ≤ q → A q := fun q h => by rw [← hAe]; exact Or.inr h
  have hS : va_S A st.heap st.heap [] := va_S.rf
  have hl := lv_entry ([.ref o0, .int y1, .int y2]) (n := 12) (Nat.le_of_ble_eq_true rfl)
  rw [lg_entry_eq]
  generalize (lg_sl ([.ref o0, .int y1, .int y2]) ++ List.replicate (12 - (lg_sl ([.ref o0, .int y1, .int y2])).length) Slot.unset).toArray = ls at hl ⊢
  have hl : lv_has ls 12 [(0, .ref o0), (1, .int y1), (2, .int y2)] := hl
  refine lv_aload_n hx hb d_O_faults_0 rfl (lv_at hl 0 rfl) ?_
  refine lv_iload_n hx hb d_O_faults_1 rfl (lv_at hl 2 rfl) ?_
  refine lv_if_lt (tgt := 10) hx hb d_O_faults_2 (by decide) (fun hn => ?_) (fun hn => ?_)
  · refine lv_iconst (v := nI 1) hx hb d_O_faults_10 (by decide) ?_
    refine lv_goto (tgt := 26) hx hb d_O_faults_11 (by decide) ?_
    refine wq_i (wr := []) (va_runV (As := [.int (nI 1)]) (rest := []) ⟨hx, hb, hml, hown, hts⟩ (c_O_refusedK l dC dI cI cL st.heap.size o0 g1 g2 g3 g4 g5 g6 g7 g8 fl p n vr ir od cc gc oc 1 (by decide) (by decide)) (cwV 1 hts (gi_V kw_588 kw_590 ks_O_refused kw_5 gi_O_refused) rfl rfl rfl ⟨rfl, by decide, by decide, by decide⟩ ⟨Nat.le_of_ble_eq_true rfl, Nat.le_of_ble_eq_true rfl⟩) (wq_preVW hP hD hK hN [0] rfl rfl (q0 := 0) (ci := 4) rfl rfl rfl) rfl rfl hl.1 rfl (lv_room (Nat.le_of_ble_eq_true rfl)) d_O_faults_26 ⟨Nat.le_of_ble_eq_true rfl, Nat.le_of_ble_eq_true rfl⟩) hP hD hS hA [0] [] rfl rfl rfl (by decide) (fun r u H locs hq hP hD hS hz => ?_)
    have hP : va_P (dC, dI) classes [(o0, .inr (4, [.int (nI 1), .long (lN p), .int (nI n), .long (lN vr), .int (nI ir), .long (lN od), .int (nI cc), .ref g1, .int (nI gc), .ref g2, .ref g3, .ref g4, .int (nI oc), .ref g5, .ref g6, .ref g7, .ref g8]))] H := hP
    have hD : va_D A [(o0, .inr (4, [.int (nI 1), .long (lN p), .int (nI n), .long (lN vr), .int (nI ir), .long (lN od), .int (nI cc), .ref g1, .int (nI gc), .ref g2, .ref g3, .ref g4, .int (nI oc), .ref g5, .ref g6, .ref g7, .ref g8]))] := hD
    subst hq
    refine lv_if_eq (tgt := 34) hx hb d_O_faults_29 (by decide) (fun hc => absurd hc (show ¬ (1 : Int32) = 0 from by decide)) (fun _ => ?_)
    refine lv_iconst (v := nI 0) hx hb d_O_faults_32 (by decide) ?_
    have hP := hP.sub (ws' := [(o0, .inr (4, [.int (nI 1), .long (lN p), .int (nI n), .long (lN vr), .int (nI ir), .long (lN od), .int (nI cc), .ref g1, .int (nI gc), .ref g2, .ref g3, .ref g4, .int (nI oc), .ref g5, .ref g6, .ref g7, .ref g8]))]) [0] rfl
    have hD := hD.sub (ws' := [(o0, .inr (4, [.int (nI 1), .long (lN p), .int (nI n), .long (lN vr), .int (nI ir), .long (lN od), .int (nI cc), .ref g1, .int (nI gc), .ref g2, .ref g3, .ref g4, .int (nI oc), .ref g5, .ref g6, .ref g7, .ref g8]))]) [0] (by decide) rfl
    exact W.iret (v := nI 0) hx hb hr (fun t9 ht hW => ⟨⟨nI 0, (), rfl, rfl, by rw [ht]; exact hP, va_K.moved hW.alike hK, hD⟩, hS.F ht⟩) hS.2.2 d_O_faults_33
  · refine lv_iload_n hx hb d_O_faults_5 rfl (lv_at hl 2 rfl) ?_
    refine lv_iconst (v := nI 3) hx hb d_O_faults_6 (by decide) ?_
    refine lv_icmp_le (tgt := 14) hx hb d_O_faults_7 (by decide) (fun hc => absurd hc (fun z => hy.elim hn (fun q => q z))) (fun _ => ?_)
    refine lv_iconst (v := nI 1) hx hb d_O_faults_10 (by decide) ?_
    refine lv_goto (tgt := 26) hx hb d_O_faults_11 (by decide) ?_
    refine wq_i (wr := []) (va_runV (As := [.int (nI 1)]) (rest := []) ⟨hx, hb, hml, hown, hts⟩ (c_O_refusedK l dC dI cI cL st.heap.size o0 g1 g2 g3 g4 g5 g6 g7 g8 fl p n vr ir od cc gc oc 1 (by decide) (by decide)) (cwV 1 hts (gi_V kw_588 kw_590 ks_O_refused kw_5 gi_O_refused) rfl rfl rfl ⟨rfl, by decide, by decide, by decide⟩ ⟨Nat.le_of_ble_eq_true rfl, Nat.le_of_ble_eq_true rfl⟩) (wq_preVW hP hD hK hN [0] rfl rfl (q0 := 0) (ci := 4) rfl rfl rfl) rfl rfl hl.1 rfl (lv_room (Nat.le_of_ble_eq_true rfl)) d_O_faults_26 ⟨Nat.le_of_ble_eq_true rfl, Nat.le_of_ble_eq_true rfl⟩) hP hD hS hA [0] [] rfl rfl rfl (by decide) (fun r u H locs hq hP hD hS hz => ?_)
    have hP : va_P (dC, dI) classes [(o0, .inr (4, [.int (nI 1), .long (lN p), .int (nI n), .long (lN vr), .int (nI ir), .long (lN od), .int (nI cc), .ref g1, .int (nI gc), .ref g2, .ref g3, .ref g4, .int (nI oc), .ref g5, .ref g6, .ref g7, .ref g8]))] H := hP
    have hD : va_D A [(o0, .inr (4, [.int (nI 1), .long (lN p), .int (nI n), .long (lN vr), .int (nI ir), .long (lN od), .int (nI cc), .ref g1, .int (nI gc), .ref g2, .ref g3, .ref g4, .int (nI oc), .ref g5, .ref g6, .ref g7, .ref g8]))] := hD
    subst hq
    refine lv_if_eq (tgt := 34) hx hb d_O_faults_29 (by decide) (fun hc => absurd hc (show ¬ (1 : Int32) = 0 from by decide)) (fun _ => ?_)
    refine lv_iconst (v := nI 0) hx hb d_O_faults_32 (by decide) ?_
    have hP := hP.sub (ws' := [(o0, .inr (4, [.int (nI 1), .long (lN p), .int (nI n), .long (lN vr), .int (nI ir), .long (lN od), .int (nI cc), .ref g1, .int (nI gc), .ref g2, .ref g3, .ref g4, .int (nI oc), .ref g5, .ref g6, .ref g7, .ref g8]))]) [0] rfl
    have hD := hD.sub (ws' := [(o0, .inr (4, [.int (nI 1), .long (lN p), .int (nI n), .long (lN vr), .int (nI ir), .long (lN od), .int (nI cc), .ref g1, .int (nI gc), .ref g2, .ref g3, .ref g4, .int (nI oc), .ref g5, .ref g6, .ref g7, .ref g8]))]) [0] (by decide) rfl
    exact W.iret (v := nI 0) hx hb hr (fun t9 ht hW => ⟨⟨nI 0, (), rfl, rfl, by rw [ht]; exact hP, va_K.moved hW.alike hK, hD⟩, hS.F ht⟩) hS.2.2 d_O_faults_33
set_option maxHeartbeats 4000000 in
set_option maxRecDepth 100000 in
theorem c_O_faultsB (l : Launch) (dC : Nat → ClassId) (dI : Nat → Nat → Nat) (cI cL : ClassId) (sz : Nat) (o0 g1 g2 g3 g4 g5 g6 g7 g8 : Nat) (fl p n vr ir od cc gc oc : Nat) (y1 : Int32) (hy : (y1 < 0 ∨ ¬ y1 ≤ nI 256)) (k : Nat) (hk3 : k ≤ 3) : Met l y_O_faults w_O_faults ({ frames := 1, cells := 0, slots := 0, locals := 21 } : Room) (va_Pc [.ref o0, .int y1, .int (nI k)] (wq_W (dC, dI) classes [(o0, .inr (4, [.int (nI fl), .long (lN p), .int (nI n), .long (lN vr), .int (nI ir), .long (lN od), .int (nI cc), .ref g1, .int (nI gc), .ref g2, .ref g3, .ref g4, .int (nI oc), .ref g5, .ref g6, .ref g7, .ref g8]))] [(cI, .int), (cL, .long)] sz)) (va_Qi (fun (r : Int32) (u : Unit) => r = nI 0) (fun (u : Unit) t => wq_B (dC, dI) classes [(cI, .int), (cL, .long)] (va_A [(o0, .inr (4, [.int (nI fl), .long (lN p), .int (nI n), .long (lN vr), .int (nI ir), .long (lN od), .int (nI cc), .ref g1, .int (nI gc), .ref g2, .ref g3, .ref g4, .int (nI oc), .ref g5, .ref g6, .ref g7, .ref g8]))] sz) [(o0, .inr (4, [.int (nI 2), .long (lN p), .int (nI n), .long (lN vr), .int (nI ir), .long (lN od), .int (nI cc), .ref g1, .int (nI gc), .ref g2, .ref g3, .ref g4, .int (nI oc), .ref g5, .ref g6, .ref g7, .ref g8]))] t) (va_A [(o0, .inr (4, [.int (nI fl), .long (lN p), .int (nI n), .long (lN vr), .int (nI ir), .long (lN od), .int (nI cc), .ref g1, .int (nI gc), .ref g2, .ref g3, .ref g4, .int (nI oc), .ref g5, .ref g6, .ref g7, .ref g8]))] sz)) 0 0 (va_A [(o0, .inr (4, [.int (nI fl), .long (lN p), .int (nI n), .long (lN vr), .int (nI ir), .long (lN od), .int (nI cc), .ref g1, .int (nI gc), .ref g2, .ref g3, .ref g4, .int (nI oc), .ref g5, .ref g6, .ref g7, .ref g8]))] sz) := by
  refine Met.ofW (cc := b_O_faults) (maxL := 12) (ret := (Option.some Jvm.ClassFile.FieldType.int)) (by decide) rfl ?_
  intro pg en st mm ar bw me co s₁ B hml hv
  obtain ⟨rfl, hsz, hP, hK, hD0, hN⟩ := hv
  have hx := B.exec
  have hb := B.bytes
  have hr := B.returns
  have hlocks := B.notSynchronized
  have hts0 := atoms_spec (ws := w_O_faults) B.pre
  have hts : ∀ w ∈ gw, w.before _ st = true := fun w h => hts0 w (List.mem_cons_of_mem _ h)
  have hown : st.vm.findClass R_O = some mm.cls := findClass_of_methodNamed B.named
  subst hsz
  have hD := hD0.self (sz := st.heap.size)
  generalize hAe : va_A [(o0, .inr (4, [.int (nI fl), .long (lN p), .int (nI n), .long (lN vr), .int (nI ir), .long (lN od), .int (nI cc), .ref g1, .int (nI gc), .ref g2, .ref g3, .ref g4, .int (nI oc), .ref g5, .ref g6, .ref g7, .ref g8]))] st.heap.size = A at hD ⊢
  have hA : ∀ q : Nat, st.heap.size ≤ q → A q := fun q h => by rw [← hAe]; exact Or.inr h
  have hS : va_S A st.heap st.heap [] := va_S.rf
  have hl := lv_entry ([.ref o0, .int y1, .int (nI k)]) (n := 12) (Nat.le_of_ble_eq_true rfl)
  rw [lg_entry_eq]
  generalize (lg_sl ([.ref o0, .int y1, .int (nI k)]) ++ List.replicate (12 - (lg_sl ([.ref o0, .int y1, .int (nI k)])).length) Slot.unset).toArray = ls at hl ⊢
  have hl : lv_has ls 12 [(0, .ref o0), (1, .int y1), (2, .int (nI k))] := hl
  refine lv_aload_n hx hb d_O_faults_0 rfl (lv_at hl 0 rfl) ?_
  refine lv_iload_n hx hb d_O_faults_1 rfl (lv_at hl 2 rfl) ?_
  refine lv_if_lt (tgt := 10) hx hb d_O_faults_2 (by decide) (fun hc => absurd hc (nI_nn (by omega))) (fun _ => ?_)
  refine lv_iload_n hx hb d_O_faults_5 rfl (lv_at hl 2 rfl) ?_
  refine lv_iconst (v := nI 3) hx hb d_O_faults_6 (by decide) ?_
  refine lv_icmp_le (tgt := 14) hx hb d_O_faults_7 (by decide) (fun _ => ?_) (fun hc => absurd hc (fun z => z ((nI_leI (by omega) (by decide)).mpr hk3)))
  refine lv_iload_n hx hb d_O_faults_14 rfl (lv_at hl 1 rfl) ?_
  refine vp_callSi (va_Run.run (va_runS (As := [.int y1]) (rest := [.ref o0]) ⟨hx, hb, hml, hown, hts⟩ (c_O_isCount l y1) (va_cwS 1 hts (gi_S kw_700 kw_701 kw_5 gi_O_isCount) rfl rfl rfl ⟨by decide, by decide, by decide⟩ ⟨Nat.le_of_ble_eq_true rfl, Nat.le_of_ble_eq_true rfl⟩) wq_preS0 rfl rfl hl.1 rfl (lv_room (Nat.le_of_ble_eq_true rfl)) d_O_faults_15 ⟨Nat.le_of_ble_eq_true rfl, Nat.le_of_ble_eq_true rfl⟩)) (fun r6 hq6 => ?_)
  have hq6 : r6 = 0 := by
    rcases hq6 with ⟨-, e9⟩ | ⟨e9, -⟩
    · exact absurd hy e9
    · exact e9
  subst hq6
  refine lv_if_ne (tgt := 25) hx hb d_O_faults_18 (by decide) (fun hc => absurd hc (fun z => z rfl)) (fun _ => ?_)
  refine lv_iconst (v := nI 2) hx hb d_O_faults_21 (by decide) ?_
  refine lv_goto (tgt := 26) hx hb d_O_faults_22 (by decide) ?_
  refine wq_i (wr := []) (va_runV (As := [.int (nI 2)]) (rest := []) ⟨hx, hb, hml, hown, hts⟩ (c_O_refusedK l dC dI cI cL st.heap.size o0 g1 g2 g3 g4 g5 g6 g7 g8 fl p n vr ir od cc gc oc 2 (by decide) (by decide)) (cwV 1 hts (gi_V kw_588 kw_590 ks_O_refused kw_5 gi_O_refused) rfl rfl rfl ⟨rfl, by decide, by decide, by decide⟩ ⟨Nat.le_of_ble_eq_true rfl, Nat.le_of_ble_eq_true rfl⟩) (wq_preVW hP hD hK hN [0] rfl rfl (q0 := 0) (ci := 4) rfl rfl rfl) rfl rfl hl.1 rfl (lv_room (Nat.le_of_ble_eq_true rfl)) d_O_faults_26 ⟨Nat.le_of_ble_eq_true rfl, Nat.le_of_ble_eq_true rfl⟩) hP hD hS hA [0] [] rfl rfl rfl (by decide) (fun r u H locs hq hP hD hS hz => ?_)
  have hP : va_P (dC, dI) classes [(o0, .inr (4, [.int (nI 2), .long (lN p), .int (nI n), .long (lN vr), .int (nI ir), .long (lN od), .int (nI cc), .ref g1, .int (nI gc), .ref g2, .ref g3, .ref g4, .int (nI oc), .ref g5, .ref g6, .ref g7, .ref g8]))] H := hP
  have hD : va_D A [(o0, .inr (4, [.int (nI 2), .long (lN p), .int (nI n), .long (lN vr), .int (nI ir), .long (lN od), .int (nI cc), .ref g1, .int (nI gc), .ref g2, .ref g3, .ref g4, .int (nI oc), .ref g5, .ref g6, .ref g7, .ref g8]))] := hD
  subst hq
  refine lv_if_eq (tgt := 34) hx hb d_O_faults_29 (by decide) (fun hc => absurd hc (show ¬ (1 : Int32) = 0 from by decide)) (fun _ => ?_)
  refine lv_iconst (v := nI 0) hx hb d_O_faults_32 (by decide) ?_
  have hP := hP.sub (ws' := [(o0, .inr (4, [.int (nI 2), .long (lN p), .int (nI n), .long (lN vr), .int (nI ir), .long (lN od), .int (nI cc), .ref g1, .int (nI gc), .ref g2, .ref g3, .ref g4, .int (nI oc), .ref g5, .ref g6, .ref g7, .ref g8]))]) [0] rfl
  have hD := hD.sub (ws' := [(o0, .inr (4, [.int (nI 2), .long (lN p), .int (nI n), .long (lN vr), .int (nI ir), .long (lN od), .int (nI cc), .ref g1, .int (nI gc), .ref g2, .ref g3, .ref g4, .int (nI oc), .ref g5, .ref g6, .ref g7, .ref g8]))]) [0] (by decide) rfl
  exact W.iret (v := nI 0) hx hb hr (fun t9 ht hW => ⟨⟨nI 0, (), rfl, rfl, by rw [ht]; exact hP, va_K.moved hW.alike hK, hD⟩, hS.F ht⟩) hS.2.2 d_O_faults_33
