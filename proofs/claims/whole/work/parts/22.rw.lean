/-! words on nest mates: they hold at every state that a walk comes to -/
def nest_w (w : Cond) : Bool := match w with
  | .fieldLinkNest .. => true
  | .methodLinkNest .. => true
  | _ => false
theorem nest_warm {w : Cond} (h : nest_w w = true) {s U : State} (hW : s.WarmedH U.vm) (hZ : va_Nw w s) : va_Nw w U := by
  cases w <;> first | exact va_Nw.warmF hW hZ | exact va_Nw.warmM hW hZ | cases h
theorem nest_on {w : Cond} (h : nest_w w = true) : w.onTables = true := by
  cases w <;> first | rfl | cases h
theorem nw_nest : ∀ w ∈ nw_l, nest_w w = true := by decide +kernel
def nw_ok (U : State) : Prop := ∀ w ∈ nw_l, va_Nw w U
theorem nw_ok.warm {s U : State} (h : nw_ok s) (hW : s.WarmedH U.vm) : nw_ok U := fun w hw => nest_warm (nw_nest w hw) hW (h w hw)
theorem nw_ok.same {s U : State} (h : nw_ok s) (e : s.vm = U.vm) : nw_ok U := fun w hw => va_Nw.same (nest_on (nw_nest w hw)) e (h w hw)
theorem nw_use {w : Cond} {s : State} {args : Array Value} (h : nw_ok s) (hw : w ∈ nw_l) : w.before args s = true := va_Nw.use (nest_on (nw_nest w hw)) (h w hw)
/-! words of a call, by places in gw -/
theorem gi_S {own : String} {idx : Nat} {y : MethodName} {ws : List Cond} (h1 : Cond.methodLink own idx y ∈ gw) (h2 : Cond.static y ∈ gw) (h3 : Cond.initialized y.cls ∈ gw) (hg : GoodIn gw ws) : GoodIn gw (va_wsS own idx y ws) := by
  refine goodIn_app (fun w hw => ?_) hg
  simp only [List.mem_cons, List.not_mem_nil, or_false] at hw
  rcases hw with rfl | rfl | rfl
  · exact ⟨h1, good_of_word (List.mem_filter.mp h1).2⟩
  · exact ⟨h2, good_of_word (List.mem_filter.mp h2).2⟩
  · exact ⟨h3, good_of_word (List.mem_filter.mp h3).2⟩
theorem gi_V {own C : String} {idx : Nat} {y : MethodName} {ws : List Cond} (h1 : Cond.methodLink own idx y ∈ gw) (h2 : Cond.instanceMethod y ∈ gw) (h3 : Cond.selects C y y ∈ gw) (h4 : Cond.initialized C ∈ gw) (hg : GoodIn gw ws) : GoodIn gw (wsV own idx C y ws) := by
  refine goodIn_app (fun w hw => ?_) hg
  simp only [List.mem_cons, List.not_mem_nil, or_false] at hw
  rcases hw with rfl | rfl | rfl | rfl
  · exact ⟨h1, good_of_word (List.mem_filter.mp h1).2⟩
  · exact ⟨h2, good_of_word (List.mem_filter.mp h2).2⟩
  · exact ⟨h3, good_of_word (List.mem_filter.mp h3).2⟩
  · exact ⟨h4, good_of_word (List.mem_filter.mp h4).2⟩
/-! calls of this claim: worlds that are only read (wq_R), worlds that are written (wq_W), and what comes back (wq_B) -/
def wq_R (D : va_G) (cl : List vw_C) (ws : va_W) (tys : List (ClassId × FieldType)) (U : State) : Prop := va_P D cl ws U.heap ∧ va_K D cl tys U ∧ nw_ok U
def wq_W (D : va_G) (cl : List vw_C) (ws : va_W) (tys : List (ClassId × FieldType)) (sz : Nat) (U : State) : Prop := U.heap.size = sz ∧ va_P D cl ws U.heap ∧ va_K D cl tys U ∧ va_D (fun _ => True) ws ∧ nw_ok U
def wq_B (D : va_G) (cl : List vw_C) (tys : List (ClassId × FieldType)) (A : Nat → Prop) (ws : va_W) (t : State) : Prop := va_P D cl ws t.heap ∧ va_K D cl tys t ∧ va_D A ws
theorem wq_blR {D : va_G} {cl : List vw_C} {ws : va_W} {tys : List (ClassId × FieldType)} {av : List Value} : FrameBlind (va_Pc av (wq_R D cl ws tys)) := fun a U g mk q => by
  obtain ⟨q0, qP, qK, qN⟩ := q
  exact ⟨q0, qP, va_K.moved (u := U) (U := U.calling g mk a) (Vm.Alike.refl U.vm) qK, qN.same (U := U.calling g mk a) rfl⟩
theorem wq_blW {D : va_G} {cl : List vw_C} {ws : va_W} {tys : List (ClassId × FieldType)} {sz : Nat} {av : List Value} : FrameBlind (va_Pc av (wq_W D cl ws tys sz)) := fun a U g mk q => by
  obtain ⟨q0, q1, qP, qK, qD, qN⟩ := q
  exact ⟨q0, q1, qP, va_K.moved (u := U) (U := U.calling g mk a) (Vm.Alike.refl U.vm) qK, qD, qN.same (U := U.calling g mk a) rfl⟩
theorem wq_blT {av : List Value} : FrameBlind (va_Pc av (fun _ => True)) := fun _ _ _ _ q => q
theorem wq_fm {ws wc : va_W} {is : List Nat} (hC : is.map (fun i => ws[i]?) = wc.map some) : is.filterMap (fun i => ws[i]?) = wc := by
  have h := congrArg (List.filterMap id) hC
  rw [List.filterMap_map, List.filterMap_map] at h
  simpa using h
section WQ
variable {s : State} {H : Heap} {D : va_G} {cl : List vw_C} {ws wc : va_W} {tys : List (ClassId × FieldType)} {A : Nat → Prop}
theorem wq_preS0 {As : List Value} : PreS s H (va_Pc As (fun _ => True)) As := ⟨wq_blT, fun _ _ _ => ⟨rfl, trivial⟩⟩
theorem wq_preSR {As : List Value} (hP : va_P D cl ws H) (hK : va_K D cl tys s) (hN : nw_ok s) (is : List Nat) (hC : is.map (fun i => ws[i]?) = wc.map some) : PreS s H (va_Pc As (wq_R D cl wc tys)) As :=
  ⟨wq_blR, fun U hU hW => ⟨rfl, by rw [hU]; exact hP.sub is (wq_fm hC), va_K.moved hW.alike hK, hN.warm hW⟩⟩
theorem wq_preVR {C : String} {b : Nat} {As : List Value} (hP : va_P D cl ws H) (hK : va_K D cl tys s) (hN : nw_ok s) (is : List Nat) (hC : is.map (fun i => ws[i]?) = wc.map some) {q0 ci : Nat} {q : vw_C} {fs : List Value} (hc : cl[ci]? = some q) (he : ws[q0]? = some (b, .inr (ci, fs))) (hn : q.1 = C) : PreV s H C b (va_Pc (.ref b :: As) (wq_R D cl wc tys)) As :=
  ⟨wq_blR, by subst hn; exact va_recv hK hP hc he, fun U hU hW => ⟨rfl, by rw [hU]; exact hP.sub is (wq_fm hC), va_K.moved hW.alike hK, hN.warm hW⟩⟩
theorem wq_preSW {As : List Value} (hP : va_P D cl ws H) (hD : va_D A ws) (hK : va_K D cl tys s) (hN : nw_ok s) (is : List Nat) (hnd : va_nd is = true) (hC : is.map (fun i => ws[i]?) = wc.map some) : PreS s H (va_Pc As (wq_W D cl wc tys H.size)) As :=
  ⟨wq_blW, fun U hU hW => ⟨rfl, by rw [hU], by rw [hU]; exact hP.sub is (wq_fm hC), va_K.moved hW.alike hK, (hD.sub is hnd hC).weaken (fun _ _ _ _ => trivial), hN.warm hW⟩⟩
theorem wq_preVW {C : String} {b : Nat} {As : List Value} (hP : va_P D cl ws H) (hD : va_D A ws) (hK : va_K D cl tys s) (hN : nw_ok s) (is : List Nat) (hnd : va_nd is = true) (hC : is.map (fun i => ws[i]?) = wc.map some) {q0 ci : Nat} {q : vw_C} {fs : List Value} (hc : cl[ci]? = some q) (he : ws[q0]? = some (b, .inr (ci, fs))) (hn : q.1 = C) : PreV s H C b (va_Pc (.ref b :: As) (wq_W D cl wc tys H.size)) As :=
  ⟨wq_blW, by subst hn; exact va_recv hK hP hc he, fun U hU hW => ⟨rfl, by rw [hU], by rw [hU]; exact hP.sub is (wq_fm hC), va_K.moved hW.alike hK, (hD.sub is hnd hC).weaken (fun _ _ _ _ => trivial), hN.warm hW⟩⟩
end WQ
section WC
variable {p : Program} {l : Launch} {e : Env} {R : Room} {s : State} {m : MethodId} {args : Array Value} {below : List Frame} {meth : Method} {c : Code} {H H0 : Heap} {locs : List Loc} {cells slots mc ms pc : Nat} {Q : State → Prop}
variable {ls : Array Slot} {rest st0 : List Value} {D : va_G} {cl : List vw_C} {A : Nat → Prop} {tys : List (ClassId × FieldType)} {ws wc wr : va_W}
theorem wq_i {S : Type} {post : Int32 → S → Prop} {w1 : S → va_W} {a : Array Value}
    (hr : va_Run p l e R s m args below meth c H locs cells slots mc ms (F0 m pc ls st0) rest (va_Qi post (fun u t => wq_B D cl tys (va_A wc H.size) (w1 u) t) (va_A wc H.size) a) (va_A wc H.size))
    (hP : va_P D cl ws H) (hD : va_D A ws) (hS : va_S A H0 H locs) (hA : ∀ q, H0.size ≤ q → A q) (isC isR : List Nat) (hC : isC.map (fun i => ws[i]?) = wc.map some) (hR : isR.map (fun i => ws[i]?) = wr.map some) (hn : va_nd isR = true) (hdis : ∀ i ∈ isR, i ∉ isC)
    (kk : ∀ (r : Int32) (u : S) (H1 : Heap) (locs1 : List Loc), post r u → va_P D cl (wr ++ w1 u) H1 → va_D A (wr ++ w1 u) → va_S A H0 H1 locs1 → H.size ≤ H1.size → W p l e R s m args below meth c H1 locs1 (cells + mc) (slots + ms) Q (F0 m (pc + 3) ls (.int r :: rest))) : W p l e R s m args below meth c H locs cells slots Q (F0 m pc ls st0) := by
  have hFc := va_free (wc := wc) hD hS hA isC hC
  refine va_calli hr hS (fun q _ h => hFc q h) hFc (fun r u t H1 locs1 ht hvm hq hB hz hk hS => ?_)
  obtain ⟨hP1, hK1, hD1⟩ := hB
  rw [ht] at hP1
  obtain ⟨hP2, hD2⟩ := va_join hP hD isC isR hC hR hn hdis hk hFc hP1 hD1
  exact kk r u H1 locs1 hq hP2 hD2 hS hz
theorem wq_l {S : Type} {post : Int64 → S → Prop} {w1 : S → va_W} {a : Array Value}
    (hr : va_Run p l e R s m args below meth c H locs cells slots mc ms (F0 m pc ls st0) rest (va_Ql post (fun u t => wq_B D cl tys (va_A wc H.size) (w1 u) t) (va_A wc H.size) a) (va_A wc H.size))
    (hP : va_P D cl ws H) (hD : va_D A ws) (hS : va_S A H0 H locs) (hA : ∀ q, H0.size ≤ q → A q) (isC isR : List Nat) (hC : isC.map (fun i => ws[i]?) = wc.map some) (hR : isR.map (fun i => ws[i]?) = wr.map some) (hn : va_nd isR = true) (hdis : ∀ i ∈ isR, i ∉ isC)
    (kk : ∀ (r : Int64) (u : S) (H1 : Heap) (locs1 : List Loc), post r u → va_P D cl (wr ++ w1 u) H1 → va_D A (wr ++ w1 u) → va_S A H0 H1 locs1 → H.size ≤ H1.size → W p l e R s m args below meth c H1 locs1 (cells + mc) (slots + ms) Q (F0 m (pc + 3) ls (.long r :: rest))) : W p l e R s m args below meth c H locs cells slots Q (F0 m pc ls st0) := by
  have hFc := va_free (wc := wc) hD hS hA isC hC
  refine va_calll hr hS (fun q _ h => hFc q h) hFc (fun r u t H1 locs1 ht hvm hq hB hz hk hS => ?_)
  obtain ⟨hP1, hK1, hD1⟩ := hB
  rw [ht] at hP1
  obtain ⟨hP2, hD2⟩ := va_join hP hD isC isR hC hR hn hdis hk hFc hP1 hD1
  exact kk r u H1 locs1 hq hP2 hD2 hS hz
theorem wq_v {S : Type} {post : S → Prop} {w1 : S → va_W} {a : Array Value}
    (hr : va_Run p l e R s m args below meth c H locs cells slots mc ms (F0 m pc ls st0) rest (va_Qv post (fun u t => wq_B D cl tys (va_A wc H.size) (w1 u) t) (va_A wc H.size) a) (va_A wc H.size))
    (hP : va_P D cl ws H) (hD : va_D A ws) (hS : va_S A H0 H locs) (hA : ∀ q, H0.size ≤ q → A q) (isC isR : List Nat) (hC : isC.map (fun i => ws[i]?) = wc.map some) (hR : isR.map (fun i => ws[i]?) = wr.map some) (hn : va_nd isR = true) (hdis : ∀ i ∈ isR, i ∉ isC)
    (kk : ∀ (u : S) (H1 : Heap) (locs1 : List Loc), post u → va_P D cl (wr ++ w1 u) H1 → va_D A (wr ++ w1 u) → va_S A H0 H1 locs1 → H.size ≤ H1.size → W p l e R s m args below meth c H1 locs1 (cells + mc) (slots + ms) Q (F0 m (pc + 3) ls rest)) : W p l e R s m args below meth c H locs cells slots Q (F0 m pc ls st0) := by
  have hFc := va_free (wc := wc) hD hS hA isC hC
  refine va_callv hr hS (fun q _ h => hFc q h) hFc (fun u t H1 locs1 ht hvm hq hB hz hk hS => ?_)
  obtain ⟨hP1, hK1, hD1⟩ := hB
  rw [ht] at hP1
  obtain ⟨hP2, hD2⟩ := va_join hP hD isC isR hC hR hn hdis hk hFc hP1 hD1
  exact kk u H1 locs1 hq hP2 hD2 hS hz
end WC
