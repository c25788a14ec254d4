/-! methods that throw: what they take, and that nothing old is changed -/
def xw_l : List Cond := [.declares ⟨"java/lang/RuntimeException", "<init>", "(Ljava/lang/String;)V"⟩, .declares ⟨"java/lang/Exception", "<init>", "(Ljava/lang/String;)V"⟩, .declares ⟨"java/lang/Throwable", "<init>", "(Ljava/lang/String;)V"⟩, .castable "java/lang/IllegalArgumentException" "java/lang/IllegalArgumentException", .castable "java/lang/IllegalStateException" "java/lang/IllegalStateException", .castable "java/lang/IndexOutOfBoundsException" "java/lang/IndexOutOfBoundsException"]
def xw_w (w : Cond) : Bool := match w with
  | .declares .. => true
  | .castable .. => true
  | _ => false
theorem xw_warm {w : Cond} (h : xw_w w = true) {s U : State} (hW : s.WarmedH U.vm) (hZ : va_Nw w s) : va_Nw w U := by
  cases w <;> first | exact va_Nw.warmD hW hZ | exact va_Nw.warmC hW hZ | cases h
theorem xw_on {w : Cond} (h : xw_w w = true) : w.onTables = true := by
  cases w <;> first | rfl | cases h
theorem xw_all : ∀ w ∈ xw_l, xw_w w = true := by decide +kernel
def xs_l : List (Nat × String) := [(44, "the degree is not 1 .. 32, or bit 0 is not set"), (177, "no residue"), (179, "below 0"), (102, "there are 8 channels"), (108, "the kind is not 0 .. 5"), (186, "there is no such line"), (116, "there are 24 gates"), (125, "there are 16 outputs"), (188, "there is no such fault"), (181, "m is not 0 .. 256"), (146, "what is not 0 .. 3")]
theorem xs_44 : ((44, "the degree is not 1 .. 32, or bit 0 is not set") : Nat × String) ∈ xs_l := List.mem_of_getElem? (i := 0) rfl
theorem xs_177 : ((177, "no residue") : Nat × String) ∈ xs_l := List.mem_of_getElem? (i := 1) rfl
theorem xs_179 : ((179, "below 0") : Nat × String) ∈ xs_l := List.mem_of_getElem? (i := 2) rfl
theorem xs_102 : ((102, "there are 8 channels") : Nat × String) ∈ xs_l := List.mem_of_getElem? (i := 3) rfl
theorem xs_108 : ((108, "the kind is not 0 .. 5") : Nat × String) ∈ xs_l := List.mem_of_getElem? (i := 4) rfl
theorem xs_186 : ((186, "there is no such line") : Nat × String) ∈ xs_l := List.mem_of_getElem? (i := 5) rfl
theorem xs_116 : ((116, "there are 24 gates") : Nat × String) ∈ xs_l := List.mem_of_getElem? (i := 6) rfl
theorem xs_125 : ((125, "there are 16 outputs") : Nat × String) ∈ xs_l := List.mem_of_getElem? (i := 7) rfl
theorem xs_188 : ((188, "there is no such fault") : Nat × String) ∈ xs_l := List.mem_of_getElem? (i := 8) rfl
theorem xs_181 : ((181, "m is not 0 .. 256") : Nat × String) ∈ xs_l := List.mem_of_getElem? (i := 9) rfl
theorem xs_146 : ((146, "what is not 0 .. 3") : Nat × String) ∈ xs_l := List.mem_of_getElem? (i := 10) rfl
def xe_ok (U : State) : Prop := (∀ w ∈ xw_l, va_Nw w U) ∧ ∀ q ∈ xs_l, ∃ sa, vk_R "ShiftSignatures" q.1 q.2 sa U
theorem xe_ok.warm {s U : State} (h : xe_ok s) (hW : s.WarmedH U.vm) : xe_ok U := ⟨fun w hw => xw_warm (xw_all w hw) hW (h.1 w hw), fun q hq => by
  obtain ⟨sa, hs⟩ := h.2 q hq
  exact ⟨sa, hs.warm hW⟩⟩
theorem xe_ok.same {s U : State} (h : xe_ok s) (e : s.vm = U.vm) : xe_ok U := ⟨fun w hw => va_Nw.same (xw_on (xw_all w hw)) e (h.1 w hw), fun q hq => by
  obtain ⟨sa, hs⟩ := h.2 q hq
  exact ⟨sa, hs.same e.symm⟩⟩
def xz (sz : Nat) (U : State) (H : Heap) : Prop := vx_Zq Bundle.tN "UNASSIGNED_STACK" Bundle.steD (fun q => sz ≤ q) U H ∧ vx_Zq Bundle.tN "SUPPRESSED_SENTINEL" Bundle.listD (fun q => sz ≤ q) U H
theorem xz.moved {sz : Nat} {u U : State} {H : Heap} (hvm : u.vm.Alike U.vm) (h : xz sz u H) : xz sz U H := ⟨h.1.moved hvm, h.2.moved hvm⟩
theorem xz.narrow {sz sz' : Nat} {U : State} {H : Heap} (h : xz sz U H) (hs : sz ≤ sz') : xz sz' U H := ⟨h.1.narrow (fun _ z => Nat.le_trans hs z), h.2.narrow (fun _ z => Nat.le_trans hs z)⟩
theorem xz.kept {sz : Nat} {U : State} {H H1 : Heap} (h : xz sz U H) (hq : ∀ a : Nat, a < H.size → ¬ sz ≤ a → H1[a]? = H[a]?) : xz sz U H1 := ⟨h.1.kept hq, h.2.kept hq⟩
def wq_X (D : va_G) (cl : List vw_C) (ws : va_W) (tys : List (ClassId × FieldType)) (sz : Nat) (U : State) : Prop := U.heap.size = sz ∧ wq_R D cl ws tys U ∧ xe_ok U ∧ xz sz U U.heap
theorem wq_blX {D : va_G} {cl : List vw_C} {ws : va_W} {tys : List (ClassId × FieldType)} {sz : Nat} {av : List Value} : FrameBlind (va_Pc av (wq_X D cl ws tys sz)) := fun a U g mk q => by
  obtain ⟨q0, q1, ⟨qP, qK, qN⟩, qE, qZ⟩ := q
  exact ⟨q0, q1, ⟨qP, va_K.moved (u := U) (U := U.calling g mk a) (Vm.Alike.refl U.vm) qK, qN.same (U := U.calling g mk a) rfl⟩, qE.same (U := U.calling g mk a) rfl, qZ.moved (u := U) (U := U.calling g mk a) (Vm.Alike.refl U.vm)⟩
theorem wq_preVX {s : State} {H : Heap} {D : va_G} {cl : List vw_C} {ws wc : va_W} {tys : List (ClassId × FieldType)} {C : String} {b : Nat} {As : List Value} (hP : va_P D cl ws H) (hK : va_K D cl tys s) (hN : nw_ok s) (hE : xe_ok s) (hZ : xz H.size s H) (is : List Nat) (hC : is.map (fun i => ws[i]?) = wc.map some) {q0 ci : Nat} {q : vw_C} {fs : List Value} (hc : cl[ci]? = some q) (he : ws[q0]? = some (b, .inr (ci, fs))) (hn : q.1 = C) : PreV s H C b (va_Pc (.ref b :: As) (wq_X D cl wc tys H.size)) As :=
  ⟨wq_blX, by subst hn; exact va_recv hK hP hc he, fun U hU hW => ⟨rfl, by rw [hU], ⟨by rw [hU]; exact hP.sub is (wq_fm hC), va_K.moved hW.alike hK, hN.warm hW⟩, hE.warm hW, by rw [hU]; exact hZ.moved hW.alike⟩⟩
/-- what is thrown, and that what was there is as it was -/
def xq (X : String) (sz : Nat) : String → State → State → Prop := vx_X (fun _ : Unit => True) (fun E _ _ => E = X) (fun q => sz ≤ q)
def xq_v (sz : Nat) : Array Value → State → Outcome → State → Prop := va_Qv (fun _ : Unit => False) (fun _ _ => True) (fun q => sz ≤ q)
def xq_i (sz : Nat) : Array Value → State → Outcome → State → Prop := va_Qi (fun _ (_ : Unit) => False) (fun _ _ => True) (fun q => sz ≤ q)
def xq_l (sz : Nat) : Array Value → State → Outcome → State → Prop := va_Ql (fun _ (_ : Unit) => False) (fun _ _ => True) (fun q => sz ≤ q)
theorem xt_IA_g : ∀ w ∈ (vx_atS "ShiftSignatures" 46 "java/lang/IllegalArgumentException" ["java/lang/RuntimeException", "java/lang/Exception"]).filter goodWord, w ∈ gw := by decide +kernel
theorem xt_IA_n : ∀ w ∈ (vx_atS "ShiftSignatures" 46 "java/lang/IllegalArgumentException" ["java/lang/RuntimeException", "java/lang/Exception"]).filter (fun w => !goodWord w), w ∈ xw_l := by decide +kernel
theorem xt_IA_o : ∀ w ∈ Cond.classLink "ShiftSignatures" 42 "java/lang/IllegalArgumentException" :: Cond.initialized "java/lang/IllegalArgumentException" :: (vx_atS "ShiftSignatures" 46 "java/lang/IllegalArgumentException" ["java/lang/RuntimeException", "java/lang/Exception"]), vx_ot w = true := by decide +kernel
theorem xt_IA {args : Array Value} {s : State} (hts : ∀ w ∈ gw, w.before args s = true) (hE : xe_ok s) : ∀ w ∈ (vx_atS "ShiftSignatures" 46 "java/lang/IllegalArgumentException" ["java/lang/RuntimeException", "java/lang/Exception"]), w.before args s = true := vx_hat (fun w h => hts w (xt_IA_g w h)) (B := xw_l) xt_IA_n (fun w h => va_Nw.use (xw_on (xw_all w h)) (hE.1 w h))
theorem xt_IA_k : Cond.classLink "ShiftSignatures" 42 "java/lang/IllegalArgumentException" ∈ gw := by decide +kernel
theorem xt_IA_i : Cond.initialized "java/lang/IllegalArgumentException" ∈ gw := by decide +kernel
theorem xt_IS_g : ∀ w ∈ (vx_atS "ShiftSignatures" 104 "java/lang/IllegalStateException" ["java/lang/RuntimeException", "java/lang/Exception"]).filter goodWord, w ∈ gw := by decide +kernel
theorem xt_IS_n : ∀ w ∈ (vx_atS "ShiftSignatures" 104 "java/lang/IllegalStateException" ["java/lang/RuntimeException", "java/lang/Exception"]).filter (fun w => !goodWord w), w ∈ xw_l := by decide +kernel
theorem xt_IS_o : ∀ w ∈ Cond.classLink "ShiftSignatures" 100 "java/lang/IllegalStateException" :: Cond.initialized "java/lang/IllegalStateException" :: (vx_atS "ShiftSignatures" 104 "java/lang/IllegalStateException" ["java/lang/RuntimeException", "java/lang/Exception"]), vx_ot w = true := by decide +kernel
theorem xt_IS {args : Array Value} {s : State} (hts : ∀ w ∈ gw, w.before args s = true) (hE : xe_ok s) : ∀ w ∈ (vx_atS "ShiftSignatures" 104 "java/lang/IllegalStateException" ["java/lang/RuntimeException", "java/lang/Exception"]), w.before args s = true := vx_hat (fun w h => hts w (xt_IS_g w h)) (B := xw_l) xt_IS_n (fun w h => va_Nw.use (xw_on (xw_all w h)) (hE.1 w h))
theorem xt_IS_k : Cond.classLink "ShiftSignatures" 100 "java/lang/IllegalStateException" ∈ gw := by decide +kernel
theorem xt_IS_i : Cond.initialized "java/lang/IllegalStateException" ∈ gw := by decide +kernel
theorem xt_IO_g : ∀ w ∈ (vx_atS "ShiftSignatures" 148 "java/lang/IndexOutOfBoundsException" ["java/lang/RuntimeException", "java/lang/Exception"]).filter goodWord, w ∈ gw := by decide +kernel
theorem xt_IO_n : ∀ w ∈ (vx_atS "ShiftSignatures" 148 "java/lang/IndexOutOfBoundsException" ["java/lang/RuntimeException", "java/lang/Exception"]).filter (fun w => !goodWord w), w ∈ xw_l := by decide +kernel
theorem xt_IO_o : ∀ w ∈ Cond.classLink "ShiftSignatures" 144 "java/lang/IndexOutOfBoundsException" :: Cond.initialized "java/lang/IndexOutOfBoundsException" :: (vx_atS "ShiftSignatures" 148 "java/lang/IndexOutOfBoundsException" ["java/lang/RuntimeException", "java/lang/Exception"]), vx_ot w = true := by decide +kernel
theorem xt_IO {args : Array Value} {s : State} (hts : ∀ w ∈ gw, w.before args s = true) (hE : xe_ok s) : ∀ w ∈ (vx_atS "ShiftSignatures" 148 "java/lang/IndexOutOfBoundsException" ["java/lang/RuntimeException", "java/lang/Exception"]), w.before args s = true := vx_hat (fun w h => hts w (xt_IO_g w h)) (B := xw_l) xt_IO_n (fun w h => va_Nw.use (xw_on (xw_all w h)) (hE.1 w h))
theorem xt_IO_k : Cond.classLink "ShiftSignatures" 144 "java/lang/IndexOutOfBoundsException" ∈ gw := by decide +kernel
theorem xt_IO_i : Cond.initialized "java/lang/IndexOutOfBoundsException" ∈ gw := by decide +kernel
section XQ
variable {p : Program} {l : Launch} {e : Env} {R : Room} {s : State} {m : MethodId} {args : Array Value} {below : List Frame} {meth : Method} {c : Code} {cells slots mc ms MC MS pc : Nat}
variable {ls : Array Slot} {rest st0 : List Value} {a : Array Value} {X : String} {Qc : Array Value → State → Outcome → State → Prop}
theorem xq_hx {X : String} : ∀ t : State, s.vm.Alike t.vm → s.heap.size ≤ t.heap.size → (∀ q : Nat, q < s.heap.size → t.heap[q]? = s.heap[q]?) → xq X s.heap.size X s t := fun t _ h1 h2 => ⟨(), trivial, rfl, h1, fun q hq _ => h2 q hq⟩
theorem xq_go {E : String} {ce : Cell} {q9 : Addr} {H1 : Heap} {locs1 : List Loc} (hex : ∀ x ∈ c.exceptionTable.toList, False) (hlocks : meth.locks = false) (hE : E = X) (hz : s.heap.size ≤ H1.size) (hk : ∀ q : Nat, q < s.heap.size → ¬ s.heap.size ≤ q → H1[q]? = s.heap[q]?) (hS : va_S (fun q => s.heap.size ≤ q) s.heap H1 locs1) (h1 : H1[q9]? = some ce) (h2 : ce.vm = .none) (h3 : s.vm.findClass E = some ce.cls) (hc : cells ≤ MC) (hs : slots ≤ MS) :
    vx_W p l e R s m args below meth c H1 locs1 cells slots (vx_MQ below Qc (xq X s.heap.size) args s MC MS (fun q => s.heap.size ≤ q)) (F0 m pc ls rest) q9 :=
  vx_out (fun x hx => (hex x hx).elim) hlocks h1 h2 h3 (fun t ht _ => ⟨(), trivial, hE, by rw [ht]; exact hz, fun q hq hn => by rw [ht]; exact hk q hq hn⟩) hS.2.2 hc hs
theorem xq_cv (hr : vx_Run p l e R s m args below meth c s.heap [] cells slots mc ms (F0 m pc ls st0) rest (xq_v s.heap.size a) (xq X s.heap.size) (fun q => s.heap.size ≤ q)) (hex : ∀ x ∈ c.exceptionTable.toList, False) (hlocks : meth.locks = false) (hc : cells + mc ≤ MC) (hs : slots + ms ≤ MS) :
    W p l e R s m args below meth c s.heap [] cells slots (vx_MQ below Qc (xq X s.heap.size) args s MC MS (fun q => s.heap.size ≤ q)) (F0 m pc ls st0) :=
  vx_callv hr (va_S.rf (A := fun q => s.heap.size ≤ q)) (fun _ _ h => h) (fun _ h => h) (fun _ _ h => h) (fun E ce q9 u t H1 locs1 _ _ _ hE hz hk hS h1 h2 h3 => xq_go hex hlocks hE hz hk hS h1 h2 h3 hc hs) (fun _ _ _ _ _ _ hp => hp.elim)
end XQ
