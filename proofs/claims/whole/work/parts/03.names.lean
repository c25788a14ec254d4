/-! names of this claim, laid by a program out of the Statement's rows and javap's listing -/
def R_S : String := "ShiftSignatures"
def R_M : String := "ShiftSignatures$Modulus"
def R_C : String := "ShiftSignatures$Circuit"
def R_D : String := "ShiftSignatures$Differences"
def R_O : String := "ShiftSignaturesModel"
def R_L : String := "ShiftSignaturesLaw"
def R_JI : String := "java/lang/Integer"
def R_JL : String := "java/lang/Long"
def F_S : u_T := fun k => match k with
  | 0 => ("ShiftSignatures", "modulus", "LShiftSignatures$Modulus;", true)
  | 1 => ("ShiftSignatures", "circuit", "LShiftSignatures$Circuit;", true)
  | 2 => ("ShiftSignatures", "differences", "LShiftSignatures$Differences;", true)
  | 3 => ("ShiftSignatures", "masks", "[J", true)
  | _ => ("ShiftSignatures", "register", "J", false)
def t_S : Nat → FieldType := fun k => match k with
  | 0 => (.object "ShiftSignatures$Modulus")
  | 1 => (.object "ShiftSignatures$Circuit")
  | 2 => (.object "ShiftSignatures$Differences")
  | 3 => (.array .long)
  | _ => .long
theorem n_S : ∀ a, a < 5 → ∀ b, b < 5 → a ≠ b → (F_S a).2.1 ≠ (F_S b).2.1 := by decide +kernel
theorem t_S_ok : ∀ k, k < 5 → parseFieldDescriptor (F_S k).2.2.1 = some (t_S k) := by decide +kernel
def F_M : u_T := fun k => match k with
  | 0 => ("ShiftSignatures$Modulus", "p", "J", false)
  | 1 => ("ShiftSignatures$Modulus", "degree", "I", false)
  | _ => ("ShiftSignatures$Modulus", "x", "J", false)
def t_M : Nat → FieldType := fun k => match k with
  | 0 => .long
  | 1 => .int
  | _ => .long
theorem n_M : ∀ a, a < 3 → ∀ b, b < 3 → a ≠ b → (F_M a).2.1 ≠ (F_M b).2.1 := by decide +kernel
theorem t_M_ok : ∀ k, k < 3 → parseFieldDescriptor (F_M k).2.2.1 = some (t_M k) := by decide +kernel
def F_C : u_T := fun k => match k with
  | 0 => ("ShiftSignatures$Circuit", "kinds", "[I", true)
  | 1 => ("ShiftSignatures$Circuit", "lefts", "[I", true)
  | 2 => ("ShiftSignatures$Circuit", "rights", "[I", true)
  | 3 => ("ShiftSignatures$Circuit", "outputLines", "[I", true)
  | 4 => ("ShiftSignatures$Circuit", "values", "[J", true)
  | 5 => ("ShiftSignatures$Circuit", "channelCount", "I", false)
  | 6 => ("ShiftSignatures$Circuit", "gateCount", "I", false)
  | _ => ("ShiftSignatures$Circuit", "outputCount", "I", false)
def t_C : Nat → FieldType := fun k => match k with
  | 0 => (.array .int)
  | 1 => (.array .int)
  | 2 => (.array .int)
  | 3 => (.array .int)
  | 4 => (.array .long)
  | 5 => .int
  | 6 => .int
  | _ => .int
theorem n_C : ∀ a, a < 8 → ∀ b, b < 8 → a ≠ b → (F_C a).2.1 ≠ (F_C b).2.1 := by decide +kernel
theorem t_C_ok : ∀ k, k < 8 → parseFieldDescriptor (F_C k).2.2.1 = some (t_C k) := by decide +kernel
def F_D : u_T := fun k => match k with
  | 0 => ("ShiftSignatures$Differences", "rows", "[J", true)
  | _ => ("ShiftSignatures$Differences", "seen", "J", false)
def t_D : Nat → FieldType := fun k => match k with
  | 0 => (.array .long)
  | _ => .long
theorem n_D : ∀ a, a < 2 → ∀ b, b < 2 → a ≠ b → (F_D a).2.1 ≠ (F_D b).2.1 := by decide +kernel
theorem t_D_ok : ∀ k, k < 2 → parseFieldDescriptor (F_D k).2.2.1 = some (t_D k) := by decide +kernel
def F_O : u_T := fun k => match k with
  | 0 => ("ShiftSignaturesModel", "fault", "I", false)
  | 1 => ("ShiftSignaturesModel", "poly", "J", false)
  | 2 => ("ShiftSignaturesModel", "degree", "I", false)
  | 3 => ("ShiftSignaturesModel", "register", "J", false)
  | 4 => ("ShiftSignaturesModel", "irreducible", "I", false)
  | 5 => ("ShiftSignaturesModel", "order", "J", false)
  | 6 => ("ShiftSignaturesModel", "channels", "I", false)
  | 7 => ("ShiftSignaturesModel", "masks", "[J", true)
  | 8 => ("ShiftSignaturesModel", "gates", "I", false)
  | 9 => ("ShiftSignaturesModel", "kinds", "[I", true)
  | 10 => ("ShiftSignaturesModel", "ones", "[I", true)
  | 11 => ("ShiftSignaturesModel", "others", "[I", true)
  | 12 => ("ShiftSignaturesModel", "outputs", "I", false)
  | 13 => ("ShiftSignaturesModel", "outs", "[I", true)
  | 14 => ("ShiftSignaturesModel", "lines", "[I", true)
  | 15 => ("ShiftSignaturesModel", "patterns", "[I", true)
  | _ => ("ShiftSignaturesModel", "answers", "[I", true)
def t_O : Nat → FieldType := fun k => match k with
  | 0 => .int
  | 1 => .long
  | 2 => .int
  | 3 => .long
  | 4 => .int
  | 5 => .long
  | 6 => .int
  | 7 => (.array .long)
  | 8 => .int
  | 9 => (.array .int)
  | 10 => (.array .int)
  | 11 => (.array .int)
  | 12 => .int
  | 13 => (.array .int)
  | 14 => (.array .int)
  | 15 => (.array .int)
  | _ => (.array .int)
theorem n_O : ∀ a, a < 17 → ∀ b, b < 17 → a ≠ b → (F_O a).2.1 ≠ (F_O b).2.1 := by decide +kernel
theorem t_O_ok : ∀ k, k < 17 → parseFieldDescriptor (F_O k).2.2.1 = some (t_O k) := by decide +kernel
abbrev classes : List vw_C := [(R_S, F_S, 5), (R_M, F_M, 3), (R_C, F_C, 8), (R_D, F_D, 2), (R_O, F_O, 17)]
def gw : List Cond := lw_tbl.filter goodWord
theorem gw_in {w : Cond} (h : w ∈ gw) : GoodIn gw (w :: gw) := fun v hv => by
  rcases List.mem_cons.mp hv with rfl | hv
  · exact ⟨h, good_of_word (List.mem_filter.mp h).2⟩
  · exact ⟨hv, good_of_word (List.mem_filter.mp hv).2⟩
def nw_l : List Cond := [(Jvm.Cond.fieldLinkNest "ShiftSignatures$Differences" (45 : Nat) "ShiftSignatures$Modulus" "p" "J" "ShiftSignatures"), (Jvm.Cond.fieldLinkNest "ShiftSignatures$Differences" (40 : Nat) "ShiftSignatures$Modulus" "degree" "I" "ShiftSignatures"), (Jvm.Cond.fieldLinkNest "ShiftSignatures" (81 : Nat) "ShiftSignatures$Modulus" "degree" "I" "ShiftSignatures"), (Jvm.Cond.fieldLinkNest "ShiftSignatures" (94 : Nat) "ShiftSignatures$Modulus" "x" "J" "ShiftSignatures"), (Jvm.Cond.fieldLinkNest "ShiftSignatures" (97 : Nat) "ShiftSignatures$Circuit" "channelCount" "I" "ShiftSignatures"), (Jvm.Cond.fieldLinkNest "ShiftSignatures" (113 : Nat) "ShiftSignatures$Circuit" "gateCount" "I" "ShiftSignatures"), (Jvm.Cond.fieldLinkNest "ShiftSignatures$Differences" (29 : Nat) "ShiftSignatures$Circuit" "outputCount" "I" "ShiftSignatures"), (Jvm.Cond.fieldLinkNest "ShiftSignatures" (122 : Nat) "ShiftSignatures$Circuit" "outputCount" "I" "ShiftSignatures"), (Jvm.Cond.fieldLinkNest "ShiftSignatures" (156 : Nat) "ShiftSignatures$Differences" "seen" "J" "ShiftSignatures"), (Jvm.Cond.methodLinkNest "ShiftSignatures" (11 : Nat) ({ cls := "ShiftSignatures$Modulus", name := "<init>", desc := "()V" } : Jvm.MethodName) "ShiftSignatures"), (Jvm.Cond.methodLinkNest "ShiftSignatures" (18 : Nat) ({ cls := "ShiftSignatures$Circuit", name := "<init>", desc := "()V" } : Jvm.MethodName) "ShiftSignatures"), (Jvm.Cond.methodLinkNest "ShiftSignatures" (25 : Nat) ({ cls := "ShiftSignatures$Differences", name := "<init>", desc := "()V" } : Jvm.MethodName) "ShiftSignatures"), (Jvm.Cond.methodLinkNest "ShiftSignatures" (70 : Nat) ({ cls := "ShiftSignatures$Modulus", name := "reduced", desc := "(J)J" } : Jvm.MethodName) "ShiftSignatures"), (Jvm.Cond.methodLinkNest "ShiftSignatures" (74 : Nat) ({ cls := "ShiftSignatures$Modulus", name := "isIrreducible", desc := "()Z" } : Jvm.MethodName) "ShiftSignatures"), (Jvm.Cond.methodLinkNest "ShiftSignatures" (78 : Nat) ({ cls := "ShiftSignatures$Modulus", name := "isPrimitive", desc := "()Z" } : Jvm.MethodName) "ShiftSignatures"), (Jvm.Cond.methodLinkNest "ShiftSignatures" (87 : Nat) ({ cls := "ShiftSignatures$Modulus", name := "multipleOfOrder", desc := "()J" } : Jvm.MethodName) "ShiftSignatures"), (Jvm.Cond.methodLinkNest "ShiftSignatures" (91 : Nat) ({ cls := "ShiftSignatures$Modulus", name := "orderWithin", desc := "(J)J" } : Jvm.MethodName) "ShiftSignatures"), (Jvm.Cond.methodLinkNest "ShiftSignatures" (38 : Nat) ({ cls := "ShiftSignatures$Modulus", name := "degreeOf", desc := "(J)I" } : Jvm.MethodName) "ShiftSignatures"), (Jvm.Cond.methodLinkNest "ShiftSignatures" (49 : Nat) ({ cls := "ShiftSignatures$Modulus", name := "become", desc := "(J)V" } : Jvm.MethodName) "ShiftSignatures"), (Jvm.Cond.methodLinkNest "ShiftSignatures" (53 : Nat) ({ cls := "ShiftSignatures$Circuit", name := "restart", desc := "(I)V" } : Jvm.MethodName) "ShiftSignatures"), (Jvm.Cond.methodLinkNest "ShiftSignatures" (173 : Nat) ({ cls := "ShiftSignatures$Modulus", name := "hasResidue", desc := "(J)Z" } : Jvm.MethodName) "ShiftSignatures"), (Jvm.Cond.methodLinkNest "ShiftSignatures" (60 : Nat) ({ cls := "ShiftSignatures$Modulus", name := "product", desc := "(JJ)J" } : Jvm.MethodName) "ShiftSignatures"), (Jvm.Cond.methodLinkNest "ShiftSignatures" (67 : Nat) ({ cls := "ShiftSignatures$Modulus", name := "raised", desc := "(JJ)J" } : Jvm.MethodName) "ShiftSignatures"), (Jvm.Cond.methodLinkNest "ShiftSignatures" (183 : Nat) ({ cls := "ShiftSignatures$Circuit", name := "countLines", desc := "()I" } : Jvm.MethodName) "ShiftSignatures"), (Jvm.Cond.methodLinkNest "ShiftSignatures" (118 : Nat) ({ cls := "ShiftSignatures$Circuit", name := "addGate", desc := "(III)I" } : Jvm.MethodName) "ShiftSignatures"), (Jvm.Cond.methodLinkNest "ShiftSignatures" (127 : Nat) ({ cls := "ShiftSignatures$Circuit", name := "addOutput", desc := "(I)I" } : Jvm.MethodName) "ShiftSignatures"), (Jvm.Cond.methodLinkNest "ShiftSignatures" (149 : Nat) ({ cls := "ShiftSignatures$Circuit", name := "countFaults", desc := "()I" } : Jvm.MethodName) "ShiftSignatures"), (Jvm.Cond.methodLinkNest "ShiftSignatures" (134 : Nat) ({ cls := "ShiftSignatures$Circuit", name := "answerTo", desc := "(II)I" } : Jvm.MethodName) "ShiftSignatures"), (Jvm.Cond.methodLinkNest "ShiftSignatures" (141 : Nat) ({ cls := "ShiftSignatures$Modulus", name := "stepped", desc := "(J)J" } : Jvm.MethodName) "ShiftSignatures"), (Jvm.Cond.methodLinkNest "ShiftSignatures" (190 : Nat) ({ cls := "ShiftSignatures$Differences", name := "clear", desc := "()V" } : Jvm.MethodName) "ShiftSignatures"), (Jvm.Cond.methodLinkNest "ShiftSignatures" (193 : Nat) ({ cls := "ShiftSignatures$Differences", name := "timesX", desc := "()V" } : Jvm.MethodName) "ShiftSignatures"), (Jvm.Cond.methodLinkNest "ShiftSignatures" (196 : Nat) ({ cls := "ShiftSignatures$Differences", name := "addAnswers", desc := "(LShiftSignatures$Circuit;I)V" } : Jvm.MethodName) "ShiftSignatures"), (Jvm.Cond.methodLinkNest "ShiftSignatures$Differences" (19 : Nat) ({ cls := "ShiftSignatures$Circuit", name := "answerTo", desc := "(II)I" } : Jvm.MethodName) "ShiftSignatures"), (Jvm.Cond.methodLinkNest "ShiftSignatures$Differences" (25 : Nat) ({ cls := "ShiftSignatures$Circuit", name := "settle", desc := "(IZ)V" } : Jvm.MethodName) "ShiftSignatures"), (Jvm.Cond.methodLinkNest "ShiftSignatures$Differences" (33 : Nat) ({ cls := "ShiftSignatures$Circuit", name := "valuesOfOutput", desc := "(I)J" } : Jvm.MethodName) "ShiftSignatures"), (Jvm.Cond.methodLinkNest "ShiftSignatures$Differences" (37 : Nat) ({ cls := "ShiftSignatures$Circuit", name := "spread", desc := "(I)J" } : Jvm.MethodName) "ShiftSignatures"), (Jvm.Cond.methodLinkNest "ShiftSignatures" (200 : Nat) ({ cls := "ShiftSignatures$Differences", name := "reduce", desc := "(LShiftSignatures$Modulus;)V" } : Jvm.MethodName) "ShiftSignatures"), (Jvm.Cond.methodLinkNest "ShiftSignatures" (164 : Nat) ({ cls := "ShiftSignatures$Differences", name := "found", desc := "()J" } : Jvm.MethodName) "ShiftSignatures")]
theorem kw_0 : (Jvm.Cond.initialized "ShiftSignaturesLaw") ∈ gw := List.mem_filter.mpr ⟨List.mem_append_right _ (List.mem_append_left _ (List.mem_of_getElem? (i := 0) rfl)), by decide +kernel⟩
theorem kw_1 : (Jvm.Cond.initialized "ShiftSignatures") ∈ gw := List.mem_filter.mpr ⟨List.mem_append_right _ (List.mem_append_left _ (List.mem_of_getElem? (i := 1) rfl)), by decide +kernel⟩
theorem kw_2 : (Jvm.Cond.initialized "ShiftSignatures$Modulus") ∈ gw := List.mem_filter.mpr ⟨List.mem_append_right _ (List.mem_append_left _ (List.mem_of_getElem? (i := 2) rfl)), by decide +kernel⟩
theorem kw_3 : (Jvm.Cond.initialized "ShiftSignatures$Circuit") ∈ gw := List.mem_filter.mpr ⟨List.mem_append_right _ (List.mem_append_left _ (List.mem_of_getElem? (i := 3) rfl)), by decide +kernel⟩
theorem kw_4 : (Jvm.Cond.initialized "ShiftSignatures$Differences") ∈ gw := List.mem_filter.mpr ⟨List.mem_append_right _ (List.mem_append_left _ (List.mem_of_getElem? (i := 4) rfl)), by decide +kernel⟩
theorem kw_5 : (Jvm.Cond.initialized "ShiftSignaturesModel") ∈ gw := List.mem_filter.mpr ⟨List.mem_append_right _ (List.mem_append_left _ (List.mem_of_getElem? (i := 5) rfl)), by decide +kernel⟩
theorem kw_6 : (Jvm.Cond.initialized "java/lang/Long") ∈ gw := List.mem_filter.mpr ⟨List.mem_append_right _ (List.mem_append_left _ (List.mem_of_getElem? (i := 6) rfl)), by decide +kernel⟩
theorem kw_7 : (Jvm.Cond.initialized "java/lang/Integer") ∈ gw := List.mem_filter.mpr ⟨List.mem_append_right _ (List.mem_append_left _ (List.mem_of_getElem? (i := 7) rfl)), by decide +kernel⟩
theorem kw_8 : (Jvm.Cond.initialized "java/lang/Throwable") ∈ gw := List.mem_filter.mpr ⟨List.mem_append_right _ (List.mem_append_left _ (List.mem_of_getElem? (i := 8) rfl)), by decide +kernel⟩
theorem kw_9 : (Jvm.Cond.initialized "java/lang/Exception") ∈ gw := List.mem_filter.mpr ⟨List.mem_append_right _ (List.mem_append_left _ (List.mem_of_getElem? (i := 9) rfl)), by decide +kernel⟩
theorem kw_10 : (Jvm.Cond.initialized "java/lang/RuntimeException") ∈ gw := List.mem_filter.mpr ⟨List.mem_append_right _ (List.mem_append_left _ (List.mem_of_getElem? (i := 10) rfl)), by decide +kernel⟩
theorem kw_11 : (Jvm.Cond.initialized "java/lang/IllegalArgumentException") ∈ gw := List.mem_filter.mpr ⟨List.mem_append_right _ (List.mem_append_left _ (List.mem_of_getElem? (i := 11) rfl)), by decide +kernel⟩
theorem kw_12 : (Jvm.Cond.initialized "java/lang/IllegalStateException") ∈ gw := List.mem_filter.mpr ⟨List.mem_append_right _ (List.mem_append_left _ (List.mem_of_getElem? (i := 12) rfl)), by decide +kernel⟩
theorem kw_13 : (Jvm.Cond.initialized "java/lang/IndexOutOfBoundsException") ∈ gw := List.mem_filter.mpr ⟨List.mem_append_right _ (List.mem_append_left _ (List.mem_of_getElem? (i := 13) rfl)), by decide +kernel⟩
theorem kw_14 : (Jvm.Cond.classLink "ShiftSignaturesLaw" (8 : Nat) "ShiftSignatures") ∈ gw := List.mem_filter.mpr ⟨List.mem_append_right _ (List.mem_append_left _ (List.mem_of_getElem? (i := 14) rfl)), by decide +kernel⟩
theorem kw_22 : (Jvm.Cond.classLink "ShiftSignatures" (9 : Nat) "ShiftSignatures$Modulus") ∈ gw := List.mem_filter.mpr ⟨List.mem_append_right _ (List.mem_append_left _ (List.mem_of_getElem? (i := 22) rfl)), by decide +kernel⟩
theorem kw_43 : (Jvm.Cond.classLink "ShiftSignatures" (16 : Nat) "ShiftSignatures$Circuit") ∈ gw := List.mem_filter.mpr ⟨List.mem_append_right _ (List.mem_append_left _ (List.mem_of_getElem? (i := 43) rfl)), by decide +kernel⟩
theorem kw_80 : (Jvm.Cond.classLink "ShiftSignatures" (23 : Nat) "ShiftSignatures$Differences") ∈ gw := List.mem_filter.mpr ⟨List.mem_append_right _ (List.mem_append_left _ (List.mem_of_getElem? (i := 80) rfl)), by decide +kernel⟩
theorem kw_206 : (Jvm.Cond.classLink "ShiftSignaturesLaw" (13 : Nat) "java/lang/IllegalArgumentException") ∈ gw := List.mem_filter.mpr ⟨List.mem_append_right _ (List.mem_append_left _ (List.mem_of_getElem? (i := 206) rfl)), by decide +kernel⟩
theorem kw_212 : (Jvm.Cond.classLink "ShiftSignatures" (42 : Nat) "java/lang/IllegalArgumentException") ∈ gw := List.mem_filter.mpr ⟨List.mem_append_right _ (List.mem_append_left _ (List.mem_of_getElem? (i := 212) rfl)), by decide +kernel⟩
theorem kw_337 : (Jvm.Cond.classLink "ShiftSignaturesLaw" (32 : Nat) "java/lang/IllegalStateException") ∈ gw := List.mem_filter.mpr ⟨List.mem_append_right _ (List.mem_append_right _ (List.mem_append_left _ (List.mem_of_getElem? (i := 97) rfl))), by decide +kernel⟩
theorem kw_342 : (Jvm.Cond.classLink "ShiftSignatures" (100 : Nat) "java/lang/IllegalStateException") ∈ gw := List.mem_filter.mpr ⟨List.mem_append_right _ (List.mem_append_right _ (List.mem_append_left _ (List.mem_of_getElem? (i := 102) rfl))), by decide +kernel⟩
theorem kw_361 : (Jvm.Cond.classLink "ShiftSignaturesLaw" (38 : Nat) "java/lang/IndexOutOfBoundsException") ∈ gw := List.mem_filter.mpr ⟨List.mem_append_right _ (List.mem_append_right _ (List.mem_append_left _ (List.mem_of_getElem? (i := 121) rfl))), by decide +kernel⟩
theorem kw_375 : (Jvm.Cond.classLink "ShiftSignatures" (144 : Nat) "java/lang/IndexOutOfBoundsException") ∈ gw := List.mem_filter.mpr ⟨List.mem_append_right _ (List.mem_append_right _ (List.mem_append_left _ (List.mem_of_getElem? (i := 135) rfl))), by decide +kernel⟩
theorem kw_521 : (Jvm.Cond.classLink "ShiftSignaturesLaw" (59 : Nat) "ShiftSignaturesModel") ∈ gw := List.mem_filter.mpr ⟨List.mem_append_right _ (List.mem_append_right _ (List.mem_append_right _ (List.mem_append_left _ (List.mem_of_getElem? (i := 41) rfl)))), by decide +kernel⟩
theorem kw_15 : (Jvm.Cond.instantiable "ShiftSignatures" (5 : Nat)) ∈ gw := List.mem_filter.mpr ⟨List.mem_append_right _ (List.mem_append_left _ (List.mem_of_getElem? (i := 15) rfl)), by decide +kernel⟩
theorem kw_23 : (Jvm.Cond.instantiable "ShiftSignatures$Modulus" (3 : Nat)) ∈ gw := List.mem_filter.mpr ⟨List.mem_append_right _ (List.mem_append_left _ (List.mem_of_getElem? (i := 23) rfl)), by decide +kernel⟩
theorem kw_44 : (Jvm.Cond.instantiable "ShiftSignatures$Circuit" (8 : Nat)) ∈ gw := List.mem_filter.mpr ⟨List.mem_append_right _ (List.mem_append_left _ (List.mem_of_getElem? (i := 44) rfl)), by decide +kernel⟩
theorem kw_81 : (Jvm.Cond.instantiable "ShiftSignatures$Differences" (2 : Nat)) ∈ gw := List.mem_filter.mpr ⟨List.mem_append_right _ (List.mem_append_left _ (List.mem_of_getElem? (i := 81) rfl)), by decide +kernel⟩
theorem kw_213 : (Jvm.Cond.instantiable "java/lang/IllegalArgumentException" (6 : Nat)) ∈ gw := List.mem_filter.mpr ⟨List.mem_append_right _ (List.mem_append_left _ (List.mem_of_getElem? (i := 213) rfl)), by decide +kernel⟩
theorem kw_251 : (Jvm.Cond.instantiable "java/lang/Throwable" (6 : Nat)) ∈ gw := List.mem_filter.mpr ⟨List.mem_append_right _ (List.mem_append_right _ (List.mem_append_left _ (List.mem_of_getElem? (i := 11) rfl))), by decide +kernel⟩
theorem kw_343 : (Jvm.Cond.instantiable "java/lang/IllegalStateException" (6 : Nat)) ∈ gw := List.mem_filter.mpr ⟨List.mem_append_right _ (List.mem_append_right _ (List.mem_append_left _ (List.mem_of_getElem? (i := 103) rfl))), by decide +kernel⟩
theorem kw_376 : (Jvm.Cond.instantiable "java/lang/IndexOutOfBoundsException" (6 : Nat)) ∈ gw := List.mem_filter.mpr ⟨List.mem_append_right _ (List.mem_append_right _ (List.mem_append_left _ (List.mem_of_getElem? (i := 136) rfl))), by decide +kernel⟩
theorem kw_522 : (Jvm.Cond.instantiable "ShiftSignaturesModel" (17 : Nat)) ∈ gw := List.mem_filter.mpr ⟨List.mem_append_right _ (List.mem_append_right _ (List.mem_append_right _ (List.mem_append_left _ (List.mem_of_getElem? (i := 42) rfl)))), by decide +kernel⟩
theorem kw_16 : (Jvm.Cond.methodLink "ShiftSignaturesLaw" (58 : Nat) ({ cls := "ShiftSignatures", name := "<init>", desc := "()V" } : Jvm.MethodName)) ∈ gw := List.mem_filter.mpr ⟨List.mem_append_right _ (List.mem_append_left _ (List.mem_of_getElem? (i := 16) rfl)), by decide +kernel⟩
theorem kw_19 : (Jvm.Cond.methodLink "ShiftSignatures" (3 : Nat) ({ cls := "java/lang/Object", name := "<init>", desc := "()V" } : Jvm.MethodName)) ∈ gw := List.mem_filter.mpr ⟨List.mem_append_right _ (List.mem_append_left _ (List.mem_of_getElem? (i := 19) rfl)), by decide +kernel⟩
theorem kw_27 : (Jvm.Cond.methodLink "ShiftSignatures$Modulus" (3 : Nat) ({ cls := "java/lang/Object", name := "<init>", desc := "()V" } : Jvm.MethodName)) ∈ gw := List.mem_filter.mpr ⟨List.mem_append_right _ (List.mem_append_left _ (List.mem_of_getElem? (i := 27) rfl)), by decide +kernel⟩
theorem kw_48 : (Jvm.Cond.methodLink "ShiftSignatures$Circuit" (3 : Nat) ({ cls := "java/lang/Object", name := "<init>", desc := "()V" } : Jvm.MethodName)) ∈ gw := List.mem_filter.mpr ⟨List.mem_append_right _ (List.mem_append_left _ (List.mem_of_getElem? (i := 48) rfl)), by decide +kernel⟩
theorem kw_85 : (Jvm.Cond.methodLink "ShiftSignatures$Differences" (3 : Nat) ({ cls := "java/lang/Object", name := "<init>", desc := "()V" } : Jvm.MethodName)) ∈ gw := List.mem_filter.mpr ⟨List.mem_append_right _ (List.mem_append_left _ (List.mem_of_getElem? (i := 85) rfl)), by decide +kernel⟩
theorem kw_110 : (Jvm.Cond.methodLink "ShiftSignaturesLaw" (81 : Nat) ({ cls := "ShiftSignatures", name := "residue", desc := "(J)J" } : Jvm.MethodName)) ∈ gw := List.mem_filter.mpr ⟨List.mem_append_right _ (List.mem_append_left _ (List.mem_of_getElem? (i := 110) rfl)), by decide +kernel⟩
theorem kw_118 : (Jvm.Cond.methodLink "ShiftSignatures$Modulus" (34 : Nat) ({ cls := "ShiftSignatures$Modulus", name := "remainder", desc := "(JJ)J" } : Jvm.MethodName)) ∈ gw := List.mem_filter.mpr ⟨List.mem_append_right _ (List.mem_append_left _ (List.mem_of_getElem? (i := 118) rfl)), by decide +kernel⟩
theorem kw_121 : (Jvm.Cond.methodLink "ShiftSignatures$Modulus" (24 : Nat) ({ cls := "ShiftSignatures$Modulus", name := "degreeOf", desc := "(J)I" } : Jvm.MethodName)) ∈ gw := List.mem_filter.mpr ⟨List.mem_append_right _ (List.mem_append_left _ (List.mem_of_getElem? (i := 121) rfl)), by decide +kernel⟩
theorem kw_124 : (Jvm.Cond.methodLink "ShiftSignatures$Modulus" (65 : Nat) ({ cls := "java/lang/Long", name := "numberOfLeadingZeros", desc := "(J)I" } : Jvm.MethodName)) ∈ gw := List.mem_filter.mpr ⟨List.mem_append_right _ (List.mem_append_left _ (List.mem_of_getElem? (i := 124) rfl)), by decide +kernel⟩
theorem kw_127 : (Jvm.Cond.methodLink "java/lang/Long" (308 : Nat) ({ cls := "java/lang/Integer", name := "numberOfLeadingZeros", desc := "(I)I" } : Jvm.MethodName)) ∈ gw := List.mem_filter.mpr ⟨List.mem_append_right _ (List.mem_append_left _ (List.mem_of_getElem? (i := 127) rfl)), by decide +kernel⟩
theorem kw_131 : (Jvm.Cond.methodLink "ShiftSignaturesLaw" (85 : Nat) ({ cls := "ShiftSignatures", name := "irreducible", desc := "()Z" } : Jvm.MethodName)) ∈ gw := List.mem_filter.mpr ⟨List.mem_append_right _ (List.mem_append_left _ (List.mem_of_getElem? (i := 131) rfl)), by decide +kernel⟩
theorem kw_139 : (Jvm.Cond.methodLink "ShiftSignatures$Modulus" (41 : Nat) ({ cls := "ShiftSignatures$Modulus", name := "product", desc := "(JJ)J" } : Jvm.MethodName)) ∈ gw := List.mem_filter.mpr ⟨List.mem_append_right _ (List.mem_append_left _ (List.mem_of_getElem? (i := 139) rfl)), by decide +kernel⟩
theorem kw_143 : (Jvm.Cond.methodLink "ShiftSignatures$Modulus" (38 : Nat) ({ cls := "ShiftSignatures$Modulus", name := "stepped", desc := "(J)J" } : Jvm.MethodName)) ∈ gw := List.mem_filter.mpr ⟨List.mem_append_right _ (List.mem_append_left _ (List.mem_of_getElem? (i := 143) rfl)), by decide +kernel⟩
theorem kw_147 : (Jvm.Cond.methodLink "ShiftSignatures$Modulus" (44 : Nat) ({ cls := "ShiftSignatures$Modulus", name := "commonDivisor", desc := "(JJ)J" } : Jvm.MethodName)) ∈ gw := List.mem_filter.mpr ⟨List.mem_append_right _ (List.mem_append_left _ (List.mem_of_getElem? (i := 147) rfl)), by decide +kernel⟩
theorem kw_150 : (Jvm.Cond.methodLink "ShiftSignaturesLaw" (90 : Nat) ({ cls := "ShiftSignatures", name := "primitive", desc := "()Z" } : Jvm.MethodName)) ∈ gw := List.mem_filter.mpr ⟨List.mem_append_right _ (List.mem_append_left _ (List.mem_of_getElem? (i := 150) rfl)), by decide +kernel⟩
theorem kw_158 : (Jvm.Cond.methodLink "ShiftSignatures$Modulus" (47 : Nat) ({ cls := "ShiftSignatures$Modulus", name := "raised", desc := "(JJ)J" } : Jvm.MethodName)) ∈ gw := List.mem_filter.mpr ⟨List.mem_append_right _ (List.mem_append_left _ (List.mem_of_getElem? (i := 158) rfl)), by decide +kernel⟩
theorem kw_162 : (Jvm.Cond.methodLink "ShiftSignatures$Modulus" (50 : Nat) ({ cls := "ShiftSignatures$Modulus", name := "orderWithin", desc := "(J)J" } : Jvm.MethodName)) ∈ gw := List.mem_filter.mpr ⟨List.mem_append_right _ (List.mem_append_left _ (List.mem_of_getElem? (i := 162) rfl)), by decide +kernel⟩
theorem kw_168 : (Jvm.Cond.methodLink "ShiftSignatures$Modulus" (62 : Nat) ({ cls := "ShiftSignatures$Modulus", name := "withoutNeedless", desc := "(JJ)J" } : Jvm.MethodName)) ∈ gw := List.mem_filter.mpr ⟨List.mem_append_right _ (List.mem_append_left _ (List.mem_of_getElem? (i := 168) rfl)), by decide +kernel⟩
theorem kw_172 : (Jvm.Cond.methodLink "ShiftSignaturesLaw" (94 : Nat) ({ cls := "ShiftSignatures", name := "order", desc := "()J" } : Jvm.MethodName)) ∈ gw := List.mem_filter.mpr ⟨List.mem_append_right _ (List.mem_append_left _ (List.mem_of_getElem? (i := 172) rfl)), by decide +kernel⟩
theorem kw_182 : (Jvm.Cond.methodLink "ShiftSignatures$Modulus" (55 : Nat) ({ cls := "ShiftSignatures$Modulus", name := "without", desc := "(JJ)J" } : Jvm.MethodName)) ∈ gw := List.mem_filter.mpr ⟨List.mem_append_right _ (List.mem_append_left _ (List.mem_of_getElem? (i := 182) rfl)), by decide +kernel⟩
theorem kw_185 : (Jvm.Cond.methodLink "ShiftSignatures$Modulus" (70 : Nat) ({ cls := "ShiftSignatures$Modulus", name := "quotient", desc := "(JJ)J" } : Jvm.MethodName)) ∈ gw := List.mem_filter.mpr ⟨List.mem_append_right _ (List.mem_append_left _ (List.mem_of_getElem? (i := 185) rfl)), by decide +kernel⟩
theorem kw_189 : (Jvm.Cond.methodLink "ShiftSignaturesLaw" (108 : Nat) ({ cls := "ShiftSignatures", name := "pattern", desc := "()I" } : Jvm.MethodName)) ∈ gw := List.mem_filter.mpr ⟨List.mem_append_right _ (List.mem_append_left _ (List.mem_of_getElem? (i := 189) rfl)), by decide +kernel⟩
theorem kw_193 : (Jvm.Cond.methodLink "ShiftSignatures" (105 : Nat) ({ cls := "ShiftSignatures", name := "patternOf", desc := "(J)I" } : Jvm.MethodName)) ∈ gw := List.mem_filter.mpr ⟨List.mem_append_right _ (List.mem_append_left _ (List.mem_of_getElem? (i := 193) rfl)), by decide +kernel⟩
theorem kw_197 : (Jvm.Cond.methodLink "ShiftSignatures" (159 : Nat) ({ cls := "java/lang/Long", name := "bitCount", desc := "(J)I" } : Jvm.MethodName)) ∈ gw := List.mem_filter.mpr ⟨List.mem_append_right _ (List.mem_append_left _ (List.mem_of_getElem? (i := 197) rfl)), by decide +kernel⟩
theorem kw_203 : (Jvm.Cond.methodLink "ShiftSignaturesLaw" (64 : Nat) ({ cls := "ShiftSignaturesLaw", name := "polynomial", desc := "(LShiftSignatures;J[J)I" } : Jvm.MethodName)) ∈ gw := List.mem_filter.mpr ⟨List.mem_append_right _ (List.mem_append_left _ (List.mem_of_getElem? (i := 203) rfl)), by decide +kernel⟩
theorem kw_207 : (Jvm.Cond.methodLink "ShiftSignaturesLaw" (7 : Nat) ({ cls := "ShiftSignatures", name := "polynomial", desc := "(J)I" } : Jvm.MethodName)) ∈ gw := List.mem_filter.mpr ⟨List.mem_append_right _ (List.mem_append_left _ (List.mem_of_getElem? (i := 207) rfl)), by decide +kernel⟩
theorem kw_237 : (Jvm.Cond.methodLink "java/lang/Throwable" (1 : Nat) ({ cls := "java/lang/Object", name := "<init>", desc := "()V" } : Jvm.MethodName)) ∈ gw := List.mem_filter.mpr ⟨List.mem_append_right _ (List.mem_append_left _ (List.mem_of_getElem? (i := 237) rfl)), by decide +kernel⟩
theorem kw_242 : (Jvm.Cond.methodLink "java/lang/Throwable" (27 : Nat) ({ cls := "java/lang/Throwable", name := "fillInStackTrace", desc := "()Ljava/lang/Throwable;" } : Jvm.MethodName)) ∈ gw := List.mem_filter.mpr ⟨List.mem_append_right _ (List.mem_append_right _ (List.mem_append_left _ (List.mem_of_getElem? (i := 2) rfl))), by decide +kernel⟩
theorem kw_248 : (Jvm.Cond.methodLink "java/lang/Throwable" (202 : Nat) ({ cls := "java/lang/Throwable", name := "fillInStackTrace", desc := "(I)Ljava/lang/Throwable;" } : Jvm.MethodName)) ∈ gw := List.mem_filter.mpr ⟨List.mem_append_right _ (List.mem_append_right _ (List.mem_append_left _ (List.mem_of_getElem? (i := 8) rfl))), by decide +kernel⟩
theorem kw_254 : (Jvm.Cond.methodLink "ShiftSignatures" (46 : Nat) ({ cls := "java/lang/IllegalArgumentException", name := "<init>", desc := "(Ljava/lang/String;)V" } : Jvm.MethodName)) ∈ gw := List.mem_filter.mpr ⟨List.mem_append_right _ (List.mem_append_right _ (List.mem_append_left _ (List.mem_of_getElem? (i := 14) rfl))), by decide +kernel⟩
theorem kw_257 : (Jvm.Cond.methodLink "java/lang/IllegalArgumentException" (7 : Nat) ({ cls := "java/lang/RuntimeException", name := "<init>", desc := "(Ljava/lang/String;)V" } : Jvm.MethodName)) ∈ gw := List.mem_filter.mpr ⟨List.mem_append_right _ (List.mem_append_right _ (List.mem_append_left _ (List.mem_of_getElem? (i := 17) rfl))), by decide +kernel⟩
theorem kw_260 : (Jvm.Cond.methodLink "java/lang/RuntimeException" (7 : Nat) ({ cls := "java/lang/Exception", name := "<init>", desc := "(Ljava/lang/String;)V" } : Jvm.MethodName)) ∈ gw := List.mem_filter.mpr ⟨List.mem_append_right _ (List.mem_append_right _ (List.mem_append_left _ (List.mem_of_getElem? (i := 20) rfl))), by decide +kernel⟩
theorem kw_263 : (Jvm.Cond.methodLink "java/lang/Exception" (7 : Nat) ({ cls := "java/lang/Throwable", name := "<init>", desc := "(Ljava/lang/String;)V" } : Jvm.MethodName)) ∈ gw := List.mem_filter.mpr ⟨List.mem_append_right _ (List.mem_append_right _ (List.mem_append_left _ (List.mem_of_getElem? (i := 23) rfl))), by decide +kernel⟩
theorem kw_285 : (Jvm.Cond.methodLink "ShiftSignatures$Modulus" (30 : Nat) ({ cls := "ShiftSignatures$Modulus", name := "reduced", desc := "(J)J" } : Jvm.MethodName)) ∈ gw := List.mem_filter.mpr ⟨List.mem_append_right _ (List.mem_append_right _ (List.mem_append_left _ (List.mem_of_getElem? (i := 45) rfl))), by decide +kernel⟩
theorem kw_290 : (Jvm.Cond.methodLink "ShiftSignaturesLaw" (74 : Nat) ({ cls := "ShiftSignaturesLaw", name := "times", desc := "(LShiftSignatures;JJ[J)I" } : Jvm.MethodName)) ∈ gw := List.mem_filter.mpr ⟨List.mem_append_right _ (List.mem_append_right _ (List.mem_append_left _ (List.mem_of_getElem? (i := 50) rfl))), by decide +kernel⟩
theorem kw_293 : (Jvm.Cond.methodLink "ShiftSignaturesLaw" (15 : Nat) ({ cls := "ShiftSignatures", name := "times", desc := "(JJ)J" } : Jvm.MethodName)) ∈ gw := List.mem_filter.mpr ⟨List.mem_append_right _ (List.mem_append_right _ (List.mem_append_left _ (List.mem_of_getElem? (i := 53) rfl))), by decide +kernel⟩
theorem kw_297 : (Jvm.Cond.methodLink "ShiftSignatures" (57 : Nat) ({ cls := "ShiftSignatures", name := "requireResidue", desc := "(J)V" } : Jvm.MethodName)) ∈ gw := List.mem_filter.mpr ⟨List.mem_append_right _ (List.mem_append_right _ (List.mem_append_left _ (List.mem_of_getElem? (i := 57) rfl))), by decide +kernel⟩
theorem kw_307 : (Jvm.Cond.methodLink "ShiftSignaturesLaw" (78 : Nat) ({ cls := "ShiftSignaturesLaw", name := "power", desc := "(LShiftSignatures;JJ[J)I" } : Jvm.MethodName)) ∈ gw := List.mem_filter.mpr ⟨List.mem_append_right _ (List.mem_append_right _ (List.mem_append_left _ (List.mem_of_getElem? (i := 67) rfl))), by decide +kernel⟩
theorem kw_310 : (Jvm.Cond.methodLink "ShiftSignaturesLaw" (19 : Nat) ({ cls := "ShiftSignatures", name := "power", desc := "(JJ)J" } : Jvm.MethodName)) ∈ gw := List.mem_filter.mpr ⟨List.mem_append_right _ (List.mem_append_right _ (List.mem_append_left _ (List.mem_of_getElem? (i := 70) rfl))), by decide +kernel⟩
theorem kw_314 : (Jvm.Cond.methodLink "ShiftSignatures" (64 : Nat) ({ cls := "ShiftSignatures", name := "requireNotNegative", desc := "(J)V" } : Jvm.MethodName)) ∈ gw := List.mem_filter.mpr ⟨List.mem_append_right _ (List.mem_append_right _ (List.mem_append_left _ (List.mem_of_getElem? (i := 74) rfl))), by decide +kernel⟩
theorem kw_320 : (Jvm.Cond.methodLink "ShiftSignaturesLaw" (99 : Nat) ({ cls := "ShiftSignaturesLaw", name := "load", desc := "(LShiftSignatures;J[J)I" } : Jvm.MethodName)) ∈ gw := List.mem_filter.mpr ⟨List.mem_append_right _ (List.mem_append_right _ (List.mem_append_left _ (List.mem_of_getElem? (i := 80) rfl))), by decide +kernel⟩
theorem kw_323 : (Jvm.Cond.methodLink "ShiftSignaturesLaw" (22 : Nat) ({ cls := "ShiftSignatures", name := "load", desc := "(J)J" } : Jvm.MethodName)) ∈ gw := List.mem_filter.mpr ⟨List.mem_append_right _ (List.mem_append_right _ (List.mem_append_left _ (List.mem_of_getElem? (i := 83) rfl))), by decide +kernel⟩
theorem kw_327 : (Jvm.Cond.methodLink "ShiftSignaturesLaw" (102 : Nat) ({ cls := "ShiftSignaturesLaw", name := "steps", desc := "(LShiftSignatures;J[J)I" } : Jvm.MethodName)) ∈ gw := List.mem_filter.mpr ⟨List.mem_append_right _ (List.mem_append_right _ (List.mem_append_left _ (List.mem_of_getElem? (i := 87) rfl))), by decide +kernel⟩
theorem kw_330 : (Jvm.Cond.methodLink "ShiftSignaturesLaw" (26 : Nat) ({ cls := "ShiftSignatures", name := "steps", desc := "(J)J" } : Jvm.MethodName)) ∈ gw := List.mem_filter.mpr ⟨List.mem_append_right _ (List.mem_append_right _ (List.mem_append_left _ (List.mem_of_getElem? (i := 90) rfl))), by decide +kernel⟩
theorem kw_334 : (Jvm.Cond.methodLink "ShiftSignaturesLaw" (105 : Nat) ({ cls := "ShiftSignaturesLaw", name := "channel", desc := "(LShiftSignatures;J[J)I" } : Jvm.MethodName)) ∈ gw := List.mem_filter.mpr ⟨List.mem_append_right _ (List.mem_append_right _ (List.mem_append_left _ (List.mem_of_getElem? (i := 94) rfl))), by decide +kernel⟩
theorem kw_338 : (Jvm.Cond.methodLink "ShiftSignaturesLaw" (29 : Nat) ({ cls := "ShiftSignatures", name := "channel", desc := "(J)I" } : Jvm.MethodName)) ∈ gw := List.mem_filter.mpr ⟨List.mem_append_right _ (List.mem_append_right _ (List.mem_append_left _ (List.mem_of_getElem? (i := 98) rfl))), by decide +kernel⟩
theorem kw_352 : (Jvm.Cond.methodLink "ShiftSignatures" (104 : Nat) ({ cls := "java/lang/IllegalStateException", name := "<init>", desc := "(Ljava/lang/String;)V" } : Jvm.MethodName)) ∈ gw := List.mem_filter.mpr ⟨List.mem_append_right _ (List.mem_append_right _ (List.mem_append_left _ (List.mem_of_getElem? (i := 112) rfl))), by decide +kernel⟩
theorem kw_355 : (Jvm.Cond.methodLink "java/lang/IllegalStateException" (7 : Nat) ({ cls := "java/lang/RuntimeException", name := "<init>", desc := "(Ljava/lang/String;)V" } : Jvm.MethodName)) ∈ gw := List.mem_filter.mpr ⟨List.mem_append_right _ (List.mem_append_right _ (List.mem_append_left _ (List.mem_of_getElem? (i := 115) rfl))), by decide +kernel⟩
theorem kw_358 : (Jvm.Cond.methodLink "ShiftSignaturesLaw" (112 : Nat) ({ cls := "ShiftSignaturesLaw", name := "gate", desc := "(LShiftSignatures;III[J)I" } : Jvm.MethodName)) ∈ gw := List.mem_filter.mpr ⟨List.mem_append_right _ (List.mem_append_right _ (List.mem_append_left _ (List.mem_of_getElem? (i := 118) rfl))), by decide +kernel⟩
theorem kw_362 : (Jvm.Cond.methodLink "ShiftSignaturesLaw" (34 : Nat) ({ cls := "ShiftSignatures", name := "gate", desc := "(III)I" } : Jvm.MethodName)) ∈ gw := List.mem_filter.mpr ⟨List.mem_append_right _ (List.mem_append_right _ (List.mem_append_left _ (List.mem_of_getElem? (i := 122) rfl))), by decide +kernel⟩
theorem kw_367 : (Jvm.Cond.methodLink "ShiftSignatures" (110 : Nat) ({ cls := "ShiftSignatures", name := "requireLine", desc := "(I)V" } : Jvm.MethodName)) ∈ gw := List.mem_filter.mpr ⟨List.mem_append_right _ (List.mem_append_right _ (List.mem_append_left _ (List.mem_of_getElem? (i := 127) rfl))), by decide +kernel⟩
theorem kw_385 : (Jvm.Cond.methodLink "ShiftSignatures" (148 : Nat) ({ cls := "java/lang/IndexOutOfBoundsException", name := "<init>", desc := "(Ljava/lang/String;)V" } : Jvm.MethodName)) ∈ gw := List.mem_filter.mpr ⟨List.mem_append_right _ (List.mem_append_right _ (List.mem_append_left _ (List.mem_of_getElem? (i := 145) rfl))), by decide +kernel⟩
theorem kw_388 : (Jvm.Cond.methodLink "java/lang/IndexOutOfBoundsException" (7 : Nat) ({ cls := "java/lang/RuntimeException", name := "<init>", desc := "(Ljava/lang/String;)V" } : Jvm.MethodName)) ∈ gw := List.mem_filter.mpr ⟨List.mem_append_right _ (List.mem_append_right _ (List.mem_append_left _ (List.mem_of_getElem? (i := 148) rfl))), by decide +kernel⟩
theorem kw_396 : (Jvm.Cond.methodLink "ShiftSignatures$Circuit" (38 : Nat) ({ cls := "ShiftSignatures$Circuit", name := "countLines", desc := "()I" } : Jvm.MethodName)) ∈ gw := List.mem_filter.mpr ⟨List.mem_append_right _ (List.mem_append_right _ (List.mem_append_left _ (List.mem_of_getElem? (i := 156) rfl))), by decide +kernel⟩
theorem kw_397 : (Jvm.Cond.methodLink "ShiftSignaturesLaw" (116 : Nat) ({ cls := "ShiftSignaturesLaw", name := "output", desc := "(LShiftSignatures;I[J)I" } : Jvm.MethodName)) ∈ gw := List.mem_filter.mpr ⟨List.mem_append_right _ (List.mem_append_right _ (List.mem_append_left _ (List.mem_of_getElem? (i := 157) rfl))), by decide +kernel⟩
theorem kw_400 : (Jvm.Cond.methodLink "ShiftSignaturesLaw" (40 : Nat) ({ cls := "ShiftSignatures", name := "output", desc := "(I)I" } : Jvm.MethodName)) ∈ gw := List.mem_filter.mpr ⟨List.mem_append_right _ (List.mem_append_right _ (List.mem_append_left _ (List.mem_of_getElem? (i := 160) rfl))), by decide +kernel⟩
theorem kw_409 : (Jvm.Cond.methodLink "ShiftSignaturesLaw" (120 : Nat) ({ cls := "ShiftSignaturesLaw", name := "answer", desc := "(LShiftSignatures;II[J)I" } : Jvm.MethodName)) ∈ gw := List.mem_filter.mpr ⟨List.mem_append_right _ (List.mem_append_right _ (List.mem_append_left _ (List.mem_of_getElem? (i := 169) rfl))), by decide +kernel⟩
theorem kw_412 : (Jvm.Cond.methodLink "ShiftSignaturesLaw" (44 : Nat) ({ cls := "ShiftSignatures", name := "answer", desc := "(II)I" } : Jvm.MethodName)) ∈ gw := List.mem_filter.mpr ⟨List.mem_append_right _ (List.mem_append_right _ (List.mem_append_left _ (List.mem_of_getElem? (i := 172) rfl))), by decide +kernel⟩
theorem kw_416 : (Jvm.Cond.methodLink "ShiftSignatures" (131 : Nat) ({ cls := "ShiftSignatures", name := "requireFaultOrNone", desc := "(I)V" } : Jvm.MethodName)) ∈ gw := List.mem_filter.mpr ⟨List.mem_append_right _ (List.mem_append_right _ (List.mem_append_left _ (List.mem_of_getElem? (i := 176) rfl))), by decide +kernel⟩
theorem kw_420 : (Jvm.Cond.methodLink "ShiftSignatures" (170 : Nat) ({ cls := "ShiftSignatures", name := "requireFault", desc := "(I)V" } : Jvm.MethodName)) ∈ gw := List.mem_filter.mpr ⟨List.mem_append_right _ (List.mem_append_right _ (List.mem_append_left _ (List.mem_of_getElem? (i := 180) rfl))), by decide +kernel⟩
theorem kw_433 : (Jvm.Cond.methodLink "ShiftSignatures$Circuit" (42 : Nat) ({ cls := "ShiftSignatures$Circuit", name := "settle", desc := "(IZ)V" } : Jvm.MethodName)) ∈ gw := List.mem_filter.mpr ⟨List.mem_append_right _ (List.mem_append_right _ (List.mem_append_left _ (List.mem_of_getElem? (i := 193) rfl))), by decide +kernel⟩
theorem kw_437 : (Jvm.Cond.methodLink "ShiftSignatures$Circuit" (50 : Nat) ({ cls := "ShiftSignatures$Circuit", name := "spread", desc := "(I)J" } : Jvm.MethodName)) ∈ gw := List.mem_filter.mpr ⟨List.mem_append_right _ (List.mem_append_right _ (List.mem_append_left _ (List.mem_of_getElem? (i := 197) rfl))), by decide +kernel⟩
theorem kw_440 : (Jvm.Cond.methodLink "ShiftSignatures$Circuit" (53 : Nat) ({ cls := "ShiftSignatures$Circuit", name := "valuesOfGate", desc := "(I)J" } : Jvm.MethodName)) ∈ gw := List.mem_filter.mpr ⟨List.mem_append_right _ (List.mem_append_right _ (List.mem_append_left _ (List.mem_of_getElem? (i := 200) rfl))), by decide +kernel⟩
theorem kw_445 : (Jvm.Cond.methodLink "ShiftSignatures$Circuit" (56 : Nat) ({ cls := "ShiftSignatures$Circuit", name := "withStuck", desc := "(JI)J" } : Jvm.MethodName)) ∈ gw := List.mem_filter.mpr ⟨List.mem_append_right _ (List.mem_append_right _ (List.mem_append_left _ (List.mem_of_getElem? (i := 205) rfl))), by decide +kernel⟩
theorem kw_448 : (Jvm.Cond.methodLink "ShiftSignatures$Circuit" (46 : Nat) ({ cls := "ShiftSignatures$Circuit", name := "valuesOfOutput", desc := "(I)J" } : Jvm.MethodName)) ∈ gw := List.mem_filter.mpr ⟨List.mem_append_right _ (List.mem_append_right _ (List.mem_append_left _ (List.mem_of_getElem? (i := 208) rfl))), by decide +kernel⟩
theorem kw_452 : (Jvm.Cond.methodLink "ShiftSignaturesLaw" (124 : Nat) ({ cls := "ShiftSignaturesLaw", name := "session", desc := "(LShiftSignatures;II[J)I" } : Jvm.MethodName)) ∈ gw := List.mem_filter.mpr ⟨List.mem_append_right _ (List.mem_append_right _ (List.mem_append_left _ (List.mem_of_getElem? (i := 212) rfl))), by decide +kernel⟩
theorem kw_455 : (Jvm.Cond.methodLink "ShiftSignaturesLaw" (48 : Nat) ({ cls := "ShiftSignatures", name := "session", desc := "(II)J" } : Jvm.MethodName)) ∈ gw := List.mem_filter.mpr ⟨List.mem_append_right _ (List.mem_append_right _ (List.mem_append_left _ (List.mem_of_getElem? (i := 215) rfl))), by decide +kernel⟩
theorem kw_459 : (Jvm.Cond.methodLink "ShiftSignatures" (138 : Nat) ({ cls := "ShiftSignatures", name := "requirePatterns", desc := "(I)V" } : Jvm.MethodName)) ∈ gw := List.mem_filter.mpr ⟨List.mem_append_right _ (List.mem_append_right _ (List.mem_append_left _ (List.mem_of_getElem? (i := 219) rfl))), by decide +kernel⟩
theorem kw_465 : (Jvm.Cond.methodLink "ShiftSignaturesLaw" (127 : Nat) ({ cls := "ShiftSignaturesLaw", name := "faults", desc := "(LShiftSignatures;II[J)I" } : Jvm.MethodName)) ∈ gw := List.mem_filter.mpr ⟨List.mem_append_right _ (List.mem_append_right _ (List.mem_append_left _ (List.mem_of_getElem? (i := 225) rfl))), by decide +kernel⟩
theorem kw_468 : (Jvm.Cond.methodLink "ShiftSignaturesLaw" (52 : Nat) ({ cls := "ShiftSignatures", name := "faults", desc := "(II)I" } : Jvm.MethodName)) ∈ gw := List.mem_filter.mpr ⟨List.mem_append_right _ (List.mem_append_right _ (List.mem_append_left _ (List.mem_of_getElem? (i := 228) rfl))), by decide +kernel⟩
theorem kw_473 : (Jvm.Cond.methodLink "ShiftSignatures" (153 : Nat) ({ cls := "ShiftSignatures", name := "compareAllFaults", desc := "(I)V" } : Jvm.MethodName)) ∈ gw := List.mem_filter.mpr ⟨List.mem_append_right _ (List.mem_append_right _ (List.mem_append_left _ (List.mem_of_getElem? (i := 233) rfl))), by decide +kernel⟩
theorem kw_497 : (Jvm.Cond.methodLink "ShiftSignatures$Differences" (48 : Nat) ({ cls := "ShiftSignatures$Differences", name := "subtract", desc := "(JJI)V" } : Jvm.MethodName)) ∈ gw := List.mem_filter.mpr ⟨List.mem_append_right _ (List.mem_append_right _ (List.mem_append_right _ (List.mem_append_left _ (List.mem_of_getElem? (i := 17) rfl)))), by decide +kernel⟩
theorem kw_505 : (Jvm.Cond.methodLink "ShiftSignatures" (167 : Nat) ({ cls := "ShiftSignatures", name := "lowestBit", desc := "(J)I" } : Jvm.MethodName)) ∈ gw := List.mem_filter.mpr ⟨List.mem_append_right _ (List.mem_append_right _ (List.mem_append_right _ (List.mem_append_left _ (List.mem_of_getElem? (i := 25) rfl)))), by decide +kernel⟩
theorem kw_508 : (Jvm.Cond.methodLink "ShiftSignatures" (204 : Nat) ({ cls := "java/lang/Long", name := "numberOfTrailingZeros", desc := "(J)I" } : Jvm.MethodName)) ∈ gw := List.mem_filter.mpr ⟨List.mem_append_right _ (List.mem_append_right _ (List.mem_append_right _ (List.mem_append_left _ (List.mem_of_getElem? (i := 28) rfl)))), by decide +kernel⟩
theorem kw_511 : (Jvm.Cond.methodLink "java/lang/Long" (311 : Nat) ({ cls := "java/lang/Integer", name := "numberOfTrailingZeros", desc := "(I)I" } : Jvm.MethodName)) ∈ gw := List.mem_filter.mpr ⟨List.mem_append_right _ (List.mem_append_right _ (List.mem_append_right _ (List.mem_append_left _ (List.mem_of_getElem? (i := 31) rfl)))), by decide +kernel⟩
theorem kw_514 : (Jvm.Cond.methodLink "ShiftSignaturesLaw" (130 : Nat) ({ cls := "ShiftSignaturesLaw", name := "first", desc := "(LShiftSignatures;II[J)I" } : Jvm.MethodName)) ∈ gw := List.mem_filter.mpr ⟨List.mem_append_right _ (List.mem_append_right _ (List.mem_append_right _ (List.mem_append_left _ (List.mem_of_getElem? (i := 34) rfl)))), by decide +kernel⟩
theorem kw_517 : (Jvm.Cond.methodLink "ShiftSignaturesLaw" (55 : Nat) ({ cls := "ShiftSignatures", name := "first", desc := "(II)I" } : Jvm.MethodName)) ∈ gw := List.mem_filter.mpr ⟨List.mem_append_right _ (List.mem_append_right _ (List.mem_append_right _ (List.mem_append_left _ (List.mem_of_getElem? (i := 37) rfl)))), by decide +kernel⟩
theorem kw_523 : (Jvm.Cond.methodLink "ShiftSignaturesLaw" (61 : Nat) ({ cls := "ShiftSignaturesModel", name := "<init>", desc := "()V" } : Jvm.MethodName)) ∈ gw := List.mem_filter.mpr ⟨List.mem_append_right _ (List.mem_append_right _ (List.mem_append_right _ (List.mem_append_left _ (List.mem_of_getElem? (i := 43) rfl)))), by decide +kernel⟩
theorem kw_526 : (Jvm.Cond.methodLink "ShiftSignaturesModel" (1 : Nat) ({ cls := "java/lang/Object", name := "<init>", desc := "()V" } : Jvm.MethodName)) ∈ gw := List.mem_filter.mpr ⟨List.mem_append_right _ (List.mem_append_right _ (List.mem_append_right _ (List.mem_append_left _ (List.mem_of_getElem? (i := 46) rfl)))), by decide +kernel⟩
theorem kw_580 : (Jvm.Cond.methodLink "ShiftSignaturesLaw" (70 : Nat) ({ cls := "ShiftSignaturesModel", name := "thrown", desc := "()I" } : Jvm.MethodName)) ∈ gw := List.mem_filter.mpr ⟨List.mem_append_right _ (List.mem_append_right _ (List.mem_append_right _ (List.mem_append_left _ (List.mem_of_getElem? (i := 100) rfl)))), by decide +kernel⟩
theorem kw_584 : (Jvm.Cond.methodLink "ShiftSignaturesLaw" (69 : Nat) ({ cls := "ShiftSignaturesModel", name := "polynomial", desc := "(J)I" } : Jvm.MethodName)) ∈ gw := List.mem_filter.mpr ⟨List.mem_append_right _ (List.mem_append_right _ (List.mem_append_right _ (List.mem_append_left _ (List.mem_of_getElem? (i := 104) rfl)))), by decide +kernel⟩
theorem kw_588 : (Jvm.Cond.methodLink "ShiftSignaturesModel" (57 : Nat) ({ cls := "ShiftSignaturesModel", name := "refused", desc := "(I)Z" } : Jvm.MethodName)) ∈ gw := List.mem_filter.mpr ⟨List.mem_append_right _ (List.mem_append_right _ (List.mem_append_right _ (List.mem_append_left _ (List.mem_of_getElem? (i := 108) rfl)))), by decide +kernel⟩
theorem kw_592 : (Jvm.Cond.methodLink "ShiftSignaturesModel" (70 : Nat) ({ cls := "ShiftSignaturesModel", name := "clearCircuit", desc := "()V" } : Jvm.MethodName)) ∈ gw := List.mem_filter.mpr ⟨List.mem_append_right _ (List.mem_append_right _ (List.mem_append_right _ (List.mem_append_left _ (List.mem_of_getElem? (i := 112) rfl)))), by decide +kernel⟩
theorem kw_596 : (Jvm.Cond.methodLink "ShiftSignaturesLaw" (77 : Nat) ({ cls := "ShiftSignaturesModel", name := "times", desc := "(JJ)J" } : Jvm.MethodName)) ∈ gw := List.mem_filter.mpr ⟨List.mem_append_right _ (List.mem_append_right _ (List.mem_append_right _ (List.mem_append_left _ (List.mem_of_getElem? (i := 116) rfl)))), by decide +kernel⟩
theorem kw_600 : (Jvm.Cond.methodLink "ShiftSignaturesModel" (90 : Nat) ({ cls := "ShiftSignaturesModel", name := "isResidue", desc := "(J)Z" } : Jvm.MethodName)) ∈ gw := List.mem_filter.mpr ⟨List.mem_append_right _ (List.mem_append_right _ (List.mem_append_right _ (List.mem_append_left _ (List.mem_of_getElem? (i := 120) rfl)))), by decide +kernel⟩
theorem kw_604 : (Jvm.Cond.methodLink "ShiftSignaturesModel" (82 : Nat) ({ cls := "ShiftSignaturesModel", name := "product", desc := "(JJ)J" } : Jvm.MethodName)) ∈ gw := List.mem_filter.mpr ⟨List.mem_append_right _ (List.mem_append_right _ (List.mem_append_right _ (List.mem_append_left _ (List.mem_of_getElem? (i := 124) rfl)))), by decide +kernel⟩
theorem kw_608 : (Jvm.Cond.methodLink "ShiftSignaturesModel" (75 : Nat) ({ cls := "ShiftSignaturesModel", name := "step", desc := "(J)J" } : Jvm.MethodName)) ∈ gw := List.mem_filter.mpr ⟨List.mem_append_right _ (List.mem_append_right _ (List.mem_append_right _ (List.mem_append_left _ (List.mem_of_getElem? (i := 128) rfl)))), by decide +kernel⟩
theorem kw_613 : (Jvm.Cond.methodLink "ShiftSignaturesLaw" (80 : Nat) ({ cls := "ShiftSignaturesModel", name := "power", desc := "(JJ)J" } : Jvm.MethodName)) ∈ gw := List.mem_filter.mpr ⟨List.mem_append_right _ (List.mem_append_right _ (List.mem_append_right _ (List.mem_append_left _ (List.mem_of_getElem? (i := 133) rfl)))), by decide +kernel⟩
theorem kw_617 : (Jvm.Cond.methodLink "ShiftSignaturesModel" (94 : Nat) ({ cls := "ShiftSignaturesModel", name := "raised", desc := "(JJ)J" } : Jvm.MethodName)) ∈ gw := List.mem_filter.mpr ⟨List.mem_append_right _ (List.mem_append_right _ (List.mem_append_right _ (List.mem_append_left _ (List.mem_of_getElem? (i := 137) rfl)))), by decide +kernel⟩
theorem kw_621 : (Jvm.Cond.methodLink "ShiftSignaturesModel" (79 : Nat) ({ cls := "ShiftSignaturesModel", name := "reduced", desc := "(J)J" } : Jvm.MethodName)) ∈ gw := List.mem_filter.mpr ⟨List.mem_append_right _ (List.mem_append_right _ (List.mem_append_right _ (List.mem_append_left _ (List.mem_of_getElem? (i := 141) rfl)))), by decide +kernel⟩
theorem kw_625 : (Jvm.Cond.methodLink "ShiftSignaturesModel" (86 : Nat) ({ cls := "ShiftSignaturesModel", name := "left", desc := "(JJI)J" } : Jvm.MethodName)) ∈ gw := List.mem_filter.mpr ⟨List.mem_append_right _ (List.mem_append_right _ (List.mem_append_right _ (List.mem_append_left _ (List.mem_of_getElem? (i := 145) rfl)))), by decide +kernel⟩
theorem kw_628 : (Jvm.Cond.methodLink "ShiftSignaturesLaw" (84 : Nat) ({ cls := "ShiftSignaturesModel", name := "residue", desc := "(J)J" } : Jvm.MethodName)) ∈ gw := List.mem_filter.mpr ⟨List.mem_append_right _ (List.mem_append_right _ (List.mem_append_right _ (List.mem_append_left _ (List.mem_of_getElem? (i := 148) rfl)))), by decide +kernel⟩
theorem kw_632 : (Jvm.Cond.methodLink "ShiftSignaturesLaw" (89 : Nat) ({ cls := "ShiftSignaturesModel", name := "irreducible", desc := "()Z" } : Jvm.MethodName)) ∈ gw := List.mem_filter.mpr ⟨List.mem_append_right _ (List.mem_append_right _ (List.mem_append_right _ (List.mem_append_left _ (List.mem_of_getElem? (i := 152) rfl)))), by decide +kernel⟩
theorem kw_636 : (Jvm.Cond.methodLink "ShiftSignaturesModel" (97 : Nat) ({ cls := "ShiftSignaturesModel", name := "isProduct", desc := "()Z" } : Jvm.MethodName)) ∈ gw := List.mem_filter.mpr ⟨List.mem_append_right _ (List.mem_append_right _ (List.mem_append_right _ (List.mem_append_left _ (List.mem_of_getElem? (i := 156) rfl)))), by decide +kernel⟩
theorem kw_640 : (Jvm.Cond.methodLink "ShiftSignaturesLaw" (93 : Nat) ({ cls := "ShiftSignaturesModel", name := "primitive", desc := "()Z" } : Jvm.MethodName)) ∈ gw := List.mem_filter.mpr ⟨List.mem_append_right _ (List.mem_append_right _ (List.mem_append_right _ (List.mem_append_left _ (List.mem_of_getElem? (i := 160) rfl)))), by decide +kernel⟩
theorem kw_644 : (Jvm.Cond.methodLink "ShiftSignaturesLaw" (98 : Nat) ({ cls := "ShiftSignaturesModel", name := "order", desc := "()J" } : Jvm.MethodName)) ∈ gw := List.mem_filter.mpr ⟨List.mem_append_right _ (List.mem_append_right _ (List.mem_append_right _ (List.mem_append_left _ (List.mem_of_getElem? (i := 164) rfl)))), by decide +kernel⟩
theorem kw_649 : (Jvm.Cond.methodLink "ShiftSignaturesLaw" (101 : Nat) ({ cls := "ShiftSignaturesModel", name := "load", desc := "(J)J" } : Jvm.MethodName)) ∈ gw := List.mem_filter.mpr ⟨List.mem_append_right _ (List.mem_append_right _ (List.mem_append_right _ (List.mem_append_left _ (List.mem_of_getElem? (i := 169) rfl)))), by decide +kernel⟩
theorem kw_653 : (Jvm.Cond.methodLink "ShiftSignaturesLaw" (104 : Nat) ({ cls := "ShiftSignaturesModel", name := "steps", desc := "(J)J" } : Jvm.MethodName)) ∈ gw := List.mem_filter.mpr ⟨List.mem_append_right _ (List.mem_append_right _ (List.mem_append_right _ (List.mem_append_left _ (List.mem_of_getElem? (i := 173) rfl)))), by decide +kernel⟩
theorem kw_657 : (Jvm.Cond.methodLink "ShiftSignaturesLaw" (107 : Nat) ({ cls := "ShiftSignaturesModel", name := "channel", desc := "(J)I" } : Jvm.MethodName)) ∈ gw := List.mem_filter.mpr ⟨List.mem_append_right _ (List.mem_append_right _ (List.mem_append_right _ (List.mem_append_left _ (List.mem_of_getElem? (i := 177) rfl)))), by decide +kernel⟩
theorem kw_661 : (Jvm.Cond.methodLink "ShiftSignaturesLaw" (111 : Nat) ({ cls := "ShiftSignaturesModel", name := "pattern", desc := "()I" } : Jvm.MethodName)) ∈ gw := List.mem_filter.mpr ⟨List.mem_append_right _ (List.mem_append_right _ (List.mem_append_right _ (List.mem_append_left _ (List.mem_of_getElem? (i := 181) rfl)))), by decide +kernel⟩
theorem kw_665 : (Jvm.Cond.methodLink "ShiftSignaturesModel" (103 : Nat) ({ cls := "ShiftSignaturesModel", name := "patternOf", desc := "(J)I" } : Jvm.MethodName)) ∈ gw := List.mem_filter.mpr ⟨List.mem_append_right _ (List.mem_append_right _ (List.mem_append_right _ (List.mem_append_left _ (List.mem_of_getElem? (i := 185) rfl)))), by decide +kernel⟩
theorem kw_669 : (Jvm.Cond.methodLink "ShiftSignaturesLaw" (115 : Nat) ({ cls := "ShiftSignaturesModel", name := "gate", desc := "(III)I" } : Jvm.MethodName)) ∈ gw := List.mem_filter.mpr ⟨List.mem_append_right _ (List.mem_append_right _ (List.mem_append_right _ (List.mem_append_left _ (List.mem_of_getElem? (i := 189) rfl)))), by decide +kernel⟩
theorem kw_673 : (Jvm.Cond.methodLink "ShiftSignaturesModel" (107 : Nat) ({ cls := "ShiftSignaturesModel", name := "isLine", desc := "(I)Z" } : Jvm.MethodName)) ∈ gw := List.mem_filter.mpr ⟨List.mem_append_right _ (List.mem_append_right _ (List.mem_append_right _ (List.mem_append_left _ (List.mem_of_getElem? (i := 193) rfl)))), by decide +kernel⟩
theorem kw_677 : (Jvm.Cond.methodLink "ShiftSignaturesLaw" (119 : Nat) ({ cls := "ShiftSignaturesModel", name := "output", desc := "(I)I" } : Jvm.MethodName)) ∈ gw := List.mem_filter.mpr ⟨List.mem_append_right _ (List.mem_append_right _ (List.mem_append_right _ (List.mem_append_left _ (List.mem_of_getElem? (i := 197) rfl)))), by decide +kernel⟩
theorem kw_681 : (Jvm.Cond.methodLink "ShiftSignaturesLaw" (123 : Nat) ({ cls := "ShiftSignaturesModel", name := "answer", desc := "(II)I" } : Jvm.MethodName)) ∈ gw := List.mem_filter.mpr ⟨List.mem_append_right _ (List.mem_append_right _ (List.mem_append_right _ (List.mem_append_left _ (List.mem_of_getElem? (i := 201) rfl)))), by decide +kernel⟩
theorem kw_685 : (Jvm.Cond.methodLink "ShiftSignaturesModel" (114 : Nat) ({ cls := "ShiftSignaturesModel", name := "isFault", desc := "(I)Z" } : Jvm.MethodName)) ∈ gw := List.mem_filter.mpr ⟨List.mem_append_right _ (List.mem_append_right _ (List.mem_append_right _ (List.mem_append_left _ (List.mem_of_getElem? (i := 205) rfl)))), by decide +kernel⟩
theorem kw_689 : (Jvm.Cond.methodLink "ShiftSignaturesModel" (117 : Nat) ({ cls := "ShiftSignaturesModel", name := "answerTo", desc := "(II)I" } : Jvm.MethodName)) ∈ gw := List.mem_filter.mpr ⟨List.mem_append_right _ (List.mem_append_right _ (List.mem_append_right _ (List.mem_append_left _ (List.mem_of_getElem? (i := 209) rfl)))), by decide +kernel⟩
theorem kw_693 : (Jvm.Cond.methodLink "ShiftSignaturesModel" (110 : Nat) ({ cls := "ShiftSignaturesModel", name := "worth", desc := "(III)I" } : Jvm.MethodName)) ∈ gw := List.mem_filter.mpr ⟨List.mem_append_right _ (List.mem_append_right _ (List.mem_append_right _ (List.mem_append_left _ (List.mem_of_getElem? (i := 213) rfl)))), by decide +kernel⟩
theorem kw_696 : (Jvm.Cond.methodLink "ShiftSignaturesLaw" (126 : Nat) ({ cls := "ShiftSignaturesModel", name := "session", desc := "(II)J" } : Jvm.MethodName)) ∈ gw := List.mem_filter.mpr ⟨List.mem_append_right _ (List.mem_append_right _ (List.mem_append_right _ (List.mem_append_left _ (List.mem_of_getElem? (i := 216) rfl)))), by decide +kernel⟩
theorem kw_700 : (Jvm.Cond.methodLink "ShiftSignaturesModel" (121 : Nat) ({ cls := "ShiftSignaturesModel", name := "isCount", desc := "(I)Z" } : Jvm.MethodName)) ∈ gw := List.mem_filter.mpr ⟨List.mem_append_right _ (List.mem_append_right _ (List.mem_append_right _ (List.mem_append_left _ (List.mem_of_getElem? (i := 220) rfl)))), by decide +kernel⟩
theorem kw_703 : (Jvm.Cond.methodLink "ShiftSignaturesModel" (124 : Nat) ({ cls := "ShiftSignaturesModel", name := "prepare", desc := "(I)V" } : Jvm.MethodName)) ∈ gw := List.mem_filter.mpr ⟨List.mem_append_right _ (List.mem_append_right _ (List.mem_append_right _ (List.mem_append_left _ (List.mem_of_getElem? (i := 223) rfl)))), by decide +kernel⟩
theorem kw_707 : (Jvm.Cond.methodLink "ShiftSignaturesModel" (128 : Nat) ({ cls := "ShiftSignaturesModel", name := "signature", desc := "(II)J" } : Jvm.MethodName)) ∈ gw := List.mem_filter.mpr ⟨List.mem_append_right _ (List.mem_append_right _ (List.mem_append_right _ (List.mem_append_left _ (List.mem_of_getElem? (i := 227) rfl)))), by decide +kernel⟩
theorem kw_711 : (Jvm.Cond.methodLink "ShiftSignaturesLaw" (129 : Nat) ({ cls := "ShiftSignaturesModel", name := "faults", desc := "(II)I" } : Jvm.MethodName)) ∈ gw := List.mem_filter.mpr ⟨List.mem_append_right _ (List.mem_append_right _ (List.mem_append_right _ (List.mem_append_left _ (List.mem_of_getElem? (i := 231) rfl)))), by decide +kernel⟩
theorem kw_715 : (Jvm.Cond.methodLink "ShiftSignaturesModel" (132 : Nat) ({ cls := "ShiftSignaturesModel", name := "firstSeen", desc := "(II)I" } : Jvm.MethodName)) ∈ gw := List.mem_filter.mpr ⟨List.mem_append_right _ (List.mem_append_right _ (List.mem_append_right _ (List.mem_append_left _ (List.mem_of_getElem? (i := 235) rfl)))), by decide +kernel⟩
theorem kw_719 : (Jvm.Cond.methodLink "ShiftSignaturesLaw" (132 : Nat) ({ cls := "ShiftSignaturesModel", name := "first", desc := "(II)I" } : Jvm.MethodName)) ∈ gw := List.mem_filter.mpr ⟨List.mem_append_right _ (List.mem_append_right _ (List.mem_append_right _ (List.mem_append_left _ (List.mem_of_getElem? (i := 239) rfl)))), by decide +kernel⟩
theorem kw_17 : (Jvm.Cond.instanceMethod ({ cls := "ShiftSignatures", name := "<init>", desc := "()V" } : Jvm.MethodName)) ∈ gw := List.mem_filter.mpr ⟨List.mem_append_right _ (List.mem_append_left _ (List.mem_of_getElem? (i := 17) rfl)), by decide +kernel⟩
theorem kw_20 : (Jvm.Cond.instanceMethod ({ cls := "java/lang/Object", name := "<init>", desc := "()V" } : Jvm.MethodName)) ∈ gw := List.mem_filter.mpr ⟨List.mem_append_right _ (List.mem_append_left _ (List.mem_of_getElem? (i := 20) rfl)), by decide +kernel⟩
theorem kw_25 : (Jvm.Cond.instanceMethod ({ cls := "ShiftSignatures$Modulus", name := "<init>", desc := "()V" } : Jvm.MethodName)) ∈ gw := List.mem_filter.mpr ⟨List.mem_append_right _ (List.mem_append_left _ (List.mem_of_getElem? (i := 25) rfl)), by decide +kernel⟩
theorem kw_46 : (Jvm.Cond.instanceMethod ({ cls := "ShiftSignatures$Circuit", name := "<init>", desc := "()V" } : Jvm.MethodName)) ∈ gw := List.mem_filter.mpr ⟨List.mem_append_right _ (List.mem_append_left _ (List.mem_of_getElem? (i := 46) rfl)), by decide +kernel⟩
theorem kw_83 : (Jvm.Cond.instanceMethod ({ cls := "ShiftSignatures$Differences", name := "<init>", desc := "()V" } : Jvm.MethodName)) ∈ gw := List.mem_filter.mpr ⟨List.mem_append_right _ (List.mem_append_left _ (List.mem_of_getElem? (i := 83) rfl)), by decide +kernel⟩
theorem kw_111 : (Jvm.Cond.instanceMethod ({ cls := "ShiftSignatures", name := "residue", desc := "(J)J" } : Jvm.MethodName)) ∈ gw := List.mem_filter.mpr ⟨List.mem_append_right _ (List.mem_append_left _ (List.mem_of_getElem? (i := 111) rfl)), by decide +kernel⟩
theorem kw_116 : (Jvm.Cond.instanceMethod ({ cls := "ShiftSignatures$Modulus", name := "reduced", desc := "(J)J" } : Jvm.MethodName)) ∈ gw := List.mem_filter.mpr ⟨List.mem_append_right _ (List.mem_append_left _ (List.mem_of_getElem? (i := 116) rfl)), by decide +kernel⟩
theorem kw_132 : (Jvm.Cond.instanceMethod ({ cls := "ShiftSignatures", name := "irreducible", desc := "()Z" } : Jvm.MethodName)) ∈ gw := List.mem_filter.mpr ⟨List.mem_append_right _ (List.mem_append_left _ (List.mem_of_getElem? (i := 132) rfl)), by decide +kernel⟩
theorem kw_137 : (Jvm.Cond.instanceMethod ({ cls := "ShiftSignatures$Modulus", name := "isIrreducible", desc := "()Z" } : Jvm.MethodName)) ∈ gw := List.mem_filter.mpr ⟨List.mem_append_right _ (List.mem_append_left _ (List.mem_of_getElem? (i := 137) rfl)), by decide +kernel⟩
theorem kw_141 : (Jvm.Cond.instanceMethod ({ cls := "ShiftSignatures$Modulus", name := "product", desc := "(JJ)J" } : Jvm.MethodName)) ∈ gw := List.mem_filter.mpr ⟨List.mem_append_right _ (List.mem_append_left _ (List.mem_of_getElem? (i := 141) rfl)), by decide +kernel⟩
theorem kw_145 : (Jvm.Cond.instanceMethod ({ cls := "ShiftSignatures$Modulus", name := "stepped", desc := "(J)J" } : Jvm.MethodName)) ∈ gw := List.mem_filter.mpr ⟨List.mem_append_right _ (List.mem_append_left _ (List.mem_of_getElem? (i := 145) rfl)), by decide +kernel⟩
theorem kw_151 : (Jvm.Cond.instanceMethod ({ cls := "ShiftSignatures", name := "primitive", desc := "()Z" } : Jvm.MethodName)) ∈ gw := List.mem_filter.mpr ⟨List.mem_append_right _ (List.mem_append_left _ (List.mem_of_getElem? (i := 151) rfl)), by decide +kernel⟩
theorem kw_156 : (Jvm.Cond.instanceMethod ({ cls := "ShiftSignatures$Modulus", name := "isPrimitive", desc := "()Z" } : Jvm.MethodName)) ∈ gw := List.mem_filter.mpr ⟨List.mem_append_right _ (List.mem_append_left _ (List.mem_of_getElem? (i := 156) rfl)), by decide +kernel⟩
theorem kw_160 : (Jvm.Cond.instanceMethod ({ cls := "ShiftSignatures$Modulus", name := "raised", desc := "(JJ)J" } : Jvm.MethodName)) ∈ gw := List.mem_filter.mpr ⟨List.mem_append_right _ (List.mem_append_left _ (List.mem_of_getElem? (i := 160) rfl)), by decide +kernel⟩
theorem kw_164 : (Jvm.Cond.instanceMethod ({ cls := "ShiftSignatures$Modulus", name := "orderWithin", desc := "(J)J" } : Jvm.MethodName)) ∈ gw := List.mem_filter.mpr ⟨List.mem_append_right _ (List.mem_append_left _ (List.mem_of_getElem? (i := 164) rfl)), by decide +kernel⟩
theorem kw_170 : (Jvm.Cond.instanceMethod ({ cls := "ShiftSignatures$Modulus", name := "withoutNeedless", desc := "(JJ)J" } : Jvm.MethodName)) ∈ gw := List.mem_filter.mpr ⟨List.mem_append_right _ (List.mem_append_left _ (List.mem_of_getElem? (i := 170) rfl)), by decide +kernel⟩
theorem kw_173 : (Jvm.Cond.instanceMethod ({ cls := "ShiftSignatures", name := "order", desc := "()J" } : Jvm.MethodName)) ∈ gw := List.mem_filter.mpr ⟨List.mem_append_right _ (List.mem_append_left _ (List.mem_of_getElem? (i := 173) rfl)), by decide +kernel⟩
theorem kw_179 : (Jvm.Cond.instanceMethod ({ cls := "ShiftSignatures$Modulus", name := "multipleOfOrder", desc := "()J" } : Jvm.MethodName)) ∈ gw := List.mem_filter.mpr ⟨List.mem_append_right _ (List.mem_append_left _ (List.mem_of_getElem? (i := 179) rfl)), by decide +kernel⟩
theorem kw_190 : (Jvm.Cond.instanceMethod ({ cls := "ShiftSignatures", name := "pattern", desc := "()I" } : Jvm.MethodName)) ∈ gw := List.mem_filter.mpr ⟨List.mem_append_right _ (List.mem_append_left _ (List.mem_of_getElem? (i := 190) rfl)), by decide +kernel⟩
theorem kw_195 : (Jvm.Cond.instanceMethod ({ cls := "ShiftSignatures", name := "patternOf", desc := "(J)I" } : Jvm.MethodName)) ∈ gw := List.mem_filter.mpr ⟨List.mem_append_right _ (List.mem_append_left _ (List.mem_of_getElem? (i := 195) rfl)), by decide +kernel⟩
theorem kw_208 : (Jvm.Cond.instanceMethod ({ cls := "ShiftSignatures", name := "polynomial", desc := "(J)I" } : Jvm.MethodName)) ∈ gw := List.mem_filter.mpr ⟨List.mem_append_right _ (List.mem_append_left _ (List.mem_of_getElem? (i := 208) rfl)), by decide +kernel⟩
theorem kw_235 : (Jvm.Cond.instanceMethod ({ cls := "java/lang/Throwable", name := "<init>", desc := "()V" } : Jvm.MethodName)) ∈ gw := List.mem_filter.mpr ⟨List.mem_append_right _ (List.mem_append_left _ (List.mem_of_getElem? (i := 235) rfl)), by decide +kernel⟩
theorem kw_243 : (Jvm.Cond.instanceMethod ({ cls := "java/lang/Throwable", name := "fillInStackTrace", desc := "()Ljava/lang/Throwable;" } : Jvm.MethodName)) ∈ gw := List.mem_filter.mpr ⟨List.mem_append_right _ (List.mem_append_right _ (List.mem_append_left _ (List.mem_of_getElem? (i := 3) rfl))), by decide +kernel⟩
theorem kw_250 : (Jvm.Cond.instanceMethod ({ cls := "java/lang/Throwable", name := "fillInStackTrace", desc := "(I)Ljava/lang/Throwable;" } : Jvm.MethodName)) ∈ gw := List.mem_filter.mpr ⟨List.mem_append_right _ (List.mem_append_right _ (List.mem_append_left _ (List.mem_of_getElem? (i := 10) rfl))), by decide +kernel⟩
theorem kw_255 : (Jvm.Cond.instanceMethod ({ cls := "java/lang/IllegalArgumentException", name := "<init>", desc := "(Ljava/lang/String;)V" } : Jvm.MethodName)) ∈ gw := List.mem_filter.mpr ⟨List.mem_append_right _ (List.mem_append_right _ (List.mem_append_left _ (List.mem_of_getElem? (i := 15) rfl))), by decide +kernel⟩
theorem kw_258 : (Jvm.Cond.instanceMethod ({ cls := "java/lang/RuntimeException", name := "<init>", desc := "(Ljava/lang/String;)V" } : Jvm.MethodName)) ∈ gw := List.mem_filter.mpr ⟨List.mem_append_right _ (List.mem_append_right _ (List.mem_append_left _ (List.mem_of_getElem? (i := 18) rfl))), by decide +kernel⟩
theorem kw_261 : (Jvm.Cond.instanceMethod ({ cls := "java/lang/Exception", name := "<init>", desc := "(Ljava/lang/String;)V" } : Jvm.MethodName)) ∈ gw := List.mem_filter.mpr ⟨List.mem_append_right _ (List.mem_append_right _ (List.mem_append_left _ (List.mem_of_getElem? (i := 21) rfl))), by decide +kernel⟩
theorem kw_264 : (Jvm.Cond.instanceMethod ({ cls := "java/lang/Throwable", name := "<init>", desc := "(Ljava/lang/String;)V" } : Jvm.MethodName)) ∈ gw := List.mem_filter.mpr ⟨List.mem_append_right _ (List.mem_append_right _ (List.mem_append_left _ (List.mem_of_getElem? (i := 24) rfl))), by decide +kernel⟩
theorem kw_282 : (Jvm.Cond.instanceMethod ({ cls := "ShiftSignatures$Modulus", name := "become", desc := "(J)V" } : Jvm.MethodName)) ∈ gw := List.mem_filter.mpr ⟨List.mem_append_right _ (List.mem_append_right _ (List.mem_append_left _ (List.mem_of_getElem? (i := 42) rfl))), by decide +kernel⟩
theorem kw_288 : (Jvm.Cond.instanceMethod ({ cls := "ShiftSignatures$Circuit", name := "restart", desc := "(I)V" } : Jvm.MethodName)) ∈ gw := List.mem_filter.mpr ⟨List.mem_append_right _ (List.mem_append_right _ (List.mem_append_left _ (List.mem_of_getElem? (i := 48) rfl))), by decide +kernel⟩
theorem kw_294 : (Jvm.Cond.instanceMethod ({ cls := "ShiftSignatures", name := "times", desc := "(JJ)J" } : Jvm.MethodName)) ∈ gw := List.mem_filter.mpr ⟨List.mem_append_right _ (List.mem_append_right _ (List.mem_append_left _ (List.mem_of_getElem? (i := 54) rfl))), by decide +kernel⟩
theorem kw_299 : (Jvm.Cond.instanceMethod ({ cls := "ShiftSignatures", name := "requireResidue", desc := "(J)V" } : Jvm.MethodName)) ∈ gw := List.mem_filter.mpr ⟨List.mem_append_right _ (List.mem_append_right _ (List.mem_append_left _ (List.mem_of_getElem? (i := 59) rfl))), by decide +kernel⟩
theorem kw_303 : (Jvm.Cond.instanceMethod ({ cls := "ShiftSignatures$Modulus", name := "hasResidue", desc := "(J)Z" } : Jvm.MethodName)) ∈ gw := List.mem_filter.mpr ⟨List.mem_append_right _ (List.mem_append_right _ (List.mem_append_left _ (List.mem_of_getElem? (i := 63) rfl))), by decide +kernel⟩
theorem kw_311 : (Jvm.Cond.instanceMethod ({ cls := "ShiftSignatures", name := "power", desc := "(JJ)J" } : Jvm.MethodName)) ∈ gw := List.mem_filter.mpr ⟨List.mem_append_right _ (List.mem_append_right _ (List.mem_append_left _ (List.mem_of_getElem? (i := 71) rfl))), by decide +kernel⟩
theorem kw_316 : (Jvm.Cond.instanceMethod ({ cls := "ShiftSignatures", name := "requireNotNegative", desc := "(J)V" } : Jvm.MethodName)) ∈ gw := List.mem_filter.mpr ⟨List.mem_append_right _ (List.mem_append_right _ (List.mem_append_left _ (List.mem_of_getElem? (i := 76) rfl))), by decide +kernel⟩
theorem kw_324 : (Jvm.Cond.instanceMethod ({ cls := "ShiftSignatures", name := "load", desc := "(J)J" } : Jvm.MethodName)) ∈ gw := List.mem_filter.mpr ⟨List.mem_append_right _ (List.mem_append_right _ (List.mem_append_left _ (List.mem_of_getElem? (i := 84) rfl))), by decide +kernel⟩
theorem kw_331 : (Jvm.Cond.instanceMethod ({ cls := "ShiftSignatures", name := "steps", desc := "(J)J" } : Jvm.MethodName)) ∈ gw := List.mem_filter.mpr ⟨List.mem_append_right _ (List.mem_append_right _ (List.mem_append_left _ (List.mem_of_getElem? (i := 91) rfl))), by decide +kernel⟩
theorem kw_339 : (Jvm.Cond.instanceMethod ({ cls := "ShiftSignatures", name := "channel", desc := "(J)I" } : Jvm.MethodName)) ∈ gw := List.mem_filter.mpr ⟨List.mem_append_right _ (List.mem_append_right _ (List.mem_append_left _ (List.mem_of_getElem? (i := 99) rfl))), by decide +kernel⟩
theorem kw_353 : (Jvm.Cond.instanceMethod ({ cls := "java/lang/IllegalStateException", name := "<init>", desc := "(Ljava/lang/String;)V" } : Jvm.MethodName)) ∈ gw := List.mem_filter.mpr ⟨List.mem_append_right _ (List.mem_append_right _ (List.mem_append_left _ (List.mem_of_getElem? (i := 113) rfl))), by decide +kernel⟩
theorem kw_363 : (Jvm.Cond.instanceMethod ({ cls := "ShiftSignatures", name := "gate", desc := "(III)I" } : Jvm.MethodName)) ∈ gw := List.mem_filter.mpr ⟨List.mem_append_right _ (List.mem_append_right _ (List.mem_append_left _ (List.mem_of_getElem? (i := 123) rfl))), by decide +kernel⟩
theorem kw_369 : (Jvm.Cond.instanceMethod ({ cls := "ShiftSignatures", name := "requireLine", desc := "(I)V" } : Jvm.MethodName)) ∈ gw := List.mem_filter.mpr ⟨List.mem_append_right _ (List.mem_append_right _ (List.mem_append_left _ (List.mem_of_getElem? (i := 129) rfl))), by decide +kernel⟩
theorem kw_373 : (Jvm.Cond.instanceMethod ({ cls := "ShiftSignatures$Circuit", name := "countLines", desc := "()I" } : Jvm.MethodName)) ∈ gw := List.mem_filter.mpr ⟨List.mem_append_right _ (List.mem_append_right _ (List.mem_append_left _ (List.mem_of_getElem? (i := 133) rfl))), by decide +kernel⟩
theorem kw_386 : (Jvm.Cond.instanceMethod ({ cls := "java/lang/IndexOutOfBoundsException", name := "<init>", desc := "(Ljava/lang/String;)V" } : Jvm.MethodName)) ∈ gw := List.mem_filter.mpr ⟨List.mem_append_right _ (List.mem_append_right _ (List.mem_append_left _ (List.mem_of_getElem? (i := 146) rfl))), by decide +kernel⟩
theorem kw_394 : (Jvm.Cond.instanceMethod ({ cls := "ShiftSignatures$Circuit", name := "addGate", desc := "(III)I" } : Jvm.MethodName)) ∈ gw := List.mem_filter.mpr ⟨List.mem_append_right _ (List.mem_append_right _ (List.mem_append_left _ (List.mem_of_getElem? (i := 154) rfl))), by decide +kernel⟩
theorem kw_401 : (Jvm.Cond.instanceMethod ({ cls := "ShiftSignatures", name := "output", desc := "(I)I" } : Jvm.MethodName)) ∈ gw := List.mem_filter.mpr ⟨List.mem_append_right _ (List.mem_append_right _ (List.mem_append_left _ (List.mem_of_getElem? (i := 161) rfl))), by decide +kernel⟩
theorem kw_407 : (Jvm.Cond.instanceMethod ({ cls := "ShiftSignatures$Circuit", name := "addOutput", desc := "(I)I" } : Jvm.MethodName)) ∈ gw := List.mem_filter.mpr ⟨List.mem_append_right _ (List.mem_append_right _ (List.mem_append_left _ (List.mem_of_getElem? (i := 167) rfl))), by decide +kernel⟩
theorem kw_413 : (Jvm.Cond.instanceMethod ({ cls := "ShiftSignatures", name := "answer", desc := "(II)I" } : Jvm.MethodName)) ∈ gw := List.mem_filter.mpr ⟨List.mem_append_right _ (List.mem_append_right _ (List.mem_append_left _ (List.mem_of_getElem? (i := 173) rfl))), by decide +kernel⟩
theorem kw_418 : (Jvm.Cond.instanceMethod ({ cls := "ShiftSignatures", name := "requireFaultOrNone", desc := "(I)V" } : Jvm.MethodName)) ∈ gw := List.mem_filter.mpr ⟨List.mem_append_right _ (List.mem_append_right _ (List.mem_append_left _ (List.mem_of_getElem? (i := 178) rfl))), by decide +kernel⟩
theorem kw_422 : (Jvm.Cond.instanceMethod ({ cls := "ShiftSignatures", name := "requireFault", desc := "(I)V" } : Jvm.MethodName)) ∈ gw := List.mem_filter.mpr ⟨List.mem_append_right _ (List.mem_append_right _ (List.mem_append_left _ (List.mem_of_getElem? (i := 182) rfl))), by decide +kernel⟩
theorem kw_426 : (Jvm.Cond.instanceMethod ({ cls := "ShiftSignatures$Circuit", name := "countFaults", desc := "()I" } : Jvm.MethodName)) ∈ gw := List.mem_filter.mpr ⟨List.mem_append_right _ (List.mem_append_right _ (List.mem_append_left _ (List.mem_of_getElem? (i := 186) rfl))), by decide +kernel⟩
theorem kw_431 : (Jvm.Cond.instanceMethod ({ cls := "ShiftSignatures$Circuit", name := "answerTo", desc := "(II)I" } : Jvm.MethodName)) ∈ gw := List.mem_filter.mpr ⟨List.mem_append_right _ (List.mem_append_right _ (List.mem_append_left _ (List.mem_of_getElem? (i := 191) rfl))), by decide +kernel⟩
theorem kw_435 : (Jvm.Cond.instanceMethod ({ cls := "ShiftSignatures$Circuit", name := "settle", desc := "(IZ)V" } : Jvm.MethodName)) ∈ gw := List.mem_filter.mpr ⟨List.mem_append_right _ (List.mem_append_right _ (List.mem_append_left _ (List.mem_of_getElem? (i := 195) rfl))), by decide +kernel⟩
theorem kw_442 : (Jvm.Cond.instanceMethod ({ cls := "ShiftSignatures$Circuit", name := "valuesOfGate", desc := "(I)J" } : Jvm.MethodName)) ∈ gw := List.mem_filter.mpr ⟨List.mem_append_right _ (List.mem_append_right _ (List.mem_append_left _ (List.mem_of_getElem? (i := 202) rfl))), by decide +kernel⟩
theorem kw_450 : (Jvm.Cond.instanceMethod ({ cls := "ShiftSignatures$Circuit", name := "valuesOfOutput", desc := "(I)J" } : Jvm.MethodName)) ∈ gw := List.mem_filter.mpr ⟨List.mem_append_right _ (List.mem_append_right _ (List.mem_append_left _ (List.mem_of_getElem? (i := 210) rfl))), by decide +kernel⟩
theorem kw_456 : (Jvm.Cond.instanceMethod ({ cls := "ShiftSignatures", name := "session", desc := "(II)J" } : Jvm.MethodName)) ∈ gw := List.mem_filter.mpr ⟨List.mem_append_right _ (List.mem_append_right _ (List.mem_append_left _ (List.mem_of_getElem? (i := 216) rfl))), by decide +kernel⟩
theorem kw_461 : (Jvm.Cond.instanceMethod ({ cls := "ShiftSignatures", name := "requirePatterns", desc := "(I)V" } : Jvm.MethodName)) ∈ gw := List.mem_filter.mpr ⟨List.mem_append_right _ (List.mem_append_right _ (List.mem_append_left _ (List.mem_of_getElem? (i := 221) rfl))), by decide +kernel⟩
theorem kw_469 : (Jvm.Cond.instanceMethod ({ cls := "ShiftSignatures", name := "faults", desc := "(II)I" } : Jvm.MethodName)) ∈ gw := List.mem_filter.mpr ⟨List.mem_append_right _ (List.mem_append_right _ (List.mem_append_left _ (List.mem_of_getElem? (i := 229) rfl))), by decide +kernel⟩
theorem kw_475 : (Jvm.Cond.instanceMethod ({ cls := "ShiftSignatures", name := "compareAllFaults", desc := "(I)V" } : Jvm.MethodName)) ∈ gw := List.mem_filter.mpr ⟨List.mem_append_right _ (List.mem_append_right _ (List.mem_append_left _ (List.mem_of_getElem? (i := 235) rfl))), by decide +kernel⟩
theorem kw_479 : (Jvm.Cond.instanceMethod ({ cls := "ShiftSignatures$Differences", name := "clear", desc := "()V" } : Jvm.MethodName)) ∈ gw := List.mem_filter.mpr ⟨List.mem_append_right _ (List.mem_append_right _ (List.mem_append_left _ (List.mem_of_getElem? (i := 239) rfl))), by decide +kernel⟩
theorem kw_483 : (Jvm.Cond.instanceMethod ({ cls := "ShiftSignatures$Differences", name := "timesX", desc := "()V" } : Jvm.MethodName)) ∈ gw := List.mem_filter.mpr ⟨List.mem_append_right _ (List.mem_append_right _ (List.mem_append_right _ (List.mem_append_left _ (List.mem_of_getElem? (i := 3) rfl)))), by decide +kernel⟩
theorem kw_487 : (Jvm.Cond.instanceMethod ({ cls := "ShiftSignatures$Differences", name := "addAnswers", desc := "(LShiftSignatures$Circuit;I)V" } : Jvm.MethodName)) ∈ gw := List.mem_filter.mpr ⟨List.mem_append_right _ (List.mem_append_right _ (List.mem_append_right _ (List.mem_append_left _ (List.mem_of_getElem? (i := 7) rfl)))), by decide +kernel⟩
theorem kw_495 : (Jvm.Cond.instanceMethod ({ cls := "ShiftSignatures$Differences", name := "reduce", desc := "(LShiftSignatures$Modulus;)V" } : Jvm.MethodName)) ∈ gw := List.mem_filter.mpr ⟨List.mem_append_right _ (List.mem_append_right _ (List.mem_append_right _ (List.mem_append_left _ (List.mem_of_getElem? (i := 15) rfl)))), by decide +kernel⟩
theorem kw_499 : (Jvm.Cond.instanceMethod ({ cls := "ShiftSignatures$Differences", name := "subtract", desc := "(JJI)V" } : Jvm.MethodName)) ∈ gw := List.mem_filter.mpr ⟨List.mem_append_right _ (List.mem_append_right _ (List.mem_append_right _ (List.mem_append_left _ (List.mem_of_getElem? (i := 19) rfl)))), by decide +kernel⟩
theorem kw_503 : (Jvm.Cond.instanceMethod ({ cls := "ShiftSignatures$Differences", name := "found", desc := "()J" } : Jvm.MethodName)) ∈ gw := List.mem_filter.mpr ⟨List.mem_append_right _ (List.mem_append_right _ (List.mem_append_right _ (List.mem_append_left _ (List.mem_of_getElem? (i := 23) rfl)))), by decide +kernel⟩
theorem kw_518 : (Jvm.Cond.instanceMethod ({ cls := "ShiftSignatures", name := "first", desc := "(II)I" } : Jvm.MethodName)) ∈ gw := List.mem_filter.mpr ⟨List.mem_append_right _ (List.mem_append_right _ (List.mem_append_right _ (List.mem_append_left _ (List.mem_of_getElem? (i := 38) rfl)))), by decide +kernel⟩
theorem kw_524 : (Jvm.Cond.instanceMethod ({ cls := "ShiftSignaturesModel", name := "<init>", desc := "()V" } : Jvm.MethodName)) ∈ gw := List.mem_filter.mpr ⟨List.mem_append_right _ (List.mem_append_right _ (List.mem_append_right _ (List.mem_append_left _ (List.mem_of_getElem? (i := 44) rfl)))), by decide +kernel⟩
theorem kw_581 : (Jvm.Cond.instanceMethod ({ cls := "ShiftSignaturesModel", name := "thrown", desc := "()I" } : Jvm.MethodName)) ∈ gw := List.mem_filter.mpr ⟨List.mem_append_right _ (List.mem_append_right _ (List.mem_append_right _ (List.mem_append_left _ (List.mem_of_getElem? (i := 101) rfl)))), by decide +kernel⟩
theorem kw_585 : (Jvm.Cond.instanceMethod ({ cls := "ShiftSignaturesModel", name := "polynomial", desc := "(J)I" } : Jvm.MethodName)) ∈ gw := List.mem_filter.mpr ⟨List.mem_append_right _ (List.mem_append_right _ (List.mem_append_right _ (List.mem_append_left _ (List.mem_of_getElem? (i := 105) rfl)))), by decide +kernel⟩
theorem kw_590 : (Jvm.Cond.instanceMethod ({ cls := "ShiftSignaturesModel", name := "refused", desc := "(I)Z" } : Jvm.MethodName)) ∈ gw := List.mem_filter.mpr ⟨List.mem_append_right _ (List.mem_append_right _ (List.mem_append_right _ (List.mem_append_left _ (List.mem_of_getElem? (i := 110) rfl)))), by decide +kernel⟩
theorem kw_594 : (Jvm.Cond.instanceMethod ({ cls := "ShiftSignaturesModel", name := "clearCircuit", desc := "()V" } : Jvm.MethodName)) ∈ gw := List.mem_filter.mpr ⟨List.mem_append_right _ (List.mem_append_right _ (List.mem_append_right _ (List.mem_append_left _ (List.mem_of_getElem? (i := 114) rfl)))), by decide +kernel⟩
theorem kw_597 : (Jvm.Cond.instanceMethod ({ cls := "ShiftSignaturesModel", name := "times", desc := "(JJ)J" } : Jvm.MethodName)) ∈ gw := List.mem_filter.mpr ⟨List.mem_append_right _ (List.mem_append_right _ (List.mem_append_right _ (List.mem_append_left _ (List.mem_of_getElem? (i := 117) rfl)))), by decide +kernel⟩
theorem kw_602 : (Jvm.Cond.instanceMethod ({ cls := "ShiftSignaturesModel", name := "isResidue", desc := "(J)Z" } : Jvm.MethodName)) ∈ gw := List.mem_filter.mpr ⟨List.mem_append_right _ (List.mem_append_right _ (List.mem_append_right _ (List.mem_append_left _ (List.mem_of_getElem? (i := 122) rfl)))), by decide +kernel⟩
theorem kw_606 : (Jvm.Cond.instanceMethod ({ cls := "ShiftSignaturesModel", name := "product", desc := "(JJ)J" } : Jvm.MethodName)) ∈ gw := List.mem_filter.mpr ⟨List.mem_append_right _ (List.mem_append_right _ (List.mem_append_right _ (List.mem_append_left _ (List.mem_of_getElem? (i := 126) rfl)))), by decide +kernel⟩
theorem kw_610 : (Jvm.Cond.instanceMethod ({ cls := "ShiftSignaturesModel", name := "step", desc := "(J)J" } : Jvm.MethodName)) ∈ gw := List.mem_filter.mpr ⟨List.mem_append_right _ (List.mem_append_right _ (List.mem_append_right _ (List.mem_append_left _ (List.mem_of_getElem? (i := 130) rfl)))), by decide +kernel⟩
theorem kw_614 : (Jvm.Cond.instanceMethod ({ cls := "ShiftSignaturesModel", name := "power", desc := "(JJ)J" } : Jvm.MethodName)) ∈ gw := List.mem_filter.mpr ⟨List.mem_append_right _ (List.mem_append_right _ (List.mem_append_right _ (List.mem_append_left _ (List.mem_of_getElem? (i := 134) rfl)))), by decide +kernel⟩
theorem kw_619 : (Jvm.Cond.instanceMethod ({ cls := "ShiftSignaturesModel", name := "raised", desc := "(JJ)J" } : Jvm.MethodName)) ∈ gw := List.mem_filter.mpr ⟨List.mem_append_right _ (List.mem_append_right _ (List.mem_append_right _ (List.mem_append_left _ (List.mem_of_getElem? (i := 139) rfl)))), by decide +kernel⟩
theorem kw_623 : (Jvm.Cond.instanceMethod ({ cls := "ShiftSignaturesModel", name := "reduced", desc := "(J)J" } : Jvm.MethodName)) ∈ gw := List.mem_filter.mpr ⟨List.mem_append_right _ (List.mem_append_right _ (List.mem_append_right _ (List.mem_append_left _ (List.mem_of_getElem? (i := 143) rfl)))), by decide +kernel⟩
theorem kw_629 : (Jvm.Cond.instanceMethod ({ cls := "ShiftSignaturesModel", name := "residue", desc := "(J)J" } : Jvm.MethodName)) ∈ gw := List.mem_filter.mpr ⟨List.mem_append_right _ (List.mem_append_right _ (List.mem_append_right _ (List.mem_append_left _ (List.mem_of_getElem? (i := 149) rfl)))), by decide +kernel⟩
theorem kw_633 : (Jvm.Cond.instanceMethod ({ cls := "ShiftSignaturesModel", name := "irreducible", desc := "()Z" } : Jvm.MethodName)) ∈ gw := List.mem_filter.mpr ⟨List.mem_append_right _ (List.mem_append_right _ (List.mem_append_right _ (List.mem_append_left _ (List.mem_of_getElem? (i := 153) rfl)))), by decide +kernel⟩
theorem kw_638 : (Jvm.Cond.instanceMethod ({ cls := "ShiftSignaturesModel", name := "isProduct", desc := "()Z" } : Jvm.MethodName)) ∈ gw := List.mem_filter.mpr ⟨List.mem_append_right _ (List.mem_append_right _ (List.mem_append_right _ (List.mem_append_left _ (List.mem_of_getElem? (i := 158) rfl)))), by decide +kernel⟩
theorem kw_641 : (Jvm.Cond.instanceMethod ({ cls := "ShiftSignaturesModel", name := "primitive", desc := "()Z" } : Jvm.MethodName)) ∈ gw := List.mem_filter.mpr ⟨List.mem_append_right _ (List.mem_append_right _ (List.mem_append_right _ (List.mem_append_left _ (List.mem_of_getElem? (i := 161) rfl)))), by decide +kernel⟩
theorem kw_645 : (Jvm.Cond.instanceMethod ({ cls := "ShiftSignaturesModel", name := "order", desc := "()J" } : Jvm.MethodName)) ∈ gw := List.mem_filter.mpr ⟨List.mem_append_right _ (List.mem_append_right _ (List.mem_append_right _ (List.mem_append_left _ (List.mem_of_getElem? (i := 165) rfl)))), by decide +kernel⟩
theorem kw_650 : (Jvm.Cond.instanceMethod ({ cls := "ShiftSignaturesModel", name := "load", desc := "(J)J" } : Jvm.MethodName)) ∈ gw := List.mem_filter.mpr ⟨List.mem_append_right _ (List.mem_append_right _ (List.mem_append_right _ (List.mem_append_left _ (List.mem_of_getElem? (i := 170) rfl)))), by decide +kernel⟩
theorem kw_654 : (Jvm.Cond.instanceMethod ({ cls := "ShiftSignaturesModel", name := "steps", desc := "(J)J" } : Jvm.MethodName)) ∈ gw := List.mem_filter.mpr ⟨List.mem_append_right _ (List.mem_append_right _ (List.mem_append_right _ (List.mem_append_left _ (List.mem_of_getElem? (i := 174) rfl)))), by decide +kernel⟩
theorem kw_658 : (Jvm.Cond.instanceMethod ({ cls := "ShiftSignaturesModel", name := "channel", desc := "(J)I" } : Jvm.MethodName)) ∈ gw := List.mem_filter.mpr ⟨List.mem_append_right _ (List.mem_append_right _ (List.mem_append_right _ (List.mem_append_left _ (List.mem_of_getElem? (i := 178) rfl)))), by decide +kernel⟩
theorem kw_662 : (Jvm.Cond.instanceMethod ({ cls := "ShiftSignaturesModel", name := "pattern", desc := "()I" } : Jvm.MethodName)) ∈ gw := List.mem_filter.mpr ⟨List.mem_append_right _ (List.mem_append_right _ (List.mem_append_right _ (List.mem_append_left _ (List.mem_of_getElem? (i := 182) rfl)))), by decide +kernel⟩
theorem kw_667 : (Jvm.Cond.instanceMethod ({ cls := "ShiftSignaturesModel", name := "patternOf", desc := "(J)I" } : Jvm.MethodName)) ∈ gw := List.mem_filter.mpr ⟨List.mem_append_right _ (List.mem_append_right _ (List.mem_append_right _ (List.mem_append_left _ (List.mem_of_getElem? (i := 187) rfl)))), by decide +kernel⟩
theorem kw_670 : (Jvm.Cond.instanceMethod ({ cls := "ShiftSignaturesModel", name := "gate", desc := "(III)I" } : Jvm.MethodName)) ∈ gw := List.mem_filter.mpr ⟨List.mem_append_right _ (List.mem_append_right _ (List.mem_append_right _ (List.mem_append_left _ (List.mem_of_getElem? (i := 190) rfl)))), by decide +kernel⟩
theorem kw_675 : (Jvm.Cond.instanceMethod ({ cls := "ShiftSignaturesModel", name := "isLine", desc := "(I)Z" } : Jvm.MethodName)) ∈ gw := List.mem_filter.mpr ⟨List.mem_append_right _ (List.mem_append_right _ (List.mem_append_right _ (List.mem_append_left _ (List.mem_of_getElem? (i := 195) rfl)))), by decide +kernel⟩
theorem kw_678 : (Jvm.Cond.instanceMethod ({ cls := "ShiftSignaturesModel", name := "output", desc := "(I)I" } : Jvm.MethodName)) ∈ gw := List.mem_filter.mpr ⟨List.mem_append_right _ (List.mem_append_right _ (List.mem_append_right _ (List.mem_append_left _ (List.mem_of_getElem? (i := 198) rfl)))), by decide +kernel⟩
theorem kw_682 : (Jvm.Cond.instanceMethod ({ cls := "ShiftSignaturesModel", name := "answer", desc := "(II)I" } : Jvm.MethodName)) ∈ gw := List.mem_filter.mpr ⟨List.mem_append_right _ (List.mem_append_right _ (List.mem_append_right _ (List.mem_append_left _ (List.mem_of_getElem? (i := 202) rfl)))), by decide +kernel⟩
theorem kw_687 : (Jvm.Cond.instanceMethod ({ cls := "ShiftSignaturesModel", name := "isFault", desc := "(I)Z" } : Jvm.MethodName)) ∈ gw := List.mem_filter.mpr ⟨List.mem_append_right _ (List.mem_append_right _ (List.mem_append_right _ (List.mem_append_left _ (List.mem_of_getElem? (i := 207) rfl)))), by decide +kernel⟩
theorem kw_691 : (Jvm.Cond.instanceMethod ({ cls := "ShiftSignaturesModel", name := "answerTo", desc := "(II)I" } : Jvm.MethodName)) ∈ gw := List.mem_filter.mpr ⟨List.mem_append_right _ (List.mem_append_right _ (List.mem_append_right _ (List.mem_append_left _ (List.mem_of_getElem? (i := 211) rfl)))), by decide +kernel⟩
theorem kw_697 : (Jvm.Cond.instanceMethod ({ cls := "ShiftSignaturesModel", name := "session", desc := "(II)J" } : Jvm.MethodName)) ∈ gw := List.mem_filter.mpr ⟨List.mem_append_right _ (List.mem_append_right _ (List.mem_append_right _ (List.mem_append_left _ (List.mem_of_getElem? (i := 217) rfl)))), by decide +kernel⟩
theorem kw_705 : (Jvm.Cond.instanceMethod ({ cls := "ShiftSignaturesModel", name := "prepare", desc := "(I)V" } : Jvm.MethodName)) ∈ gw := List.mem_filter.mpr ⟨List.mem_append_right _ (List.mem_append_right _ (List.mem_append_right _ (List.mem_append_left _ (List.mem_of_getElem? (i := 225) rfl)))), by decide +kernel⟩
theorem kw_709 : (Jvm.Cond.instanceMethod ({ cls := "ShiftSignaturesModel", name := "signature", desc := "(II)J" } : Jvm.MethodName)) ∈ gw := List.mem_filter.mpr ⟨List.mem_append_right _ (List.mem_append_right _ (List.mem_append_right _ (List.mem_append_left _ (List.mem_of_getElem? (i := 229) rfl)))), by decide +kernel⟩
theorem kw_712 : (Jvm.Cond.instanceMethod ({ cls := "ShiftSignaturesModel", name := "faults", desc := "(II)I" } : Jvm.MethodName)) ∈ gw := List.mem_filter.mpr ⟨List.mem_append_right _ (List.mem_append_right _ (List.mem_append_right _ (List.mem_append_left _ (List.mem_of_getElem? (i := 232) rfl)))), by decide +kernel⟩
theorem kw_717 : (Jvm.Cond.instanceMethod ({ cls := "ShiftSignaturesModel", name := "firstSeen", desc := "(II)I" } : Jvm.MethodName)) ∈ gw := List.mem_filter.mpr ⟨List.mem_append_right _ (List.mem_append_right _ (List.mem_append_right _ (List.mem_append_left _ (List.mem_of_getElem? (i := 237) rfl)))), by decide +kernel⟩
theorem kw_720 : (Jvm.Cond.instanceMethod ({ cls := "ShiftSignaturesModel", name := "first", desc := "(II)I" } : Jvm.MethodName)) ∈ gw := List.mem_filter.mpr ⟨List.mem_append_right _ (List.mem_append_right _ (List.mem_append_right _ (List.mem_append_right _ (List.mem_of_getElem? (i := 0) rfl)))), by decide +kernel⟩
theorem kw_18 : (Jvm.Cond.code ({ cls := "ShiftSignatures", name := "<init>", desc := "()V" } : Jvm.MethodName) prog_1_method_1_code (1 : Nat) (Option.none : Option Jvm.ClassFile.FieldType)) ∈ gw := List.mem_filter.mpr ⟨List.mem_append_right _ (List.mem_append_left _ (List.mem_of_getElem? (i := 18) rfl)), by decide +kernel⟩
theorem kw_21 : (Jvm.Cond.code ({ cls := "java/lang/Object", name := "<init>", desc := "()V" } : Jvm.MethodName) object_method_1_code (1 : Nat) (Option.none : Option Jvm.ClassFile.FieldType)) ∈ gw := List.mem_filter.mpr ⟨List.mem_append_right _ (List.mem_append_left _ (List.mem_of_getElem? (i := 21) rfl)), by decide +kernel⟩
theorem kw_26 : (Jvm.Cond.code ({ cls := "ShiftSignatures$Modulus", name := "<init>", desc := "()V" } : Jvm.MethodName) prog_4_method_1_code (1 : Nat) (Option.none : Option Jvm.ClassFile.FieldType)) ∈ gw := List.mem_filter.mpr ⟨List.mem_append_right _ (List.mem_append_left _ (List.mem_of_getElem? (i := 26) rfl)), by decide +kernel⟩
theorem kw_47 : (Jvm.Cond.code ({ cls := "ShiftSignatures$Circuit", name := "<init>", desc := "()V" } : Jvm.MethodName) prog_2_method_1_code (1 : Nat) (Option.none : Option Jvm.ClassFile.FieldType)) ∈ gw := List.mem_filter.mpr ⟨List.mem_append_right _ (List.mem_append_left _ (List.mem_of_getElem? (i := 47) rfl)), by decide +kernel⟩
theorem kw_84 : (Jvm.Cond.code ({ cls := "ShiftSignatures$Differences", name := "<init>", desc := "()V" } : Jvm.MethodName) prog_3_method_1_code (1 : Nat) (Option.none : Option Jvm.ClassFile.FieldType)) ∈ gw := List.mem_filter.mpr ⟨List.mem_append_right _ (List.mem_append_left _ (List.mem_of_getElem? (i := 84) rfl)), by decide +kernel⟩
theorem kw_113 : (Jvm.Cond.code ({ cls := "ShiftSignatures", name := "residue", desc := "(J)J" } : Jvm.MethodName) prog_1_method_5_code (3 : Nat) (Option.some Jvm.ClassFile.FieldType.long)) ∈ gw := List.mem_filter.mpr ⟨List.mem_append_right _ (List.mem_append_left _ (List.mem_of_getElem? (i := 113) rfl)), by decide +kernel⟩
theorem kw_117 : (Jvm.Cond.code ({ cls := "ShiftSignatures$Modulus", name := "reduced", desc := "(J)J" } : Jvm.MethodName) prog_4_method_4_code (3 : Nat) (Option.some Jvm.ClassFile.FieldType.long)) ∈ gw := List.mem_filter.mpr ⟨List.mem_append_right _ (List.mem_append_left _ (List.mem_of_getElem? (i := 117) rfl)), by decide +kernel⟩
theorem kw_120 : (Jvm.Cond.code ({ cls := "ShiftSignatures$Modulus", name := "remainder", desc := "(JJ)J" } : Jvm.MethodName) prog_4_method_14_code (8 : Nat) (Option.some Jvm.ClassFile.FieldType.long)) ∈ gw := List.mem_filter.mpr ⟨List.mem_append_right _ (List.mem_append_left _ (List.mem_of_getElem? (i := 120) rfl)), by decide +kernel⟩
theorem kw_123 : (Jvm.Cond.code ({ cls := "ShiftSignatures$Modulus", name := "degreeOf", desc := "(J)I" } : Jvm.MethodName) prog_4_method_13_code (2 : Nat) (Option.some Jvm.ClassFile.FieldType.int)) ∈ gw := List.mem_filter.mpr ⟨List.mem_append_right _ (List.mem_append_left _ (List.mem_of_getElem? (i := 123) rfl)), by decide +kernel⟩
theorem kw_126 : (Jvm.Cond.code ({ cls := "java/lang/Long", name := "numberOfLeadingZeros", desc := "(J)I" } : Jvm.MethodName) prog_12_method_48_code (3 : Nat) (Option.some Jvm.ClassFile.FieldType.int)) ∈ gw := List.mem_filter.mpr ⟨List.mem_append_right _ (List.mem_append_left _ (List.mem_of_getElem? (i := 126) rfl)), by decide +kernel⟩
theorem kw_129 : (Jvm.Cond.code ({ cls := "java/lang/Integer", name := "numberOfLeadingZeros", desc := "(I)I" } : Jvm.MethodName) prog_11_method_47_code (2 : Nat) (Option.some Jvm.ClassFile.FieldType.int)) ∈ gw := List.mem_filter.mpr ⟨List.mem_append_right _ (List.mem_append_left _ (List.mem_of_getElem? (i := 129) rfl)), by decide +kernel⟩
theorem kw_134 : (Jvm.Cond.code ({ cls := "ShiftSignatures", name := "irreducible", desc := "()Z" } : Jvm.MethodName) prog_1_method_6_code (1 : Nat) (Option.some Jvm.ClassFile.FieldType.boolean)) ∈ gw := List.mem_filter.mpr ⟨List.mem_append_right _ (List.mem_append_left _ (List.mem_of_getElem? (i := 134) rfl)), by decide +kernel⟩
theorem kw_138 : (Jvm.Cond.code ({ cls := "ShiftSignatures$Modulus", name := "isIrreducible", desc := "()Z" } : Jvm.MethodName) prog_4_method_8_code (4 : Nat) (Option.some Jvm.ClassFile.FieldType.boolean)) ∈ gw := List.mem_filter.mpr ⟨List.mem_append_right _ (List.mem_append_left _ (List.mem_of_getElem? (i := 138) rfl)), by decide +kernel⟩
theorem kw_142 : (Jvm.Cond.code ({ cls := "ShiftSignatures$Modulus", name := "product", desc := "(JJ)J" } : Jvm.MethodName) prog_4_method_6_code (8 : Nat) (Option.some Jvm.ClassFile.FieldType.long)) ∈ gw := List.mem_filter.mpr ⟨List.mem_append_right _ (List.mem_append_left _ (List.mem_of_getElem? (i := 142) rfl)), by decide +kernel⟩
theorem kw_146 : (Jvm.Cond.code ({ cls := "ShiftSignatures$Modulus", name := "stepped", desc := "(J)J" } : Jvm.MethodName) prog_4_method_5_code (5 : Nat) (Option.some Jvm.ClassFile.FieldType.long)) ∈ gw := List.mem_filter.mpr ⟨List.mem_append_right _ (List.mem_append_left _ (List.mem_of_getElem? (i := 146) rfl)), by decide +kernel⟩
theorem kw_149 : (Jvm.Cond.code ({ cls := "ShiftSignatures$Modulus", name := "commonDivisor", desc := "(JJ)J" } : Jvm.MethodName) prog_4_method_16_code (11 : Nat) (Option.some Jvm.ClassFile.FieldType.long)) ∈ gw := List.mem_filter.mpr ⟨List.mem_append_right _ (List.mem_append_left _ (List.mem_of_getElem? (i := 149) rfl)), by decide +kernel⟩
theorem kw_153 : (Jvm.Cond.code ({ cls := "ShiftSignatures", name := "primitive", desc := "()Z" } : Jvm.MethodName) prog_1_method_7_code (1 : Nat) (Option.some Jvm.ClassFile.FieldType.boolean)) ∈ gw := List.mem_filter.mpr ⟨List.mem_append_right _ (List.mem_append_left _ (List.mem_of_getElem? (i := 153) rfl)), by decide +kernel⟩
theorem kw_157 : (Jvm.Cond.code ({ cls := "ShiftSignatures$Modulus", name := "isPrimitive", desc := "()Z" } : Jvm.MethodName) prog_4_method_9_code (3 : Nat) (Option.some Jvm.ClassFile.FieldType.boolean)) ∈ gw := List.mem_filter.mpr ⟨List.mem_append_right _ (List.mem_append_left _ (List.mem_of_getElem? (i := 157) rfl)), by decide +kernel⟩
theorem kw_161 : (Jvm.Cond.code ({ cls := "ShiftSignatures$Modulus", name := "raised", desc := "(JJ)J" } : Jvm.MethodName) prog_4_method_7_code (10 : Nat) (Option.some Jvm.ClassFile.FieldType.long)) ∈ gw := List.mem_filter.mpr ⟨List.mem_append_right _ (List.mem_append_left _ (List.mem_of_getElem? (i := 161) rfl)), by decide +kernel⟩
theorem kw_165 : (Jvm.Cond.code ({ cls := "ShiftSignatures$Modulus", name := "orderWithin", desc := "(J)J" } : Jvm.MethodName) prog_4_method_11_code (10 : Nat) (Option.some Jvm.ClassFile.FieldType.long)) ∈ gw := List.mem_filter.mpr ⟨List.mem_append_right _ (List.mem_append_left _ (List.mem_of_getElem? (i := 165) rfl)), by decide +kernel⟩
theorem kw_171 : (Jvm.Cond.code ({ cls := "ShiftSignatures$Modulus", name := "withoutNeedless", desc := "(JJ)J" } : Jvm.MethodName) prog_4_method_12_code (10 : Nat) (Option.some Jvm.ClassFile.FieldType.long)) ∈ gw := List.mem_filter.mpr ⟨List.mem_append_right _ (List.mem_append_left _ (List.mem_of_getElem? (i := 171) rfl)), by decide +kernel⟩
theorem kw_175 : (Jvm.Cond.code ({ cls := "ShiftSignatures", name := "order", desc := "()J" } : Jvm.MethodName) prog_1_method_8_code (1 : Nat) (Option.some Jvm.ClassFile.FieldType.long)) ∈ gw := List.mem_filter.mpr ⟨List.mem_append_right _ (List.mem_append_left _ (List.mem_of_getElem? (i := 175) rfl)), by decide +kernel⟩
theorem kw_180 : (Jvm.Cond.code ({ cls := "ShiftSignatures$Modulus", name := "multipleOfOrder", desc := "()J" } : Jvm.MethodName) prog_4_method_10_code (10 : Nat) (Option.some Jvm.ClassFile.FieldType.long)) ∈ gw := List.mem_filter.mpr ⟨List.mem_append_right _ (List.mem_append_left _ (List.mem_of_getElem? (i := 180) rfl)), by decide +kernel⟩
theorem kw_184 : (Jvm.Cond.code ({ cls := "ShiftSignatures$Modulus", name := "without", desc := "(JJ)J" } : Jvm.MethodName) prog_4_method_17_code (9 : Nat) (Option.some Jvm.ClassFile.FieldType.long)) ∈ gw := List.mem_filter.mpr ⟨List.mem_append_right _ (List.mem_append_left _ (List.mem_of_getElem? (i := 184) rfl)), by decide +kernel⟩
theorem kw_187 : (Jvm.Cond.code ({ cls := "ShiftSignatures$Modulus", name := "quotient", desc := "(JJ)J" } : Jvm.MethodName) prog_4_method_15_code (10 : Nat) (Option.some Jvm.ClassFile.FieldType.long)) ∈ gw := List.mem_filter.mpr ⟨List.mem_append_right _ (List.mem_append_left _ (List.mem_of_getElem? (i := 187) rfl)), by decide +kernel⟩
theorem kw_192 : (Jvm.Cond.code ({ cls := "ShiftSignatures", name := "pattern", desc := "()I" } : Jvm.MethodName) prog_1_method_12_code (1 : Nat) (Option.some Jvm.ClassFile.FieldType.int)) ∈ gw := List.mem_filter.mpr ⟨List.mem_append_right _ (List.mem_append_left _ (List.mem_of_getElem? (i := 192) rfl)), by decide +kernel⟩
theorem kw_196 : (Jvm.Cond.code ({ cls := "ShiftSignatures", name := "patternOf", desc := "(J)I" } : Jvm.MethodName) prog_1_method_25_code (5 : Nat) (Option.some Jvm.ClassFile.FieldType.int)) ∈ gw := List.mem_filter.mpr ⟨List.mem_append_right _ (List.mem_append_left _ (List.mem_of_getElem? (i := 196) rfl)), by decide +kernel⟩
theorem kw_199 : (Jvm.Cond.code ({ cls := "java/lang/Long", name := "bitCount", desc := "(J)I" } : Jvm.MethodName) prog_12_method_50_code (2 : Nat) (Option.some Jvm.ClassFile.FieldType.int)) ∈ gw := List.mem_filter.mpr ⟨List.mem_append_right _ (List.mem_append_left _ (List.mem_of_getElem? (i := 199) rfl)), by decide +kernel⟩
theorem kw_210 : (Jvm.Cond.code ({ cls := "ShiftSignatures", name := "polynomial", desc := "(J)I" } : Jvm.MethodName) prog_1_method_2_code (4 : Nat) (Option.some Jvm.ClassFile.FieldType.int)) ∈ gw := List.mem_filter.mpr ⟨List.mem_append_right _ (List.mem_append_left _ (List.mem_of_getElem? (i := 210) rfl)), by decide +kernel⟩
theorem kw_236 : (Jvm.Cond.code ({ cls := "java/lang/Throwable", name := "<init>", desc := "()V" } : Jvm.MethodName) prog_15_method_1_code (1 : Nat) (Option.none : Option Jvm.ClassFile.FieldType)) ∈ gw := List.mem_filter.mpr ⟨List.mem_append_right _ (List.mem_append_left _ (List.mem_of_getElem? (i := 236) rfl)), by decide +kernel⟩
theorem kw_256 : (Jvm.Cond.code ({ cls := "java/lang/IllegalArgumentException", name := "<init>", desc := "(Ljava/lang/String;)V" } : Jvm.MethodName) prog_8_method_2_code (2 : Nat) (Option.none : Option Jvm.ClassFile.FieldType)) ∈ gw := List.mem_filter.mpr ⟨List.mem_append_right _ (List.mem_append_right _ (List.mem_append_left _ (List.mem_of_getElem? (i := 16) rfl))), by decide +kernel⟩
theorem kw_259 : (Jvm.Cond.code ({ cls := "java/lang/RuntimeException", name := "<init>", desc := "(Ljava/lang/String;)V" } : Jvm.MethodName) prog_13_method_2_code (2 : Nat) (Option.none : Option Jvm.ClassFile.FieldType)) ∈ gw := List.mem_filter.mpr ⟨List.mem_append_right _ (List.mem_append_right _ (List.mem_append_left _ (List.mem_of_getElem? (i := 19) rfl))), by decide +kernel⟩
theorem kw_262 : (Jvm.Cond.code ({ cls := "java/lang/Exception", name := "<init>", desc := "(Ljava/lang/String;)V" } : Jvm.MethodName) prog_7_method_2_code (2 : Nat) (Option.none : Option Jvm.ClassFile.FieldType)) ∈ gw := List.mem_filter.mpr ⟨List.mem_append_right _ (List.mem_append_right _ (List.mem_append_left _ (List.mem_of_getElem? (i := 22) rfl))), by decide +kernel⟩
theorem kw_265 : (Jvm.Cond.code ({ cls := "java/lang/Throwable", name := "<init>", desc := "(Ljava/lang/String;)V" } : Jvm.MethodName) prog_15_method_2_code (2 : Nat) (Option.none : Option Jvm.ClassFile.FieldType)) ∈ gw := List.mem_filter.mpr ⟨List.mem_append_right _ (List.mem_append_right _ (List.mem_append_left _ (List.mem_of_getElem? (i := 25) rfl))), by decide +kernel⟩
theorem kw_283 : (Jvm.Cond.code ({ cls := "ShiftSignatures$Modulus", name := "become", desc := "(J)V" } : Jvm.MethodName) prog_4_method_2_code (3 : Nat) (Option.none : Option Jvm.ClassFile.FieldType)) ∈ gw := List.mem_filter.mpr ⟨List.mem_append_right _ (List.mem_append_right _ (List.mem_append_left _ (List.mem_of_getElem? (i := 43) rfl))), by decide +kernel⟩
theorem kw_289 : (Jvm.Cond.code ({ cls := "ShiftSignatures$Circuit", name := "restart", desc := "(I)V" } : Jvm.MethodName) prog_2_method_2_code (2 : Nat) (Option.none : Option Jvm.ClassFile.FieldType)) ∈ gw := List.mem_filter.mpr ⟨List.mem_append_right _ (List.mem_append_right _ (List.mem_append_left _ (List.mem_of_getElem? (i := 49) rfl))), by decide +kernel⟩
theorem kw_296 : (Jvm.Cond.code ({ cls := "ShiftSignatures", name := "times", desc := "(JJ)J" } : Jvm.MethodName) prog_1_method_3_code (5 : Nat) (Option.some Jvm.ClassFile.FieldType.long)) ∈ gw := List.mem_filter.mpr ⟨List.mem_append_right _ (List.mem_append_right _ (List.mem_append_left _ (List.mem_of_getElem? (i := 56) rfl))), by decide +kernel⟩
theorem kw_300 : (Jvm.Cond.code ({ cls := "ShiftSignatures", name := "requireResidue", desc := "(J)V" } : Jvm.MethodName) prog_1_method_19_code (3 : Nat) (Option.none : Option Jvm.ClassFile.FieldType)) ∈ gw := List.mem_filter.mpr ⟨List.mem_append_right _ (List.mem_append_right _ (List.mem_append_left _ (List.mem_of_getElem? (i := 60) rfl))), by decide +kernel⟩
theorem kw_304 : (Jvm.Cond.code ({ cls := "ShiftSignatures$Modulus", name := "hasResidue", desc := "(J)Z" } : Jvm.MethodName) prog_4_method_3_code (3 : Nat) (Option.some Jvm.ClassFile.FieldType.boolean)) ∈ gw := List.mem_filter.mpr ⟨List.mem_append_right _ (List.mem_append_right _ (List.mem_append_left _ (List.mem_of_getElem? (i := 64) rfl))), by decide +kernel⟩
theorem kw_313 : (Jvm.Cond.code ({ cls := "ShiftSignatures", name := "power", desc := "(JJ)J" } : Jvm.MethodName) prog_1_method_4_code (5 : Nat) (Option.some Jvm.ClassFile.FieldType.long)) ∈ gw := List.mem_filter.mpr ⟨List.mem_append_right _ (List.mem_append_right _ (List.mem_append_left _ (List.mem_of_getElem? (i := 73) rfl))), by decide +kernel⟩
theorem kw_317 : (Jvm.Cond.code ({ cls := "ShiftSignatures", name := "requireNotNegative", desc := "(J)V" } : Jvm.MethodName) prog_1_method_20_code (3 : Nat) (Option.none : Option Jvm.ClassFile.FieldType)) ∈ gw := List.mem_filter.mpr ⟨List.mem_append_right _ (List.mem_append_right _ (List.mem_append_left _ (List.mem_of_getElem? (i := 77) rfl))), by decide +kernel⟩
theorem kw_326 : (Jvm.Cond.code ({ cls := "ShiftSignatures", name := "load", desc := "(J)J" } : Jvm.MethodName) prog_1_method_9_code (5 : Nat) (Option.some Jvm.ClassFile.FieldType.long)) ∈ gw := List.mem_filter.mpr ⟨List.mem_append_right _ (List.mem_append_right _ (List.mem_append_left _ (List.mem_of_getElem? (i := 86) rfl))), by decide +kernel⟩
theorem kw_333 : (Jvm.Cond.code ({ cls := "ShiftSignatures", name := "steps", desc := "(J)J" } : Jvm.MethodName) prog_1_method_10_code (3 : Nat) (Option.some Jvm.ClassFile.FieldType.long)) ∈ gw := List.mem_filter.mpr ⟨List.mem_append_right _ (List.mem_append_right _ (List.mem_append_left _ (List.mem_of_getElem? (i := 93) rfl))), by decide +kernel⟩
theorem kw_341 : (Jvm.Cond.code ({ cls := "ShiftSignatures", name := "channel", desc := "(J)I" } : Jvm.MethodName) prog_1_method_11_code (4 : Nat) (Option.some Jvm.ClassFile.FieldType.int)) ∈ gw := List.mem_filter.mpr ⟨List.mem_append_right _ (List.mem_append_right _ (List.mem_append_left _ (List.mem_of_getElem? (i := 101) rfl))), by decide +kernel⟩
theorem kw_354 : (Jvm.Cond.code ({ cls := "java/lang/IllegalStateException", name := "<init>", desc := "(Ljava/lang/String;)V" } : Jvm.MethodName) prog_9_method_2_code (2 : Nat) (Option.none : Option Jvm.ClassFile.FieldType)) ∈ gw := List.mem_filter.mpr ⟨List.mem_append_right _ (List.mem_append_right _ (List.mem_append_left _ (List.mem_of_getElem? (i := 114) rfl))), by decide +kernel⟩
theorem kw_365 : (Jvm.Cond.code ({ cls := "ShiftSignatures", name := "gate", desc := "(III)I" } : Jvm.MethodName) prog_1_method_13_code (5 : Nat) (Option.some Jvm.ClassFile.FieldType.int)) ∈ gw := List.mem_filter.mpr ⟨List.mem_append_right _ (List.mem_append_right _ (List.mem_append_left _ (List.mem_of_getElem? (i := 125) rfl))), by decide +kernel⟩
theorem kw_370 : (Jvm.Cond.code ({ cls := "ShiftSignatures", name := "requireLine", desc := "(I)V" } : Jvm.MethodName) prog_1_method_22_code (2 : Nat) (Option.none : Option Jvm.ClassFile.FieldType)) ∈ gw := List.mem_filter.mpr ⟨List.mem_append_right _ (List.mem_append_right _ (List.mem_append_left _ (List.mem_of_getElem? (i := 130) rfl))), by decide +kernel⟩
theorem kw_374 : (Jvm.Cond.code ({ cls := "ShiftSignatures$Circuit", name := "countLines", desc := "()I" } : Jvm.MethodName) prog_2_method_3_code (1 : Nat) (Option.some Jvm.ClassFile.FieldType.int)) ∈ gw := List.mem_filter.mpr ⟨List.mem_append_right _ (List.mem_append_right _ (List.mem_append_left _ (List.mem_of_getElem? (i := 134) rfl))), by decide +kernel⟩
theorem kw_387 : (Jvm.Cond.code ({ cls := "java/lang/IndexOutOfBoundsException", name := "<init>", desc := "(Ljava/lang/String;)V" } : Jvm.MethodName) prog_10_method_2_code (2 : Nat) (Option.none : Option Jvm.ClassFile.FieldType)) ∈ gw := List.mem_filter.mpr ⟨List.mem_append_right _ (List.mem_append_right _ (List.mem_append_left _ (List.mem_of_getElem? (i := 147) rfl))), by decide +kernel⟩
theorem kw_395 : (Jvm.Cond.code ({ cls := "ShiftSignatures$Circuit", name := "addGate", desc := "(III)I" } : Jvm.MethodName) prog_2_method_5_code (5 : Nat) (Option.some Jvm.ClassFile.FieldType.int)) ∈ gw := List.mem_filter.mpr ⟨List.mem_append_right _ (List.mem_append_right _ (List.mem_append_left _ (List.mem_of_getElem? (i := 155) rfl))), by decide +kernel⟩
theorem kw_403 : (Jvm.Cond.code ({ cls := "ShiftSignatures", name := "output", desc := "(I)I" } : Jvm.MethodName) prog_1_method_14_code (2 : Nat) (Option.some Jvm.ClassFile.FieldType.int)) ∈ gw := List.mem_filter.mpr ⟨List.mem_append_right _ (List.mem_append_right _ (List.mem_append_left _ (List.mem_of_getElem? (i := 163) rfl))), by decide +kernel⟩
theorem kw_408 : (Jvm.Cond.code ({ cls := "ShiftSignatures$Circuit", name := "addOutput", desc := "(I)I" } : Jvm.MethodName) prog_2_method_6_code (2 : Nat) (Option.some Jvm.ClassFile.FieldType.int)) ∈ gw := List.mem_filter.mpr ⟨List.mem_append_right _ (List.mem_append_right _ (List.mem_append_left _ (List.mem_of_getElem? (i := 168) rfl))), by decide +kernel⟩
theorem kw_415 : (Jvm.Cond.code ({ cls := "ShiftSignatures", name := "answer", desc := "(II)I" } : Jvm.MethodName) prog_1_method_15_code (3 : Nat) (Option.some Jvm.ClassFile.FieldType.int)) ∈ gw := List.mem_filter.mpr ⟨List.mem_append_right _ (List.mem_append_right _ (List.mem_append_left _ (List.mem_of_getElem? (i := 175) rfl))), by decide +kernel⟩
theorem kw_419 : (Jvm.Cond.code ({ cls := "ShiftSignatures", name := "requireFaultOrNone", desc := "(I)V" } : Jvm.MethodName) prog_1_method_24_code (2 : Nat) (Option.none : Option Jvm.ClassFile.FieldType)) ∈ gw := List.mem_filter.mpr ⟨List.mem_append_right _ (List.mem_append_right _ (List.mem_append_left _ (List.mem_of_getElem? (i := 179) rfl))), by decide +kernel⟩
theorem kw_423 : (Jvm.Cond.code ({ cls := "ShiftSignatures", name := "requireFault", desc := "(I)V" } : Jvm.MethodName) prog_1_method_23_code (2 : Nat) (Option.none : Option Jvm.ClassFile.FieldType)) ∈ gw := List.mem_filter.mpr ⟨List.mem_append_right _ (List.mem_append_right _ (List.mem_append_left _ (List.mem_of_getElem? (i := 183) rfl))), by decide +kernel⟩
theorem kw_427 : (Jvm.Cond.code ({ cls := "ShiftSignatures$Circuit", name := "countFaults", desc := "()I" } : Jvm.MethodName) prog_2_method_4_code (1 : Nat) (Option.some Jvm.ClassFile.FieldType.int)) ∈ gw := List.mem_filter.mpr ⟨List.mem_append_right _ (List.mem_append_right _ (List.mem_append_left _ (List.mem_of_getElem? (i := 187) rfl))), by decide +kernel⟩
theorem kw_432 : (Jvm.Cond.code ({ cls := "ShiftSignatures$Circuit", name := "answerTo", desc := "(II)I" } : Jvm.MethodName) prog_2_method_7_code (6 : Nat) (Option.some Jvm.ClassFile.FieldType.int)) ∈ gw := List.mem_filter.mpr ⟨List.mem_append_right _ (List.mem_append_right _ (List.mem_append_left _ (List.mem_of_getElem? (i := 192) rfl))), by decide +kernel⟩
theorem kw_436 : (Jvm.Cond.code ({ cls := "ShiftSignatures$Circuit", name := "settle", desc := "(IZ)V" } : Jvm.MethodName) prog_2_method_9_code (7 : Nat) (Option.none : Option Jvm.ClassFile.FieldType)) ∈ gw := List.mem_filter.mpr ⟨List.mem_append_right _ (List.mem_append_right _ (List.mem_append_left _ (List.mem_of_getElem? (i := 196) rfl))), by decide +kernel⟩
theorem kw_439 : (Jvm.Cond.code ({ cls := "ShiftSignatures$Circuit", name := "spread", desc := "(I)J" } : Jvm.MethodName) prog_2_method_12_code (1 : Nat) (Option.some Jvm.ClassFile.FieldType.long)) ∈ gw := List.mem_filter.mpr ⟨List.mem_append_right _ (List.mem_append_right _ (List.mem_append_left _ (List.mem_of_getElem? (i := 199) rfl))), by decide +kernel⟩
theorem kw_443 : (Jvm.Cond.code ({ cls := "ShiftSignatures$Circuit", name := "valuesOfGate", desc := "(I)J" } : Jvm.MethodName) prog_2_method_10_code (6 : Nat) (Option.some Jvm.ClassFile.FieldType.long)) ∈ gw := List.mem_filter.mpr ⟨List.mem_append_right _ (List.mem_append_right _ (List.mem_append_left _ (List.mem_of_getElem? (i := 203) rfl))), by decide +kernel⟩
theorem kw_447 : (Jvm.Cond.code ({ cls := "ShiftSignatures$Circuit", name := "withStuck", desc := "(JI)J" } : Jvm.MethodName) prog_2_method_11_code (7 : Nat) (Option.some Jvm.ClassFile.FieldType.long)) ∈ gw := List.mem_filter.mpr ⟨List.mem_append_right _ (List.mem_append_right _ (List.mem_append_left _ (List.mem_of_getElem? (i := 207) rfl))), by decide +kernel⟩
theorem kw_451 : (Jvm.Cond.code ({ cls := "ShiftSignatures$Circuit", name := "valuesOfOutput", desc := "(I)J" } : Jvm.MethodName) prog_2_method_8_code (2 : Nat) (Option.some Jvm.ClassFile.FieldType.long)) ∈ gw := List.mem_filter.mpr ⟨List.mem_append_right _ (List.mem_append_right _ (List.mem_append_left _ (List.mem_of_getElem? (i := 211) rfl))), by decide +kernel⟩
theorem kw_458 : (Jvm.Cond.code ({ cls := "ShiftSignatures", name := "session", desc := "(II)J" } : Jvm.MethodName) prog_1_method_16_code (9 : Nat) (Option.some Jvm.ClassFile.FieldType.long)) ∈ gw := List.mem_filter.mpr ⟨List.mem_append_right _ (List.mem_append_right _ (List.mem_append_left _ (List.mem_of_getElem? (i := 218) rfl))), by decide +kernel⟩
theorem kw_462 : (Jvm.Cond.code ({ cls := "ShiftSignatures", name := "requirePatterns", desc := "(I)V" } : Jvm.MethodName) prog_1_method_21_code (2 : Nat) (Option.none : Option Jvm.ClassFile.FieldType)) ∈ gw := List.mem_filter.mpr ⟨List.mem_append_right _ (List.mem_append_right _ (List.mem_append_left _ (List.mem_of_getElem? (i := 222) rfl))), by decide +kernel⟩
theorem kw_471 : (Jvm.Cond.code ({ cls := "ShiftSignatures", name := "faults", desc := "(II)I" } : Jvm.MethodName) prog_1_method_17_code (5 : Nat) (Option.some Jvm.ClassFile.FieldType.int)) ∈ gw := List.mem_filter.mpr ⟨List.mem_append_right _ (List.mem_append_right _ (List.mem_append_left _ (List.mem_of_getElem? (i := 231) rfl))), by decide +kernel⟩
theorem kw_476 : (Jvm.Cond.code ({ cls := "ShiftSignatures", name := "compareAllFaults", desc := "(I)V" } : Jvm.MethodName) prog_1_method_26_code (5 : Nat) (Option.none : Option Jvm.ClassFile.FieldType)) ∈ gw := List.mem_filter.mpr ⟨List.mem_append_right _ (List.mem_append_right _ (List.mem_append_left _ (List.mem_of_getElem? (i := 236) rfl))), by decide +kernel⟩
theorem kw_480 : (Jvm.Cond.code ({ cls := "ShiftSignatures$Differences", name := "clear", desc := "()V" } : Jvm.MethodName) prog_3_method_2_code (2 : Nat) (Option.none : Option Jvm.ClassFile.FieldType)) ∈ gw := List.mem_filter.mpr ⟨List.mem_append_right _ (List.mem_append_right _ (List.mem_append_right _ (List.mem_append_left _ (List.mem_of_getElem? (i := 0) rfl)))), by decide +kernel⟩
theorem kw_484 : (Jvm.Cond.code ({ cls := "ShiftSignatures$Differences", name := "timesX", desc := "()V" } : Jvm.MethodName) prog_3_method_3_code (2 : Nat) (Option.none : Option Jvm.ClassFile.FieldType)) ∈ gw := List.mem_filter.mpr ⟨List.mem_append_right _ (List.mem_append_right _ (List.mem_append_right _ (List.mem_append_left _ (List.mem_of_getElem? (i := 4) rfl)))), by decide +kernel⟩
theorem kw_488 : (Jvm.Cond.code ({ cls := "ShiftSignatures$Differences", name := "addAnswers", desc := "(LShiftSignatures$Circuit;I)V" } : Jvm.MethodName) prog_3_method_4_code (7 : Nat) (Option.none : Option Jvm.ClassFile.FieldType)) ∈ gw := List.mem_filter.mpr ⟨List.mem_append_right _ (List.mem_append_right _ (List.mem_append_right _ (List.mem_append_left _ (List.mem_of_getElem? (i := 8) rfl)))), by decide +kernel⟩
theorem kw_496 : (Jvm.Cond.code ({ cls := "ShiftSignatures$Differences", name := "reduce", desc := "(LShiftSignatures$Modulus;)V" } : Jvm.MethodName) prog_3_method_5_code (5 : Nat) (Option.none : Option Jvm.ClassFile.FieldType)) ∈ gw := List.mem_filter.mpr ⟨List.mem_append_right _ (List.mem_append_right _ (List.mem_append_right _ (List.mem_append_left _ (List.mem_of_getElem? (i := 16) rfl)))), by decide +kernel⟩
theorem kw_500 : (Jvm.Cond.code ({ cls := "ShiftSignatures$Differences", name := "subtract", desc := "(JJI)V" } : Jvm.MethodName) prog_3_method_6_code (7 : Nat) (Option.none : Option Jvm.ClassFile.FieldType)) ∈ gw := List.mem_filter.mpr ⟨List.mem_append_right _ (List.mem_append_right _ (List.mem_append_right _ (List.mem_append_left _ (List.mem_of_getElem? (i := 20) rfl)))), by decide +kernel⟩
theorem kw_504 : (Jvm.Cond.code ({ cls := "ShiftSignatures$Differences", name := "found", desc := "()J" } : Jvm.MethodName) prog_3_method_7_code (4 : Nat) (Option.some Jvm.ClassFile.FieldType.long)) ∈ gw := List.mem_filter.mpr ⟨List.mem_append_right _ (List.mem_append_right _ (List.mem_append_right _ (List.mem_append_left _ (List.mem_of_getElem? (i := 24) rfl)))), by decide +kernel⟩
theorem kw_507 : (Jvm.Cond.code ({ cls := "ShiftSignatures", name := "lowestBit", desc := "(J)I" } : Jvm.MethodName) prog_1_method_27_code (2 : Nat) (Option.some Jvm.ClassFile.FieldType.int)) ∈ gw := List.mem_filter.mpr ⟨List.mem_append_right _ (List.mem_append_right _ (List.mem_append_right _ (List.mem_append_left _ (List.mem_of_getElem? (i := 27) rfl)))), by decide +kernel⟩
theorem kw_510 : (Jvm.Cond.code ({ cls := "java/lang/Long", name := "numberOfTrailingZeros", desc := "(J)I" } : Jvm.MethodName) prog_12_method_49_code (3 : Nat) (Option.some Jvm.ClassFile.FieldType.int)) ∈ gw := List.mem_filter.mpr ⟨List.mem_append_right _ (List.mem_append_right _ (List.mem_append_right _ (List.mem_append_left _ (List.mem_of_getElem? (i := 30) rfl)))), by decide +kernel⟩
theorem kw_513 : (Jvm.Cond.code ({ cls := "java/lang/Integer", name := "numberOfTrailingZeros", desc := "(I)I" } : Jvm.MethodName) prog_11_method_48_code (2 : Nat) (Option.some Jvm.ClassFile.FieldType.int)) ∈ gw := List.mem_filter.mpr ⟨List.mem_append_right _ (List.mem_append_right _ (List.mem_append_right _ (List.mem_append_left _ (List.mem_of_getElem? (i := 33) rfl)))), by decide +kernel⟩
theorem kw_520 : (Jvm.Cond.code ({ cls := "ShiftSignatures", name := "first", desc := "(II)I" } : Jvm.MethodName) prog_1_method_18_code (7 : Nat) (Option.some Jvm.ClassFile.FieldType.int)) ∈ gw := List.mem_filter.mpr ⟨List.mem_append_right _ (List.mem_append_right _ (List.mem_append_right _ (List.mem_append_left _ (List.mem_of_getElem? (i := 40) rfl)))), by decide +kernel⟩
theorem kw_525 : (Jvm.Cond.code ({ cls := "ShiftSignaturesModel", name := "<init>", desc := "()V" } : Jvm.MethodName) prog_6_method_1_code (1 : Nat) (Option.none : Option Jvm.ClassFile.FieldType)) ∈ gw := List.mem_filter.mpr ⟨List.mem_append_right _ (List.mem_append_right _ (List.mem_append_right _ (List.mem_append_left _ (List.mem_of_getElem? (i := 45) rfl)))), by decide +kernel⟩
theorem kw_583 : (Jvm.Cond.code ({ cls := "ShiftSignaturesModel", name := "thrown", desc := "()I" } : Jvm.MethodName) prog_6_method_2_code (1 : Nat) (Option.some Jvm.ClassFile.FieldType.int)) ∈ gw := List.mem_filter.mpr ⟨List.mem_append_right _ (List.mem_append_right _ (List.mem_append_right _ (List.mem_append_left _ (List.mem_of_getElem? (i := 103) rfl)))), by decide +kernel⟩
theorem kw_587 : (Jvm.Cond.code ({ cls := "ShiftSignaturesModel", name := "polynomial", desc := "(J)I" } : Jvm.MethodName) prog_6_method_5_code (5 : Nat) (Option.some Jvm.ClassFile.FieldType.int)) ∈ gw := List.mem_filter.mpr ⟨List.mem_append_right _ (List.mem_append_right _ (List.mem_append_right _ (List.mem_append_left _ (List.mem_of_getElem? (i := 107) rfl)))), by decide +kernel⟩
theorem kw_591 : (Jvm.Cond.code ({ cls := "ShiftSignaturesModel", name := "refused", desc := "(I)Z" } : Jvm.MethodName) prog_6_method_3_code (2 : Nat) (Option.some Jvm.ClassFile.FieldType.boolean)) ∈ gw := List.mem_filter.mpr ⟨List.mem_append_right _ (List.mem_append_right _ (List.mem_append_right _ (List.mem_append_left _ (List.mem_of_getElem? (i := 111) rfl)))), by decide +kernel⟩
theorem kw_595 : (Jvm.Cond.code ({ cls := "ShiftSignaturesModel", name := "clearCircuit", desc := "()V" } : Jvm.MethodName) prog_6_method_4_code (1 : Nat) (Option.none : Option Jvm.ClassFile.FieldType)) ∈ gw := List.mem_filter.mpr ⟨List.mem_append_right _ (List.mem_append_right _ (List.mem_append_right _ (List.mem_append_left _ (List.mem_of_getElem? (i := 115) rfl)))), by decide +kernel⟩
theorem kw_599 : (Jvm.Cond.code ({ cls := "ShiftSignaturesModel", name := "times", desc := "(JJ)J" } : Jvm.MethodName) prog_6_method_12_code (5 : Nat) (Option.some Jvm.ClassFile.FieldType.long)) ∈ gw := List.mem_filter.mpr ⟨List.mem_append_right _ (List.mem_append_right _ (List.mem_append_right _ (List.mem_append_left _ (List.mem_of_getElem? (i := 119) rfl)))), by decide +kernel⟩
theorem kw_603 : (Jvm.Cond.code ({ cls := "ShiftSignaturesModel", name := "isResidue", desc := "(J)Z" } : Jvm.MethodName) prog_6_method_6_code (3 : Nat) (Option.some Jvm.ClassFile.FieldType.boolean)) ∈ gw := List.mem_filter.mpr ⟨List.mem_append_right _ (List.mem_append_right _ (List.mem_append_right _ (List.mem_append_left _ (List.mem_of_getElem? (i := 123) rfl)))), by decide +kernel⟩
theorem kw_607 : (Jvm.Cond.code ({ cls := "ShiftSignaturesModel", name := "product", desc := "(JJ)J" } : Jvm.MethodName) prog_6_method_8_code (8 : Nat) (Option.some Jvm.ClassFile.FieldType.long)) ∈ gw := List.mem_filter.mpr ⟨List.mem_append_right _ (List.mem_append_right _ (List.mem_append_right _ (List.mem_append_left _ (List.mem_of_getElem? (i := 127) rfl)))), by decide +kernel⟩
theorem kw_611 : (Jvm.Cond.code ({ cls := "ShiftSignaturesModel", name := "step", desc := "(J)J" } : Jvm.MethodName) prog_6_method_7_code (5 : Nat) (Option.some Jvm.ClassFile.FieldType.long)) ∈ gw := List.mem_filter.mpr ⟨List.mem_append_right _ (List.mem_append_right _ (List.mem_append_right _ (List.mem_append_left _ (List.mem_of_getElem? (i := 131) rfl)))), by decide +kernel⟩
theorem kw_616 : (Jvm.Cond.code ({ cls := "ShiftSignaturesModel", name := "power", desc := "(JJ)J" } : Jvm.MethodName) prog_6_method_13_code (5 : Nat) (Option.some Jvm.ClassFile.FieldType.long)) ∈ gw := List.mem_filter.mpr ⟨List.mem_append_right _ (List.mem_append_right _ (List.mem_append_right _ (List.mem_append_left _ (List.mem_of_getElem? (i := 136) rfl)))), by decide +kernel⟩
theorem kw_620 : (Jvm.Cond.code ({ cls := "ShiftSignaturesModel", name := "raised", desc := "(JJ)J" } : Jvm.MethodName) prog_6_method_9_code (8 : Nat) (Option.some Jvm.ClassFile.FieldType.long)) ∈ gw := List.mem_filter.mpr ⟨List.mem_append_right _ (List.mem_append_right _ (List.mem_append_right _ (List.mem_append_left _ (List.mem_of_getElem? (i := 140) rfl)))), by decide +kernel⟩
theorem kw_624 : (Jvm.Cond.code ({ cls := "ShiftSignaturesModel", name := "reduced", desc := "(J)J" } : Jvm.MethodName) prog_6_method_11_code (3 : Nat) (Option.some Jvm.ClassFile.FieldType.long)) ∈ gw := List.mem_filter.mpr ⟨List.mem_append_right _ (List.mem_append_right _ (List.mem_append_right _ (List.mem_append_left _ (List.mem_of_getElem? (i := 144) rfl)))), by decide +kernel⟩
theorem kw_627 : (Jvm.Cond.code ({ cls := "ShiftSignaturesModel", name := "left", desc := "(JJI)J" } : Jvm.MethodName) prog_6_method_10_code (8 : Nat) (Option.some Jvm.ClassFile.FieldType.long)) ∈ gw := List.mem_filter.mpr ⟨List.mem_append_right _ (List.mem_append_right _ (List.mem_append_right _ (List.mem_append_left _ (List.mem_of_getElem? (i := 147) rfl)))), by decide +kernel⟩
theorem kw_631 : (Jvm.Cond.code ({ cls := "ShiftSignaturesModel", name := "residue", desc := "(J)J" } : Jvm.MethodName) prog_6_method_14_code (3 : Nat) (Option.some Jvm.ClassFile.FieldType.long)) ∈ gw := List.mem_filter.mpr ⟨List.mem_append_right _ (List.mem_append_right _ (List.mem_append_right _ (List.mem_append_left _ (List.mem_of_getElem? (i := 151) rfl)))), by decide +kernel⟩
theorem kw_635 : (Jvm.Cond.code ({ cls := "ShiftSignaturesModel", name := "irreducible", desc := "()Z" } : Jvm.MethodName) prog_6_method_16_code (1 : Nat) (Option.some Jvm.ClassFile.FieldType.boolean)) ∈ gw := List.mem_filter.mpr ⟨List.mem_append_right _ (List.mem_append_right _ (List.mem_append_right _ (List.mem_append_left _ (List.mem_of_getElem? (i := 155) rfl)))), by decide +kernel⟩
theorem kw_639 : (Jvm.Cond.code ({ cls := "ShiftSignaturesModel", name := "isProduct", desc := "()Z" } : Jvm.MethodName) prog_6_method_15_code (7 : Nat) (Option.some Jvm.ClassFile.FieldType.boolean)) ∈ gw := List.mem_filter.mpr ⟨List.mem_append_right _ (List.mem_append_right _ (List.mem_append_right _ (List.mem_append_left _ (List.mem_of_getElem? (i := 159) rfl)))), by decide +kernel⟩
theorem kw_643 : (Jvm.Cond.code ({ cls := "ShiftSignaturesModel", name := "primitive", desc := "()Z" } : Jvm.MethodName) prog_6_method_17_code (10 : Nat) (Option.some Jvm.ClassFile.FieldType.boolean)) ∈ gw := List.mem_filter.mpr ⟨List.mem_append_right _ (List.mem_append_right _ (List.mem_append_right _ (List.mem_append_left _ (List.mem_of_getElem? (i := 163) rfl)))), by decide +kernel⟩
theorem kw_647 : (Jvm.Cond.code ({ cls := "ShiftSignaturesModel", name := "order", desc := "()J" } : Jvm.MethodName) prog_6_method_18_code (3 : Nat) (Option.some Jvm.ClassFile.FieldType.long)) ∈ gw := List.mem_filter.mpr ⟨List.mem_append_right _ (List.mem_append_right _ (List.mem_append_right _ (List.mem_append_left _ (List.mem_of_getElem? (i := 167) rfl)))), by decide +kernel⟩
theorem kw_652 : (Jvm.Cond.code ({ cls := "ShiftSignaturesModel", name := "load", desc := "(J)J" } : Jvm.MethodName) prog_6_method_19_code (5 : Nat) (Option.some Jvm.ClassFile.FieldType.long)) ∈ gw := List.mem_filter.mpr ⟨List.mem_append_right _ (List.mem_append_right _ (List.mem_append_right _ (List.mem_append_left _ (List.mem_of_getElem? (i := 172) rfl)))), by decide +kernel⟩
theorem kw_656 : (Jvm.Cond.code ({ cls := "ShiftSignaturesModel", name := "steps", desc := "(J)J" } : Jvm.MethodName) prog_6_method_20_code (3 : Nat) (Option.some Jvm.ClassFile.FieldType.long)) ∈ gw := List.mem_filter.mpr ⟨List.mem_append_right _ (List.mem_append_right _ (List.mem_append_right _ (List.mem_append_left _ (List.mem_of_getElem? (i := 176) rfl)))), by decide +kernel⟩
theorem kw_660 : (Jvm.Cond.code ({ cls := "ShiftSignaturesModel", name := "channel", desc := "(J)I" } : Jvm.MethodName) prog_6_method_21_code (3 : Nat) (Option.some Jvm.ClassFile.FieldType.int)) ∈ gw := List.mem_filter.mpr ⟨List.mem_append_right _ (List.mem_append_right _ (List.mem_append_right _ (List.mem_append_left _ (List.mem_of_getElem? (i := 180) rfl)))), by decide +kernel⟩
theorem kw_664 : (Jvm.Cond.code ({ cls := "ShiftSignaturesModel", name := "pattern", desc := "()I" } : Jvm.MethodName) prog_6_method_23_code (1 : Nat) (Option.some Jvm.ClassFile.FieldType.int)) ∈ gw := List.mem_filter.mpr ⟨List.mem_append_right _ (List.mem_append_right _ (List.mem_append_right _ (List.mem_append_left _ (List.mem_of_getElem? (i := 184) rfl)))), by decide +kernel⟩
theorem kw_668 : (Jvm.Cond.code ({ cls := "ShiftSignaturesModel", name := "patternOf", desc := "(J)I" } : Jvm.MethodName) prog_6_method_22_code (9 : Nat) (Option.some Jvm.ClassFile.FieldType.int)) ∈ gw := List.mem_filter.mpr ⟨List.mem_append_right _ (List.mem_append_right _ (List.mem_append_right _ (List.mem_append_left _ (List.mem_of_getElem? (i := 188) rfl)))), by decide +kernel⟩
theorem kw_672 : (Jvm.Cond.code ({ cls := "ShiftSignaturesModel", name := "gate", desc := "(III)I" } : Jvm.MethodName) prog_6_method_25_code (5 : Nat) (Option.some Jvm.ClassFile.FieldType.int)) ∈ gw := List.mem_filter.mpr ⟨List.mem_append_right _ (List.mem_append_right _ (List.mem_append_right _ (List.mem_append_left _ (List.mem_of_getElem? (i := 192) rfl)))), by decide +kernel⟩
theorem kw_676 : (Jvm.Cond.code ({ cls := "ShiftSignaturesModel", name := "isLine", desc := "(I)Z" } : Jvm.MethodName) prog_6_method_24_code (2 : Nat) (Option.some Jvm.ClassFile.FieldType.boolean)) ∈ gw := List.mem_filter.mpr ⟨List.mem_append_right _ (List.mem_append_right _ (List.mem_append_right _ (List.mem_append_left _ (List.mem_of_getElem? (i := 196) rfl)))), by decide +kernel⟩
theorem kw_680 : (Jvm.Cond.code ({ cls := "ShiftSignaturesModel", name := "output", desc := "(I)I" } : Jvm.MethodName) prog_6_method_26_code (2 : Nat) (Option.some Jvm.ClassFile.FieldType.int)) ∈ gw := List.mem_filter.mpr ⟨List.mem_append_right _ (List.mem_append_right _ (List.mem_append_right _ (List.mem_append_left _ (List.mem_of_getElem? (i := 200) rfl)))), by decide +kernel⟩
theorem kw_684 : (Jvm.Cond.code ({ cls := "ShiftSignaturesModel", name := "answer", desc := "(II)I" } : Jvm.MethodName) prog_6_method_30_code (3 : Nat) (Option.some Jvm.ClassFile.FieldType.int)) ∈ gw := List.mem_filter.mpr ⟨List.mem_append_right _ (List.mem_append_right _ (List.mem_append_right _ (List.mem_append_left _ (List.mem_of_getElem? (i := 204) rfl)))), by decide +kernel⟩
theorem kw_688 : (Jvm.Cond.code ({ cls := "ShiftSignaturesModel", name := "isFault", desc := "(I)Z" } : Jvm.MethodName) prog_6_method_29_code (2 : Nat) (Option.some Jvm.ClassFile.FieldType.boolean)) ∈ gw := List.mem_filter.mpr ⟨List.mem_append_right _ (List.mem_append_right _ (List.mem_append_right _ (List.mem_append_left _ (List.mem_of_getElem? (i := 208) rfl)))), by decide +kernel⟩
theorem kw_692 : (Jvm.Cond.code ({ cls := "ShiftSignaturesModel", name := "answerTo", desc := "(II)I" } : Jvm.MethodName) prog_6_method_28_code (5 : Nat) (Option.some Jvm.ClassFile.FieldType.int)) ∈ gw := List.mem_filter.mpr ⟨List.mem_append_right _ (List.mem_append_right _ (List.mem_append_right _ (List.mem_append_left _ (List.mem_of_getElem? (i := 212) rfl)))), by decide +kernel⟩
theorem kw_695 : (Jvm.Cond.code ({ cls := "ShiftSignaturesModel", name := "worth", desc := "(III)I" } : Jvm.MethodName) prog_6_method_27_code (3 : Nat) (Option.some Jvm.ClassFile.FieldType.int)) ∈ gw := List.mem_filter.mpr ⟨List.mem_append_right _ (List.mem_append_right _ (List.mem_append_right _ (List.mem_append_left _ (List.mem_of_getElem? (i := 215) rfl)))), by decide +kernel⟩
theorem kw_699 : (Jvm.Cond.code ({ cls := "ShiftSignaturesModel", name := "session", desc := "(II)J" } : Jvm.MethodName) prog_6_method_35_code (4 : Nat) (Option.some Jvm.ClassFile.FieldType.long)) ∈ gw := List.mem_filter.mpr ⟨List.mem_append_right _ (List.mem_append_right _ (List.mem_append_right _ (List.mem_append_left _ (List.mem_of_getElem? (i := 219) rfl)))), by decide +kernel⟩
theorem kw_702 : (Jvm.Cond.code ({ cls := "ShiftSignaturesModel", name := "isCount", desc := "(I)Z" } : Jvm.MethodName) prog_6_method_34_code (1 : Nat) (Option.some Jvm.ClassFile.FieldType.boolean)) ∈ gw := List.mem_filter.mpr ⟨List.mem_append_right _ (List.mem_append_right _ (List.mem_append_right _ (List.mem_append_left _ (List.mem_of_getElem? (i := 222) rfl)))), by decide +kernel⟩
theorem kw_706 : (Jvm.Cond.code ({ cls := "ShiftSignaturesModel", name := "prepare", desc := "(I)V" } : Jvm.MethodName) prog_6_method_31_code (5 : Nat) (Option.none : Option Jvm.ClassFile.FieldType)) ∈ gw := List.mem_filter.mpr ⟨List.mem_append_right _ (List.mem_append_right _ (List.mem_append_right _ (List.mem_append_left _ (List.mem_of_getElem? (i := 226) rfl)))), by decide +kernel⟩
theorem kw_710 : (Jvm.Cond.code ({ cls := "ShiftSignaturesModel", name := "signature", desc := "(II)J" } : Jvm.MethodName) prog_6_method_32_code (6 : Nat) (Option.some Jvm.ClassFile.FieldType.long)) ∈ gw := List.mem_filter.mpr ⟨List.mem_append_right _ (List.mem_append_right _ (List.mem_append_right _ (List.mem_append_left _ (List.mem_of_getElem? (i := 230) rfl)))), by decide +kernel⟩
theorem kw_714 : (Jvm.Cond.code ({ cls := "ShiftSignaturesModel", name := "faults", desc := "(II)I" } : Jvm.MethodName) prog_6_method_36_code (12 : Nat) (Option.some Jvm.ClassFile.FieldType.int)) ∈ gw := List.mem_filter.mpr ⟨List.mem_append_right _ (List.mem_append_right _ (List.mem_append_right _ (List.mem_append_left _ (List.mem_of_getElem? (i := 234) rfl)))), by decide +kernel⟩
theorem kw_718 : (Jvm.Cond.code ({ cls := "ShiftSignaturesModel", name := "firstSeen", desc := "(II)I" } : Jvm.MethodName) prog_6_method_33_code (4 : Nat) (Option.some Jvm.ClassFile.FieldType.int)) ∈ gw := List.mem_filter.mpr ⟨List.mem_append_right _ (List.mem_append_right _ (List.mem_append_right _ (List.mem_append_left _ (List.mem_of_getElem? (i := 238) rfl)))), by decide +kernel⟩
theorem kw_722 : (Jvm.Cond.code ({ cls := "ShiftSignaturesModel", name := "first", desc := "(II)I" } : Jvm.MethodName) prog_6_method_37_code (3 : Nat) (Option.some Jvm.ClassFile.FieldType.int)) ∈ gw := List.mem_filter.mpr ⟨List.mem_append_right _ (List.mem_append_right _ (List.mem_append_right _ (List.mem_append_right _ (List.mem_of_getElem? (i := 2) rfl)))), by decide +kernel⟩
theorem kw_205 : (Jvm.Cond.codeWith ({ cls := "ShiftSignaturesLaw", name := "polynomial", desc := "(LShiftSignatures;J[J)I" } : Jvm.MethodName) method_3_code (5 : Nat) (Option.some Jvm.ClassFile.FieldType.int) [((0 : Nat), (9 : Nat), (12 : Nat), (13 : Nat))]) ∈ gw := List.mem_filter.mpr ⟨List.mem_append_right _ (List.mem_append_left _ (List.mem_of_getElem? (i := 205) rfl)), by decide +kernel⟩
theorem kw_292 : (Jvm.Cond.codeWith ({ cls := "ShiftSignaturesLaw", name := "times", desc := "(LShiftSignatures;JJ[J)I" } : Jvm.MethodName) method_4_code (7 : Nat) (Option.some Jvm.ClassFile.FieldType.int) [((0 : Nat), (10 : Nat), (13 : Nat), (13 : Nat))]) ∈ gw := List.mem_filter.mpr ⟨List.mem_append_right _ (List.mem_append_right _ (List.mem_append_left _ (List.mem_of_getElem? (i := 52) rfl))), by decide +kernel⟩
theorem kw_309 : (Jvm.Cond.codeWith ({ cls := "ShiftSignaturesLaw", name := "power", desc := "(LShiftSignatures;JJ[J)I" } : Jvm.MethodName) method_5_code (7 : Nat) (Option.some Jvm.ClassFile.FieldType.int) [((0 : Nat), (10 : Nat), (13 : Nat), (13 : Nat))]) ∈ gw := List.mem_filter.mpr ⟨List.mem_append_right _ (List.mem_append_right _ (List.mem_append_left _ (List.mem_of_getElem? (i := 69) rfl))), by decide +kernel⟩
theorem kw_322 : (Jvm.Cond.codeWith ({ cls := "ShiftSignaturesLaw", name := "load", desc := "(LShiftSignatures;J[J)I" } : Jvm.MethodName) method_6_code (5 : Nat) (Option.some Jvm.ClassFile.FieldType.int) [((0 : Nat), (8 : Nat), (11 : Nat), (13 : Nat))]) ∈ gw := List.mem_filter.mpr ⟨List.mem_append_right _ (List.mem_append_right _ (List.mem_append_left _ (List.mem_of_getElem? (i := 82) rfl))), by decide +kernel⟩
theorem kw_329 : (Jvm.Cond.codeWith ({ cls := "ShiftSignaturesLaw", name := "steps", desc := "(LShiftSignatures;J[J)I" } : Jvm.MethodName) method_7_code (5 : Nat) (Option.some Jvm.ClassFile.FieldType.int) [((0 : Nat), (8 : Nat), (11 : Nat), (13 : Nat))]) ∈ gw := List.mem_filter.mpr ⟨List.mem_append_right _ (List.mem_append_right _ (List.mem_append_left _ (List.mem_of_getElem? (i := 89) rfl))), by decide +kernel⟩
theorem kw_336 : (Jvm.Cond.codeWith ({ cls := "ShiftSignaturesLaw", name := "channel", desc := "(LShiftSignatures;J[J)I" } : Jvm.MethodName) method_8_code (5 : Nat) (Option.some Jvm.ClassFile.FieldType.int) [((0 : Nat), (9 : Nat), (12 : Nat), (13 : Nat)), ((0 : Nat), (9 : Nat), (16 : Nat), (32 : Nat))]) ∈ gw := List.mem_filter.mpr ⟨List.mem_append_right _ (List.mem_append_right _ (List.mem_append_left _ (List.mem_of_getElem? (i := 96) rfl))), by decide +kernel⟩
theorem kw_360 : (Jvm.Cond.codeWith ({ cls := "ShiftSignaturesLaw", name := "gate", desc := "(LShiftSignatures;III[J)I" } : Jvm.MethodName) method_9_code (6 : Nat) (Option.some Jvm.ClassFile.FieldType.int) [((0 : Nat), (12 : Nat), (15 : Nat), (13 : Nat)), ((0 : Nat), (12 : Nat), (19 : Nat), (38 : Nat)), ((0 : Nat), (12 : Nat), (23 : Nat), (32 : Nat))]) ∈ gw := List.mem_filter.mpr ⟨List.mem_append_right _ (List.mem_append_right _ (List.mem_append_left _ (List.mem_of_getElem? (i := 120) rfl))), by decide +kernel⟩
theorem kw_399 : (Jvm.Cond.codeWith ({ cls := "ShiftSignaturesLaw", name := "output", desc := "(LShiftSignatures;I[J)I" } : Jvm.MethodName) method_10_code (4 : Nat) (Option.some Jvm.ClassFile.FieldType.int) [((0 : Nat), (9 : Nat), (12 : Nat), (38 : Nat)), ((0 : Nat), (9 : Nat), (15 : Nat), (32 : Nat))]) ∈ gw := List.mem_filter.mpr ⟨List.mem_append_right _ (List.mem_append_right _ (List.mem_append_left _ (List.mem_of_getElem? (i := 159) rfl))), by decide +kernel⟩
theorem kw_411 : (Jvm.Cond.codeWith ({ cls := "ShiftSignaturesLaw", name := "answer", desc := "(LShiftSignatures;II[J)I" } : Jvm.MethodName) method_11_code (5 : Nat) (Option.some Jvm.ClassFile.FieldType.int) [((0 : Nat), (10 : Nat), (13 : Nat), (38 : Nat))]) ∈ gw := List.mem_filter.mpr ⟨List.mem_append_right _ (List.mem_append_right _ (List.mem_append_left _ (List.mem_of_getElem? (i := 171) rfl))), by decide +kernel⟩
theorem kw_454 : (Jvm.Cond.codeWith ({ cls := "ShiftSignaturesLaw", name := "session", desc := "(LShiftSignatures;II[J)I" } : Jvm.MethodName) method_12_code (5 : Nat) (Option.some Jvm.ClassFile.FieldType.int) [((0 : Nat), (9 : Nat), (12 : Nat), (38 : Nat)), ((0 : Nat), (9 : Nat), (16 : Nat), (13 : Nat))]) ∈ gw := List.mem_filter.mpr ⟨List.mem_append_right _ (List.mem_append_right _ (List.mem_append_left _ (List.mem_of_getElem? (i := 214) rfl))), by decide +kernel⟩
theorem kw_467 : (Jvm.Cond.codeWith ({ cls := "ShiftSignaturesLaw", name := "faults", desc := "(LShiftSignatures;II[J)I" } : Jvm.MethodName) method_13_code (5 : Nat) (Option.some Jvm.ClassFile.FieldType.int) [((0 : Nat), (10 : Nat), (13 : Nat), (38 : Nat)), ((0 : Nat), (10 : Nat), (17 : Nat), (13 : Nat))]) ∈ gw := List.mem_filter.mpr ⟨List.mem_append_right _ (List.mem_append_right _ (List.mem_append_left _ (List.mem_of_getElem? (i := 227) rfl))), by decide +kernel⟩
theorem kw_516 : (Jvm.Cond.codeWith ({ cls := "ShiftSignaturesLaw", name := "first", desc := "(LShiftSignatures;II[J)I" } : Jvm.MethodName) method_14_code (5 : Nat) (Option.some Jvm.ClassFile.FieldType.int) [((0 : Nat), (10 : Nat), (13 : Nat), (38 : Nat)), ((0 : Nat), (10 : Nat), (17 : Nat), (13 : Nat))]) ∈ gw := List.mem_filter.mpr ⟨List.mem_append_right _ (List.mem_append_right _ (List.mem_append_right _ (List.mem_append_left _ (List.mem_of_getElem? (i := 36) rfl)))), by decide +kernel⟩
theorem kw_28 : (Jvm.Cond.constantLong "ShiftSignatures$Modulus" (9 : Nat) (3 : Int64)) ∈ gw := List.mem_filter.mpr ⟨List.mem_append_right _ (List.mem_append_left _ (List.mem_of_getElem? (i := 28) rfl)), by decide +kernel⟩
theorem kw_176 : (Jvm.Cond.constantLong "ShiftSignatures" (85 : Nat) (-1 : Int64)) ∈ gw := List.mem_filter.mpr ⟨List.mem_append_right _ (List.mem_append_left _ (List.mem_of_getElem? (i := 176) rfl)), by decide +kernel⟩
theorem kw_181 : (Jvm.Cond.constantLong "ShiftSignatures$Modulus" (53 : Nat) (32 : Int64)) ∈ gw := List.mem_filter.mpr ⟨List.mem_append_right _ (List.mem_append_left _ (List.mem_of_getElem? (i := 181) rfl)), by decide +kernel⟩
theorem kw_200 : (Jvm.Cond.constantLong "java/lang/Long" (314 : Nat) (6148914691236517205 : Int64)) ∈ gw := List.mem_filter.mpr ⟨List.mem_append_right _ (List.mem_append_left _ (List.mem_of_getElem? (i := 200) rfl)), by decide +kernel⟩
theorem kw_201 : (Jvm.Cond.constantLong "java/lang/Long" (316 : Nat) (3689348814741910323 : Int64)) ∈ gw := List.mem_filter.mpr ⟨List.mem_append_right _ (List.mem_append_left _ (List.mem_of_getElem? (i := 201) rfl)), by decide +kernel⟩
theorem kw_202 : (Jvm.Cond.constantLong "java/lang/Long" (318 : Nat) (1085102592571150095 : Int64)) ∈ gw := List.mem_filter.mpr ⟨List.mem_append_right _ (List.mem_append_left _ (List.mem_of_getElem? (i := 202) rfl)), by decide +kernel⟩
theorem kw_284 : (Jvm.Cond.constantLong "ShiftSignatures$Modulus" (28 : Nat) (2 : Int64)) ∈ gw := List.mem_filter.mpr ⟨List.mem_append_right _ (List.mem_append_right _ (List.mem_append_left _ (List.mem_of_getElem? (i := 44) rfl))), by decide +kernel⟩
theorem kw_444 : (Jvm.Cond.constantLong "ShiftSignatures$Circuit" (60 : Nat) (-1 : Int64)) ∈ gw := List.mem_filter.mpr ⟨List.mem_append_right _ (List.mem_append_right _ (List.mem_append_left _ (List.mem_of_getElem? (i := 204) rfl))), by decide +kernel⟩
theorem kw_527 : (Jvm.Cond.constantLong "ShiftSignaturesModel" (7 : Nat) (3 : Int64)) ∈ gw := List.mem_filter.mpr ⟨List.mem_append_right _ (List.mem_append_right _ (List.mem_append_right _ (List.mem_append_left _ (List.mem_of_getElem? (i := 47) rfl)))), by decide +kernel⟩
theorem kw_612 : (Jvm.Cond.constantLong "ShiftSignaturesModel" (73 : Nat) (2 : Int64)) ∈ gw := List.mem_filter.mpr ⟨List.mem_append_right _ (List.mem_append_right _ (List.mem_append_right _ (List.mem_append_left _ (List.mem_of_getElem? (i := 132) rfl)))), by decide +kernel⟩
theorem kw_648 : (Jvm.Cond.constantLong "ShiftSignaturesModel" (101 : Nat) (-1 : Int64)) ∈ gw := List.mem_filter.mpr ⟨List.mem_append_right _ (List.mem_append_right _ (List.mem_append_right _ (List.mem_append_left _ (List.mem_of_getElem? (i := 168) rfl)))), by decide +kernel⟩
theorem kw_723 : (Jvm.Cond.constantLong "ShiftSignaturesLaw" (62 : Nat) (4294967295 : Int64)) ∈ gw := List.mem_filter.mpr ⟨List.mem_append_right _ (List.mem_append_right _ (List.mem_append_right _ (List.mem_append_right _ (List.mem_of_getElem? (i := 3) rfl)))), by decide +kernel⟩
theorem kw_130 : (Jvm.Cond.constant "java/lang/Integer" (264 : Nat) (65536 : Int32)) ∈ gw := List.mem_filter.mpr ⟨List.mem_append_right _ (List.mem_append_left _ (List.mem_of_getElem? (i := 130) rfl)), by decide +kernel⟩
theorem kw_29 : (Jvm.Cond.fieldLink "ShiftSignatures$Modulus" (11 : Nat) "ShiftSignatures$Modulus" "p" "J") ∈ gw := List.mem_filter.mpr ⟨List.mem_append_right _ (List.mem_append_left _ (List.mem_of_getElem? (i := 29) rfl)), by decide +kernel⟩
theorem kw_31 : (Jvm.Cond.fieldLink "ShiftSignatures$Modulus" (17 : Nat) "ShiftSignatures$Modulus" "degree" "I") ∈ gw := List.mem_filter.mpr ⟨List.mem_append_right _ (List.mem_append_left _ (List.mem_of_getElem? (i := 31) rfl)), by decide +kernel⟩
theorem kw_34 : (Jvm.Cond.fieldLink "ShiftSignatures$Modulus" (21 : Nat) "ShiftSignatures$Modulus" "x" "J") ∈ gw := List.mem_filter.mpr ⟨List.mem_append_right _ (List.mem_append_left _ (List.mem_of_getElem? (i := 34) rfl)), by decide +kernel⟩
theorem kw_49 : (Jvm.Cond.fieldLink "ShiftSignatures$Circuit" (9 : Nat) "ShiftSignatures$Circuit" "kinds" "[I") ∈ gw := List.mem_filter.mpr ⟨List.mem_append_right _ (List.mem_append_left _ (List.mem_of_getElem? (i := 49) rfl)), by decide +kernel⟩
theorem kw_50 : (Jvm.Cond.fieldLink "ShiftSignatures$Circuit" (15 : Nat) "ShiftSignatures$Circuit" "lefts" "[I") ∈ gw := List.mem_filter.mpr ⟨List.mem_append_right _ (List.mem_append_left _ (List.mem_of_getElem? (i := 50) rfl)), by decide +kernel⟩
theorem kw_51 : (Jvm.Cond.fieldLink "ShiftSignatures$Circuit" (18 : Nat) "ShiftSignatures$Circuit" "rights" "[I") ∈ gw := List.mem_filter.mpr ⟨List.mem_append_right _ (List.mem_append_left _ (List.mem_of_getElem? (i := 51) rfl)), by decide +kernel⟩
theorem kw_52 : (Jvm.Cond.fieldLink "ShiftSignatures$Circuit" (21 : Nat) "ShiftSignatures$Circuit" "outputLines" "[I") ∈ gw := List.mem_filter.mpr ⟨List.mem_append_right _ (List.mem_append_left _ (List.mem_of_getElem? (i := 52) rfl)), by decide +kernel⟩
theorem kw_53 : (Jvm.Cond.fieldLink "ShiftSignatures$Circuit" (24 : Nat) "ShiftSignatures$Circuit" "values" "[J") ∈ gw := List.mem_filter.mpr ⟨List.mem_append_right _ (List.mem_append_left _ (List.mem_of_getElem? (i := 53) rfl)), by decide +kernel⟩
theorem kw_54 : (Jvm.Cond.fieldLink "ShiftSignatures$Circuit" (28 : Nat) "ShiftSignatures$Circuit" "channelCount" "I") ∈ gw := List.mem_filter.mpr ⟨List.mem_append_right _ (List.mem_append_left _ (List.mem_of_getElem? (i := 54) rfl)), by decide +kernel⟩
theorem kw_56 : (Jvm.Cond.fieldLink "ShiftSignatures$Circuit" (32 : Nat) "ShiftSignatures$Circuit" "gateCount" "I") ∈ gw := List.mem_filter.mpr ⟨List.mem_append_right _ (List.mem_append_left _ (List.mem_of_getElem? (i := 56) rfl)), by decide +kernel⟩
theorem kw_58 : (Jvm.Cond.fieldLink "ShiftSignatures$Circuit" (35 : Nat) "ShiftSignatures$Circuit" "outputCount" "I") ∈ gw := List.mem_filter.mpr ⟨List.mem_append_right _ (List.mem_append_left _ (List.mem_of_getElem? (i := 58) rfl)), by decide +kernel⟩
theorem kw_86 : (Jvm.Cond.fieldLink "ShiftSignatures$Differences" (9 : Nat) "ShiftSignatures$Differences" "rows" "[J") ∈ gw := List.mem_filter.mpr ⟨List.mem_append_right _ (List.mem_append_left _ (List.mem_of_getElem? (i := 86) rfl)), by decide +kernel⟩
theorem kw_87 : (Jvm.Cond.fieldLink "ShiftSignatures$Differences" (15 : Nat) "ShiftSignatures$Differences" "seen" "J") ∈ gw := List.mem_filter.mpr ⟨List.mem_append_right _ (List.mem_append_left _ (List.mem_of_getElem? (i := 87) rfl)), by decide +kernel⟩
theorem kw_94 : (Jvm.Cond.fieldLink "ShiftSignatures" (12 : Nat) "ShiftSignatures" "modulus" "LShiftSignatures$Modulus;") ∈ gw := List.mem_filter.mpr ⟨List.mem_append_right _ (List.mem_append_left _ (List.mem_of_getElem? (i := 94) rfl)), by decide +kernel⟩
theorem kw_95 : (Jvm.Cond.fieldLink "ShiftSignatures" (19 : Nat) "ShiftSignatures" "circuit" "LShiftSignatures$Circuit;") ∈ gw := List.mem_filter.mpr ⟨List.mem_append_right _ (List.mem_append_left _ (List.mem_of_getElem? (i := 95) rfl)), by decide +kernel⟩
theorem kw_96 : (Jvm.Cond.fieldLink "ShiftSignatures" (26 : Nat) "ShiftSignatures" "differences" "LShiftSignatures$Differences;") ∈ gw := List.mem_filter.mpr ⟨List.mem_append_right _ (List.mem_append_left _ (List.mem_of_getElem? (i := 96) rfl)), by decide +kernel⟩
theorem kw_97 : (Jvm.Cond.fieldLink "ShiftSignatures" (30 : Nat) "ShiftSignatures" "masks" "[J") ∈ gw := List.mem_filter.mpr ⟨List.mem_append_right _ (List.mem_append_left _ (List.mem_of_getElem? (i := 97) rfl)), by decide +kernel⟩
theorem kw_98 : (Jvm.Cond.fieldLink "ShiftSignatures" (34 : Nat) "ShiftSignatures" "register" "J") ∈ gw := List.mem_filter.mpr ⟨List.mem_append_right _ (List.mem_append_left _ (List.mem_of_getElem? (i := 98) rfl)), by decide +kernel⟩
theorem kw_166 : (Jvm.Cond.fieldLink "ShiftSignatures$Modulus" (58 : Nat) "ShiftSignatures$Modulus" "PRIMES" "[J") ∈ gw := List.mem_filter.mpr ⟨List.mem_append_right _ (List.mem_append_left _ (List.mem_of_getElem? (i := 166) rfl)), by decide +kernel⟩
theorem kw_233 : (Jvm.Cond.fieldLink "java/lang/Throwable" (198 : Nat) "java/lang/Throwable" "backtrace" "Ljava/lang/Object;") ∈ gw := List.mem_filter.mpr ⟨List.mem_append_right _ (List.mem_append_left _ (List.mem_of_getElem? (i := 233) rfl)), by decide +kernel⟩
theorem kw_238 : (Jvm.Cond.fieldLink "java/lang/Throwable" (13 : Nat) "java/lang/Throwable" "UNASSIGNED_STACK" "[Ljava/lang/StackTraceElement;") ∈ gw := List.mem_filter.mpr ⟨List.mem_append_right _ (List.mem_append_left _ (List.mem_of_getElem? (i := 238) rfl)), by decide +kernel⟩
theorem kw_240 : (Jvm.Cond.fieldLink "java/lang/Throwable" (20 : Nat) "java/lang/Throwable" "SUPPRESSED_SENTINEL" "Ljava/util/List;") ∈ gw := List.mem_filter.mpr ⟨List.mem_append_right _ (List.mem_append_right _ (List.mem_append_left _ (List.mem_of_getElem? (i := 0) rfl))), by decide +kernel⟩
theorem kw_266 : (Jvm.Cond.fieldLink "java/lang/Throwable" (198 : Nat) "java/lang/Throwable" "backtrace" "Ljava/lang/Object;") ∈ gw := List.mem_filter.mpr ⟨List.mem_append_right _ (List.mem_append_right _ (List.mem_append_left _ (List.mem_of_getElem? (i := 26) rfl))), by decide +kernel⟩
theorem kw_267 : (Jvm.Cond.fieldLink "java/lang/Throwable" (31 : Nat) "java/lang/Throwable" "detailMessage" "Ljava/lang/String;") ∈ gw := List.mem_filter.mpr ⟨List.mem_append_right _ (List.mem_append_right _ (List.mem_append_left _ (List.mem_of_getElem? (i := 27) rfl))), by decide +kernel⟩
theorem kw_268 : (Jvm.Cond.fieldLink "java/lang/Throwable" (7 : Nat) "java/lang/Throwable" "cause" "Ljava/lang/Throwable;") ∈ gw := List.mem_filter.mpr ⟨List.mem_append_right _ (List.mem_append_right _ (List.mem_append_left _ (List.mem_of_getElem? (i := 28) rfl))), by decide +kernel⟩
theorem kw_269 : (Jvm.Cond.fieldLink "java/lang/Throwable" (17 : Nat) "java/lang/Throwable" "stackTrace" "[Ljava/lang/StackTraceElement;") ∈ gw := List.mem_filter.mpr ⟨List.mem_append_right _ (List.mem_append_right _ (List.mem_append_left _ (List.mem_of_getElem? (i := 29) rfl))), by decide +kernel⟩
theorem kw_270 : (Jvm.Cond.fieldLink "java/lang/Throwable" (24 : Nat) "java/lang/Throwable" "suppressedExceptions" "Ljava/util/List;") ∈ gw := List.mem_filter.mpr ⟨List.mem_append_right _ (List.mem_append_right _ (List.mem_append_left _ (List.mem_of_getElem? (i := 30) rfl))), by decide +kernel⟩
theorem kw_528 : (Jvm.Cond.fieldLink "ShiftSignaturesModel" (48 : Nat) "ShiftSignaturesModel" "fault" "I") ∈ gw := List.mem_filter.mpr ⟨List.mem_append_right _ (List.mem_append_right _ (List.mem_append_right _ (List.mem_append_left _ (List.mem_of_getElem? (i := 48) rfl)))), by decide +kernel⟩
theorem kw_529 : (Jvm.Cond.fieldLink "ShiftSignaturesModel" (9 : Nat) "ShiftSignaturesModel" "poly" "J") ∈ gw := List.mem_filter.mpr ⟨List.mem_append_right _ (List.mem_append_right _ (List.mem_append_right _ (List.mem_append_left _ (List.mem_of_getElem? (i := 49) rfl)))), by decide +kernel⟩
theorem kw_530 : (Jvm.Cond.fieldLink "ShiftSignaturesModel" (15 : Nat) "ShiftSignaturesModel" "degree" "I") ∈ gw := List.mem_filter.mpr ⟨List.mem_append_right _ (List.mem_append_right _ (List.mem_append_right _ (List.mem_append_left _ (List.mem_of_getElem? (i := 50) rfl)))), by decide +kernel⟩
theorem kw_531 : (Jvm.Cond.fieldLink "ShiftSignaturesModel" (19 : Nat) "ShiftSignaturesModel" "register" "J") ∈ gw := List.mem_filter.mpr ⟨List.mem_append_right _ (List.mem_append_right _ (List.mem_append_right _ (List.mem_append_left _ (List.mem_of_getElem? (i := 51) rfl)))), by decide +kernel⟩
theorem kw_532 : (Jvm.Cond.fieldLink "ShiftSignaturesModel" (61 : Nat) "ShiftSignaturesModel" "irreducible" "I") ∈ gw := List.mem_filter.mpr ⟨List.mem_append_right _ (List.mem_append_right _ (List.mem_append_right _ (List.mem_append_left _ (List.mem_of_getElem? (i := 52) rfl)))), by decide +kernel⟩
theorem kw_533 : (Jvm.Cond.fieldLink "ShiftSignaturesModel" (64 : Nat) "ShiftSignaturesModel" "order" "J") ∈ gw := List.mem_filter.mpr ⟨List.mem_append_right _ (List.mem_append_right _ (List.mem_append_right _ (List.mem_append_left _ (List.mem_of_getElem? (i := 53) rfl)))), by decide +kernel⟩
theorem kw_534 : (Jvm.Cond.fieldLink "ShiftSignaturesModel" (67 : Nat) "ShiftSignaturesModel" "channels" "I") ∈ gw := List.mem_filter.mpr ⟨List.mem_append_right _ (List.mem_append_right _ (List.mem_append_right _ (List.mem_append_left _ (List.mem_of_getElem? (i := 54) rfl)))), by decide +kernel⟩
theorem kw_535 : (Jvm.Cond.fieldLink "ShiftSignaturesModel" (22 : Nat) "ShiftSignaturesModel" "masks" "[J") ∈ gw := List.mem_filter.mpr ⟨List.mem_append_right _ (List.mem_append_right _ (List.mem_append_right _ (List.mem_append_left _ (List.mem_of_getElem? (i := 55) rfl)))), by decide +kernel⟩
theorem kw_536 : (Jvm.Cond.fieldLink "ShiftSignaturesModel" (51 : Nat) "ShiftSignaturesModel" "gates" "I") ∈ gw := List.mem_filter.mpr ⟨List.mem_append_right _ (List.mem_append_right _ (List.mem_append_right _ (List.mem_append_left _ (List.mem_of_getElem? (i := 56) rfl)))), by decide +kernel⟩
theorem kw_537 : (Jvm.Cond.fieldLink "ShiftSignaturesModel" (26 : Nat) "ShiftSignaturesModel" "kinds" "[I") ∈ gw := List.mem_filter.mpr ⟨List.mem_append_right _ (List.mem_append_right _ (List.mem_append_right _ (List.mem_append_left _ (List.mem_of_getElem? (i := 57) rfl)))), by decide +kernel⟩
theorem kw_538 : (Jvm.Cond.fieldLink "ShiftSignaturesModel" (30 : Nat) "ShiftSignaturesModel" "ones" "[I") ∈ gw := List.mem_filter.mpr ⟨List.mem_append_right _ (List.mem_append_right _ (List.mem_append_right _ (List.mem_append_left _ (List.mem_of_getElem? (i := 58) rfl)))), by decide +kernel⟩
theorem kw_539 : (Jvm.Cond.fieldLink "ShiftSignaturesModel" (33 : Nat) "ShiftSignaturesModel" "others" "[I") ∈ gw := List.mem_filter.mpr ⟨List.mem_append_right _ (List.mem_append_right _ (List.mem_append_right _ (List.mem_append_left _ (List.mem_of_getElem? (i := 59) rfl)))), by decide +kernel⟩
theorem kw_540 : (Jvm.Cond.fieldLink "ShiftSignaturesModel" (54 : Nat) "ShiftSignaturesModel" "outputs" "I") ∈ gw := List.mem_filter.mpr ⟨List.mem_append_right _ (List.mem_append_right _ (List.mem_append_right _ (List.mem_append_left _ (List.mem_of_getElem? (i := 60) rfl)))), by decide +kernel⟩
theorem kw_541 : (Jvm.Cond.fieldLink "ShiftSignaturesModel" (36 : Nat) "ShiftSignaturesModel" "outs" "[I") ∈ gw := List.mem_filter.mpr ⟨List.mem_append_right _ (List.mem_append_right _ (List.mem_append_right _ (List.mem_append_left _ (List.mem_of_getElem? (i := 61) rfl)))), by decide +kernel⟩
theorem kw_542 : (Jvm.Cond.fieldLink "ShiftSignaturesModel" (39 : Nat) "ShiftSignaturesModel" "lines" "[I") ∈ gw := List.mem_filter.mpr ⟨List.mem_append_right _ (List.mem_append_right _ (List.mem_append_right _ (List.mem_append_left _ (List.mem_of_getElem? (i := 62) rfl)))), by decide +kernel⟩
theorem kw_543 : (Jvm.Cond.fieldLink "ShiftSignaturesModel" (42 : Nat) "ShiftSignaturesModel" "patterns" "[I") ∈ gw := List.mem_filter.mpr ⟨List.mem_append_right _ (List.mem_append_right _ (List.mem_append_right _ (List.mem_append_left _ (List.mem_of_getElem? (i := 63) rfl)))), by decide +kernel⟩
theorem kw_544 : (Jvm.Cond.fieldLink "ShiftSignaturesModel" (45 : Nat) "ShiftSignaturesModel" "answers" "[I") ∈ gw := List.mem_filter.mpr ⟨List.mem_append_right _ (List.mem_append_right _ (List.mem_append_right _ (List.mem_append_left _ (List.mem_of_getElem? (i := 64) rfl)))), by decide +kernel⟩
theorem kw_36 : (Jvm.Cond.lays "ShiftSignatures$Modulus" "ShiftSignatures$Modulus" "p" "J") ∈ gw := List.mem_filter.mpr ⟨List.mem_append_right _ (List.mem_append_left _ (List.mem_of_getElem? (i := 36) rfl)), by decide +kernel⟩
theorem kw_38 : (Jvm.Cond.lays "ShiftSignatures$Modulus" "ShiftSignatures$Modulus" "degree" "I") ∈ gw := List.mem_filter.mpr ⟨List.mem_append_right _ (List.mem_append_left _ (List.mem_of_getElem? (i := 38) rfl)), by decide +kernel⟩
theorem kw_40 : (Jvm.Cond.lays "ShiftSignatures$Modulus" "ShiftSignatures$Modulus" "x" "J") ∈ gw := List.mem_filter.mpr ⟨List.mem_append_right _ (List.mem_append_left _ (List.mem_of_getElem? (i := 40) rfl)), by decide +kernel⟩
theorem kw_71 : (Jvm.Cond.lays "ShiftSignatures$Circuit" "ShiftSignatures$Circuit" "channelCount" "I") ∈ gw := List.mem_filter.mpr ⟨List.mem_append_right _ (List.mem_append_left _ (List.mem_of_getElem? (i := 71) rfl)), by decide +kernel⟩
theorem kw_73 : (Jvm.Cond.lays "ShiftSignatures$Circuit" "ShiftSignatures$Circuit" "gateCount" "I") ∈ gw := List.mem_filter.mpr ⟨List.mem_append_right _ (List.mem_append_left _ (List.mem_of_getElem? (i := 73) rfl)), by decide +kernel⟩
theorem kw_75 : (Jvm.Cond.lays "ShiftSignatures$Circuit" "ShiftSignatures$Circuit" "outputCount" "I") ∈ gw := List.mem_filter.mpr ⟨List.mem_append_right _ (List.mem_append_left _ (List.mem_of_getElem? (i := 75) rfl)), by decide +kernel⟩
theorem kw_91 : (Jvm.Cond.lays "ShiftSignatures$Differences" "ShiftSignatures$Differences" "seen" "J") ∈ gw := List.mem_filter.mpr ⟨List.mem_append_right _ (List.mem_append_left _ (List.mem_of_getElem? (i := 91) rfl)), by decide +kernel⟩
theorem kw_107 : (Jvm.Cond.lays "ShiftSignatures" "ShiftSignatures" "register" "J") ∈ gw := List.mem_filter.mpr ⟨List.mem_append_right _ (List.mem_append_left _ (List.mem_of_getElem? (i := 107) rfl)), by decide +kernel⟩
theorem kw_223 : (Jvm.Cond.lays "java/lang/IllegalArgumentException" "java/lang/Throwable" "cause" "Ljava/lang/Throwable;") ∈ gw := List.mem_filter.mpr ⟨List.mem_append_right _ (List.mem_append_left _ (List.mem_of_getElem? (i := 223) rfl)), by decide +kernel⟩
theorem kw_224 : (Jvm.Cond.lays "java/lang/Throwable" "java/lang/Throwable" "cause" "Ljava/lang/Throwable;") ∈ gw := List.mem_filter.mpr ⟨List.mem_append_right _ (List.mem_append_left _ (List.mem_of_getElem? (i := 224) rfl)), by decide +kernel⟩
theorem kw_225 : (Jvm.Cond.lays "java/lang/IllegalArgumentException" "java/lang/Throwable" "stackTrace" "[Ljava/lang/StackTraceElement;") ∈ gw := List.mem_filter.mpr ⟨List.mem_append_right _ (List.mem_append_left _ (List.mem_of_getElem? (i := 225) rfl)), by decide +kernel⟩
theorem kw_226 : (Jvm.Cond.lays "java/lang/Throwable" "java/lang/Throwable" "stackTrace" "[Ljava/lang/StackTraceElement;") ∈ gw := List.mem_filter.mpr ⟨List.mem_append_right _ (List.mem_append_left _ (List.mem_of_getElem? (i := 226) rfl)), by decide +kernel⟩
theorem kw_227 : (Jvm.Cond.lays "java/lang/IllegalArgumentException" "java/lang/Throwable" "suppressedExceptions" "Ljava/util/List;") ∈ gw := List.mem_filter.mpr ⟨List.mem_append_right _ (List.mem_append_left _ (List.mem_of_getElem? (i := 227) rfl)), by decide +kernel⟩
theorem kw_228 : (Jvm.Cond.lays "java/lang/Throwable" "java/lang/Throwable" "suppressedExceptions" "Ljava/util/List;") ∈ gw := List.mem_filter.mpr ⟨List.mem_append_right _ (List.mem_append_left _ (List.mem_of_getElem? (i := 228) rfl)), by decide +kernel⟩
theorem kw_229 : (Jvm.Cond.lays "java/lang/IllegalArgumentException" "java/lang/Throwable" "detailMessage" "Ljava/lang/String;") ∈ gw := List.mem_filter.mpr ⟨List.mem_append_right _ (List.mem_append_left _ (List.mem_of_getElem? (i := 229) rfl)), by decide +kernel⟩
theorem kw_230 : (Jvm.Cond.lays "java/lang/Throwable" "java/lang/Throwable" "detailMessage" "Ljava/lang/String;") ∈ gw := List.mem_filter.mpr ⟨List.mem_append_right _ (List.mem_append_left _ (List.mem_of_getElem? (i := 230) rfl)), by decide +kernel⟩
theorem kw_231 : (Jvm.Cond.lays "java/lang/IllegalArgumentException" "java/lang/Throwable" "backtrace" "Ljava/lang/Object;") ∈ gw := List.mem_filter.mpr ⟨List.mem_append_right _ (List.mem_append_left _ (List.mem_of_getElem? (i := 231) rfl)), by decide +kernel⟩
theorem kw_232 : (Jvm.Cond.lays "java/lang/Throwable" "java/lang/Throwable" "backtrace" "Ljava/lang/Object;") ∈ gw := List.mem_filter.mpr ⟨List.mem_append_right _ (List.mem_append_left _ (List.mem_of_getElem? (i := 232) rfl)), by decide +kernel⟩
theorem kw_275 : (Jvm.Cond.lays "java/lang/IllegalArgumentException" "java/lang/Throwable" "depth" "I") ∈ gw := List.mem_filter.mpr ⟨List.mem_append_right _ (List.mem_append_right _ (List.mem_append_left _ (List.mem_of_getElem? (i := 35) rfl))), by decide +kernel⟩
theorem kw_346 : (Jvm.Cond.lays "java/lang/IllegalStateException" "java/lang/Throwable" "cause" "Ljava/lang/Throwable;") ∈ gw := List.mem_filter.mpr ⟨List.mem_append_right _ (List.mem_append_right _ (List.mem_append_left _ (List.mem_of_getElem? (i := 106) rfl))), by decide +kernel⟩
theorem kw_347 : (Jvm.Cond.lays "java/lang/IllegalStateException" "java/lang/Throwable" "stackTrace" "[Ljava/lang/StackTraceElement;") ∈ gw := List.mem_filter.mpr ⟨List.mem_append_right _ (List.mem_append_right _ (List.mem_append_left _ (List.mem_of_getElem? (i := 107) rfl))), by decide +kernel⟩
theorem kw_348 : (Jvm.Cond.lays "java/lang/IllegalStateException" "java/lang/Throwable" "suppressedExceptions" "Ljava/util/List;") ∈ gw := List.mem_filter.mpr ⟨List.mem_append_right _ (List.mem_append_right _ (List.mem_append_left _ (List.mem_of_getElem? (i := 108) rfl))), by decide +kernel⟩
theorem kw_349 : (Jvm.Cond.lays "java/lang/IllegalStateException" "java/lang/Throwable" "detailMessage" "Ljava/lang/String;") ∈ gw := List.mem_filter.mpr ⟨List.mem_append_right _ (List.mem_append_right _ (List.mem_append_left _ (List.mem_of_getElem? (i := 109) rfl))), by decide +kernel⟩
theorem kw_350 : (Jvm.Cond.lays "java/lang/IllegalStateException" "java/lang/Throwable" "backtrace" "Ljava/lang/Object;") ∈ gw := List.mem_filter.mpr ⟨List.mem_append_right _ (List.mem_append_right _ (List.mem_append_left _ (List.mem_of_getElem? (i := 110) rfl))), by decide +kernel⟩
theorem kw_356 : (Jvm.Cond.lays "java/lang/IllegalStateException" "java/lang/Throwable" "depth" "I") ∈ gw := List.mem_filter.mpr ⟨List.mem_append_right _ (List.mem_append_right _ (List.mem_append_left _ (List.mem_of_getElem? (i := 116) rfl))), by decide +kernel⟩
theorem kw_379 : (Jvm.Cond.lays "java/lang/IndexOutOfBoundsException" "java/lang/Throwable" "cause" "Ljava/lang/Throwable;") ∈ gw := List.mem_filter.mpr ⟨List.mem_append_right _ (List.mem_append_right _ (List.mem_append_left _ (List.mem_of_getElem? (i := 139) rfl))), by decide +kernel⟩
theorem kw_380 : (Jvm.Cond.lays "java/lang/IndexOutOfBoundsException" "java/lang/Throwable" "stackTrace" "[Ljava/lang/StackTraceElement;") ∈ gw := List.mem_filter.mpr ⟨List.mem_append_right _ (List.mem_append_right _ (List.mem_append_left _ (List.mem_of_getElem? (i := 140) rfl))), by decide +kernel⟩
theorem kw_381 : (Jvm.Cond.lays "java/lang/IndexOutOfBoundsException" "java/lang/Throwable" "suppressedExceptions" "Ljava/util/List;") ∈ gw := List.mem_filter.mpr ⟨List.mem_append_right _ (List.mem_append_right _ (List.mem_append_left _ (List.mem_of_getElem? (i := 141) rfl))), by decide +kernel⟩
theorem kw_382 : (Jvm.Cond.lays "java/lang/IndexOutOfBoundsException" "java/lang/Throwable" "detailMessage" "Ljava/lang/String;") ∈ gw := List.mem_filter.mpr ⟨List.mem_append_right _ (List.mem_append_right _ (List.mem_append_left _ (List.mem_of_getElem? (i := 142) rfl))), by decide +kernel⟩
theorem kw_383 : (Jvm.Cond.lays "java/lang/IndexOutOfBoundsException" "java/lang/Throwable" "backtrace" "Ljava/lang/Object;") ∈ gw := List.mem_filter.mpr ⟨List.mem_append_right _ (List.mem_append_right _ (List.mem_append_left _ (List.mem_of_getElem? (i := 143) rfl))), by decide +kernel⟩
theorem kw_389 : (Jvm.Cond.lays "java/lang/IndexOutOfBoundsException" "java/lang/Throwable" "depth" "I") ∈ gw := List.mem_filter.mpr ⟨List.mem_append_right _ (List.mem_append_right _ (List.mem_append_left _ (List.mem_of_getElem? (i := 149) rfl))), by decide +kernel⟩
theorem kw_545 : (Jvm.Cond.lays "ShiftSignaturesModel" "ShiftSignaturesModel" "fault" "I") ∈ gw := List.mem_filter.mpr ⟨List.mem_append_right _ (List.mem_append_right _ (List.mem_append_right _ (List.mem_append_left _ (List.mem_of_getElem? (i := 65) rfl)))), by decide +kernel⟩
theorem kw_547 : (Jvm.Cond.lays "ShiftSignaturesModel" "ShiftSignaturesModel" "poly" "J") ∈ gw := List.mem_filter.mpr ⟨List.mem_append_right _ (List.mem_append_right _ (List.mem_append_right _ (List.mem_append_left _ (List.mem_of_getElem? (i := 67) rfl)))), by decide +kernel⟩
theorem kw_549 : (Jvm.Cond.lays "ShiftSignaturesModel" "ShiftSignaturesModel" "degree" "I") ∈ gw := List.mem_filter.mpr ⟨List.mem_append_right _ (List.mem_append_right _ (List.mem_append_right _ (List.mem_append_left _ (List.mem_of_getElem? (i := 69) rfl)))), by decide +kernel⟩
theorem kw_551 : (Jvm.Cond.lays "ShiftSignaturesModel" "ShiftSignaturesModel" "register" "J") ∈ gw := List.mem_filter.mpr ⟨List.mem_append_right _ (List.mem_append_right _ (List.mem_append_right _ (List.mem_append_left _ (List.mem_of_getElem? (i := 71) rfl)))), by decide +kernel⟩
theorem kw_553 : (Jvm.Cond.lays "ShiftSignaturesModel" "ShiftSignaturesModel" "irreducible" "I") ∈ gw := List.mem_filter.mpr ⟨List.mem_append_right _ (List.mem_append_right _ (List.mem_append_right _ (List.mem_append_left _ (List.mem_of_getElem? (i := 73) rfl)))), by decide +kernel⟩
theorem kw_555 : (Jvm.Cond.lays "ShiftSignaturesModel" "ShiftSignaturesModel" "order" "J") ∈ gw := List.mem_filter.mpr ⟨List.mem_append_right _ (List.mem_append_right _ (List.mem_append_right _ (List.mem_append_left _ (List.mem_of_getElem? (i := 75) rfl)))), by decide +kernel⟩
theorem kw_557 : (Jvm.Cond.lays "ShiftSignaturesModel" "ShiftSignaturesModel" "channels" "I") ∈ gw := List.mem_filter.mpr ⟨List.mem_append_right _ (List.mem_append_right _ (List.mem_append_right _ (List.mem_append_left _ (List.mem_of_getElem? (i := 77) rfl)))), by decide +kernel⟩
theorem kw_561 : (Jvm.Cond.lays "ShiftSignaturesModel" "ShiftSignaturesModel" "gates" "I") ∈ gw := List.mem_filter.mpr ⟨List.mem_append_right _ (List.mem_append_right _ (List.mem_append_right _ (List.mem_append_left _ (List.mem_of_getElem? (i := 81) rfl)))), by decide +kernel⟩
theorem kw_569 : (Jvm.Cond.lays "ShiftSignaturesModel" "ShiftSignaturesModel" "outputs" "I") ∈ gw := List.mem_filter.mpr ⟨List.mem_append_right _ (List.mem_append_right _ (List.mem_append_right _ (List.mem_append_left _ (List.mem_of_getElem? (i := 89) rfl)))), by decide +kernel⟩
theorem kw_61 : (Jvm.Cond.laysFinal "ShiftSignatures$Circuit" "ShiftSignatures$Circuit" "kinds" "[I") ∈ gw := List.mem_filter.mpr ⟨List.mem_append_right _ (List.mem_append_left _ (List.mem_of_getElem? (i := 61) rfl)), by decide +kernel⟩
theorem kw_63 : (Jvm.Cond.laysFinal "ShiftSignatures$Circuit" "ShiftSignatures$Circuit" "lefts" "[I") ∈ gw := List.mem_filter.mpr ⟨List.mem_append_right _ (List.mem_append_left _ (List.mem_of_getElem? (i := 63) rfl)), by decide +kernel⟩
theorem kw_65 : (Jvm.Cond.laysFinal "ShiftSignatures$Circuit" "ShiftSignatures$Circuit" "rights" "[I") ∈ gw := List.mem_filter.mpr ⟨List.mem_append_right _ (List.mem_append_left _ (List.mem_of_getElem? (i := 65) rfl)), by decide +kernel⟩
theorem kw_67 : (Jvm.Cond.laysFinal "ShiftSignatures$Circuit" "ShiftSignatures$Circuit" "outputLines" "[I") ∈ gw := List.mem_filter.mpr ⟨List.mem_append_right _ (List.mem_append_left _ (List.mem_of_getElem? (i := 67) rfl)), by decide +kernel⟩
theorem kw_69 : (Jvm.Cond.laysFinal "ShiftSignatures$Circuit" "ShiftSignatures$Circuit" "values" "[J") ∈ gw := List.mem_filter.mpr ⟨List.mem_append_right _ (List.mem_append_left _ (List.mem_of_getElem? (i := 69) rfl)), by decide +kernel⟩
theorem kw_89 : (Jvm.Cond.laysFinal "ShiftSignatures$Differences" "ShiftSignatures$Differences" "rows" "[J") ∈ gw := List.mem_filter.mpr ⟨List.mem_append_right _ (List.mem_append_left _ (List.mem_of_getElem? (i := 89) rfl)), by decide +kernel⟩
theorem kw_99 : (Jvm.Cond.laysFinal "ShiftSignatures" "ShiftSignatures" "modulus" "LShiftSignatures$Modulus;") ∈ gw := List.mem_filter.mpr ⟨List.mem_append_right _ (List.mem_append_left _ (List.mem_of_getElem? (i := 99) rfl)), by decide +kernel⟩
theorem kw_101 : (Jvm.Cond.laysFinal "ShiftSignatures" "ShiftSignatures" "circuit" "LShiftSignatures$Circuit;") ∈ gw := List.mem_filter.mpr ⟨List.mem_append_right _ (List.mem_append_left _ (List.mem_of_getElem? (i := 101) rfl)), by decide +kernel⟩
theorem kw_103 : (Jvm.Cond.laysFinal "ShiftSignatures" "ShiftSignatures" "differences" "LShiftSignatures$Differences;") ∈ gw := List.mem_filter.mpr ⟨List.mem_append_right _ (List.mem_append_left _ (List.mem_of_getElem? (i := 103) rfl)), by decide +kernel⟩
theorem kw_105 : (Jvm.Cond.laysFinal "ShiftSignatures" "ShiftSignatures" "masks" "[J") ∈ gw := List.mem_filter.mpr ⟨List.mem_append_right _ (List.mem_append_left _ (List.mem_of_getElem? (i := 105) rfl)), by decide +kernel⟩
theorem kw_559 : (Jvm.Cond.laysFinal "ShiftSignaturesModel" "ShiftSignaturesModel" "masks" "[J") ∈ gw := List.mem_filter.mpr ⟨List.mem_append_right _ (List.mem_append_right _ (List.mem_append_right _ (List.mem_append_left _ (List.mem_of_getElem? (i := 79) rfl)))), by decide +kernel⟩
theorem kw_563 : (Jvm.Cond.laysFinal "ShiftSignaturesModel" "ShiftSignaturesModel" "kinds" "[I") ∈ gw := List.mem_filter.mpr ⟨List.mem_append_right _ (List.mem_append_right _ (List.mem_append_right _ (List.mem_append_left _ (List.mem_of_getElem? (i := 83) rfl)))), by decide +kernel⟩
theorem kw_565 : (Jvm.Cond.laysFinal "ShiftSignaturesModel" "ShiftSignaturesModel" "ones" "[I") ∈ gw := List.mem_filter.mpr ⟨List.mem_append_right _ (List.mem_append_right _ (List.mem_append_right _ (List.mem_append_left _ (List.mem_of_getElem? (i := 85) rfl)))), by decide +kernel⟩
theorem kw_567 : (Jvm.Cond.laysFinal "ShiftSignaturesModel" "ShiftSignaturesModel" "others" "[I") ∈ gw := List.mem_filter.mpr ⟨List.mem_append_right _ (List.mem_append_right _ (List.mem_append_right _ (List.mem_append_left _ (List.mem_of_getElem? (i := 87) rfl)))), by decide +kernel⟩
theorem kw_571 : (Jvm.Cond.laysFinal "ShiftSignaturesModel" "ShiftSignaturesModel" "outs" "[I") ∈ gw := List.mem_filter.mpr ⟨List.mem_append_right _ (List.mem_append_right _ (List.mem_append_right _ (List.mem_append_left _ (List.mem_of_getElem? (i := 91) rfl)))), by decide +kernel⟩
theorem kw_573 : (Jvm.Cond.laysFinal "ShiftSignaturesModel" "ShiftSignaturesModel" "lines" "[I") ∈ gw := List.mem_filter.mpr ⟨List.mem_append_right _ (List.mem_append_right _ (List.mem_append_right _ (List.mem_append_left _ (List.mem_of_getElem? (i := 93) rfl)))), by decide +kernel⟩
theorem kw_575 : (Jvm.Cond.laysFinal "ShiftSignaturesModel" "ShiftSignaturesModel" "patterns" "[I") ∈ gw := List.mem_filter.mpr ⟨List.mem_append_right _ (List.mem_append_right _ (List.mem_append_right _ (List.mem_append_left _ (List.mem_of_getElem? (i := 95) rfl)))), by decide +kernel⟩
theorem kw_577 : (Jvm.Cond.laysFinal "ShiftSignaturesModel" "ShiftSignaturesModel" "answers" "[I") ∈ gw := List.mem_filter.mpr ⟨List.mem_append_right _ (List.mem_append_right _ (List.mem_append_right _ (List.mem_append_left _ (List.mem_of_getElem? (i := 97) rfl)))), by decide +kernel⟩
theorem kw_78 : (Jvm.Cond.arrayClass Jvm.ClassFile.FieldType.int) ∈ gw := List.mem_filter.mpr ⟨List.mem_append_right _ (List.mem_append_left _ (List.mem_of_getElem? (i := 78) rfl)), by decide +kernel⟩
theorem kw_79 : (Jvm.Cond.arrayClass Jvm.ClassFile.FieldType.long) ∈ gw := List.mem_filter.mpr ⟨List.mem_append_right _ (List.mem_append_left _ (List.mem_of_getElem? (i := 79) rfl)), by decide +kernel⟩
theorem kw_279 : (Jvm.Cond.arrayClass Jvm.ClassFile.FieldType.byte) ∈ gw := List.mem_filter.mpr ⟨List.mem_append_right _ (List.mem_append_right _ (List.mem_append_left _ (List.mem_of_getElem? (i := 39) rfl))), by decide +kernel⟩
theorem kw_112 : (Jvm.Cond.selects "ShiftSignatures" ({ cls := "ShiftSignatures", name := "residue", desc := "(J)J" } : Jvm.MethodName) ({ cls := "ShiftSignatures", name := "residue", desc := "(J)J" } : Jvm.MethodName)) ∈ gw := List.mem_filter.mpr ⟨List.mem_append_right _ (List.mem_append_left _ (List.mem_of_getElem? (i := 112) rfl)), by decide +kernel⟩
theorem kw_133 : (Jvm.Cond.selects "ShiftSignatures" ({ cls := "ShiftSignatures", name := "irreducible", desc := "()Z" } : Jvm.MethodName) ({ cls := "ShiftSignatures", name := "irreducible", desc := "()Z" } : Jvm.MethodName)) ∈ gw := List.mem_filter.mpr ⟨List.mem_append_right _ (List.mem_append_left _ (List.mem_of_getElem? (i := 133) rfl)), by decide +kernel⟩
theorem kw_152 : (Jvm.Cond.selects "ShiftSignatures" ({ cls := "ShiftSignatures", name := "primitive", desc := "()Z" } : Jvm.MethodName) ({ cls := "ShiftSignatures", name := "primitive", desc := "()Z" } : Jvm.MethodName)) ∈ gw := List.mem_filter.mpr ⟨List.mem_append_right _ (List.mem_append_left _ (List.mem_of_getElem? (i := 152) rfl)), by decide +kernel⟩
theorem kw_174 : (Jvm.Cond.selects "ShiftSignatures" ({ cls := "ShiftSignatures", name := "order", desc := "()J" } : Jvm.MethodName) ({ cls := "ShiftSignatures", name := "order", desc := "()J" } : Jvm.MethodName)) ∈ gw := List.mem_filter.mpr ⟨List.mem_append_right _ (List.mem_append_left _ (List.mem_of_getElem? (i := 174) rfl)), by decide +kernel⟩
theorem kw_191 : (Jvm.Cond.selects "ShiftSignatures" ({ cls := "ShiftSignatures", name := "pattern", desc := "()I" } : Jvm.MethodName) ({ cls := "ShiftSignatures", name := "pattern", desc := "()I" } : Jvm.MethodName)) ∈ gw := List.mem_filter.mpr ⟨List.mem_append_right _ (List.mem_append_left _ (List.mem_of_getElem? (i := 191) rfl)), by decide +kernel⟩
theorem kw_209 : (Jvm.Cond.selects "ShiftSignatures" ({ cls := "ShiftSignatures", name := "polynomial", desc := "(J)I" } : Jvm.MethodName) ({ cls := "ShiftSignatures", name := "polynomial", desc := "(J)I" } : Jvm.MethodName)) ∈ gw := List.mem_filter.mpr ⟨List.mem_append_right _ (List.mem_append_left _ (List.mem_of_getElem? (i := 209) rfl)), by decide +kernel⟩
theorem kw_221 : (Jvm.Cond.selects "java/lang/IllegalArgumentException" ({ cls := "java/lang/Throwable", name := "fillInStackTrace", desc := "(I)Ljava/lang/Throwable;" } : Jvm.MethodName) ({ cls := "java/lang/Throwable", name := "fillInStackTrace", desc := "(I)Ljava/lang/Throwable;" } : Jvm.MethodName)) ∈ gw := List.mem_filter.mpr ⟨List.mem_append_right _ (List.mem_append_left _ (List.mem_of_getElem? (i := 221) rfl)), by decide +kernel⟩
theorem kw_222 : (Jvm.Cond.selects "java/lang/IllegalArgumentException" ({ cls := "java/lang/Throwable", name := "fillInStackTrace", desc := "()Ljava/lang/Throwable;" } : Jvm.MethodName) ({ cls := "java/lang/Throwable", name := "fillInStackTrace", desc := "()Ljava/lang/Throwable;" } : Jvm.MethodName)) ∈ gw := List.mem_filter.mpr ⟨List.mem_append_right _ (List.mem_append_left _ (List.mem_of_getElem? (i := 222) rfl)), by decide +kernel⟩
theorem kw_245 : (Jvm.Cond.selects "java/lang/IllegalStateException" ({ cls := "java/lang/Throwable", name := "fillInStackTrace", desc := "()Ljava/lang/Throwable;" } : Jvm.MethodName) ({ cls := "java/lang/Throwable", name := "fillInStackTrace", desc := "()Ljava/lang/Throwable;" } : Jvm.MethodName)) ∈ gw := List.mem_filter.mpr ⟨List.mem_append_right _ (List.mem_append_right _ (List.mem_append_left _ (List.mem_of_getElem? (i := 5) rfl))), by decide +kernel⟩
theorem kw_246 : (Jvm.Cond.selects "java/lang/IndexOutOfBoundsException" ({ cls := "java/lang/Throwable", name := "fillInStackTrace", desc := "()Ljava/lang/Throwable;" } : Jvm.MethodName) ({ cls := "java/lang/Throwable", name := "fillInStackTrace", desc := "()Ljava/lang/Throwable;" } : Jvm.MethodName)) ∈ gw := List.mem_filter.mpr ⟨List.mem_append_right _ (List.mem_append_right _ (List.mem_append_left _ (List.mem_of_getElem? (i := 6) rfl))), by decide +kernel⟩
theorem kw_295 : (Jvm.Cond.selects "ShiftSignatures" ({ cls := "ShiftSignatures", name := "times", desc := "(JJ)J" } : Jvm.MethodName) ({ cls := "ShiftSignatures", name := "times", desc := "(JJ)J" } : Jvm.MethodName)) ∈ gw := List.mem_filter.mpr ⟨List.mem_append_right _ (List.mem_append_right _ (List.mem_append_left _ (List.mem_of_getElem? (i := 55) rfl))), by decide +kernel⟩
theorem kw_312 : (Jvm.Cond.selects "ShiftSignatures" ({ cls := "ShiftSignatures", name := "power", desc := "(JJ)J" } : Jvm.MethodName) ({ cls := "ShiftSignatures", name := "power", desc := "(JJ)J" } : Jvm.MethodName)) ∈ gw := List.mem_filter.mpr ⟨List.mem_append_right _ (List.mem_append_right _ (List.mem_append_left _ (List.mem_of_getElem? (i := 72) rfl))), by decide +kernel⟩
theorem kw_325 : (Jvm.Cond.selects "ShiftSignatures" ({ cls := "ShiftSignatures", name := "load", desc := "(J)J" } : Jvm.MethodName) ({ cls := "ShiftSignatures", name := "load", desc := "(J)J" } : Jvm.MethodName)) ∈ gw := List.mem_filter.mpr ⟨List.mem_append_right _ (List.mem_append_right _ (List.mem_append_left _ (List.mem_of_getElem? (i := 85) rfl))), by decide +kernel⟩
theorem kw_332 : (Jvm.Cond.selects "ShiftSignatures" ({ cls := "ShiftSignatures", name := "steps", desc := "(J)J" } : Jvm.MethodName) ({ cls := "ShiftSignatures", name := "steps", desc := "(J)J" } : Jvm.MethodName)) ∈ gw := List.mem_filter.mpr ⟨List.mem_append_right _ (List.mem_append_right _ (List.mem_append_left _ (List.mem_of_getElem? (i := 92) rfl))), by decide +kernel⟩
theorem kw_340 : (Jvm.Cond.selects "ShiftSignatures" ({ cls := "ShiftSignatures", name := "channel", desc := "(J)I" } : Jvm.MethodName) ({ cls := "ShiftSignatures", name := "channel", desc := "(J)I" } : Jvm.MethodName)) ∈ gw := List.mem_filter.mpr ⟨List.mem_append_right _ (List.mem_append_right _ (List.mem_append_left _ (List.mem_of_getElem? (i := 100) rfl))), by decide +kernel⟩
theorem kw_345 : (Jvm.Cond.selects "java/lang/IllegalStateException" ({ cls := "java/lang/Throwable", name := "fillInStackTrace", desc := "(I)Ljava/lang/Throwable;" } : Jvm.MethodName) ({ cls := "java/lang/Throwable", name := "fillInStackTrace", desc := "(I)Ljava/lang/Throwable;" } : Jvm.MethodName)) ∈ gw := List.mem_filter.mpr ⟨List.mem_append_right _ (List.mem_append_right _ (List.mem_append_left _ (List.mem_of_getElem? (i := 105) rfl))), by decide +kernel⟩
theorem kw_364 : (Jvm.Cond.selects "ShiftSignatures" ({ cls := "ShiftSignatures", name := "gate", desc := "(III)I" } : Jvm.MethodName) ({ cls := "ShiftSignatures", name := "gate", desc := "(III)I" } : Jvm.MethodName)) ∈ gw := List.mem_filter.mpr ⟨List.mem_append_right _ (List.mem_append_right _ (List.mem_append_left _ (List.mem_of_getElem? (i := 124) rfl))), by decide +kernel⟩
theorem kw_378 : (Jvm.Cond.selects "java/lang/IndexOutOfBoundsException" ({ cls := "java/lang/Throwable", name := "fillInStackTrace", desc := "(I)Ljava/lang/Throwable;" } : Jvm.MethodName) ({ cls := "java/lang/Throwable", name := "fillInStackTrace", desc := "(I)Ljava/lang/Throwable;" } : Jvm.MethodName)) ∈ gw := List.mem_filter.mpr ⟨List.mem_append_right _ (List.mem_append_right _ (List.mem_append_left _ (List.mem_of_getElem? (i := 138) rfl))), by decide +kernel⟩
theorem kw_402 : (Jvm.Cond.selects "ShiftSignatures" ({ cls := "ShiftSignatures", name := "output", desc := "(I)I" } : Jvm.MethodName) ({ cls := "ShiftSignatures", name := "output", desc := "(I)I" } : Jvm.MethodName)) ∈ gw := List.mem_filter.mpr ⟨List.mem_append_right _ (List.mem_append_right _ (List.mem_append_left _ (List.mem_of_getElem? (i := 162) rfl))), by decide +kernel⟩
theorem kw_414 : (Jvm.Cond.selects "ShiftSignatures" ({ cls := "ShiftSignatures", name := "answer", desc := "(II)I" } : Jvm.MethodName) ({ cls := "ShiftSignatures", name := "answer", desc := "(II)I" } : Jvm.MethodName)) ∈ gw := List.mem_filter.mpr ⟨List.mem_append_right _ (List.mem_append_right _ (List.mem_append_left _ (List.mem_of_getElem? (i := 174) rfl))), by decide +kernel⟩
theorem kw_457 : (Jvm.Cond.selects "ShiftSignatures" ({ cls := "ShiftSignatures", name := "session", desc := "(II)J" } : Jvm.MethodName) ({ cls := "ShiftSignatures", name := "session", desc := "(II)J" } : Jvm.MethodName)) ∈ gw := List.mem_filter.mpr ⟨List.mem_append_right _ (List.mem_append_right _ (List.mem_append_left _ (List.mem_of_getElem? (i := 217) rfl))), by decide +kernel⟩
theorem kw_470 : (Jvm.Cond.selects "ShiftSignatures" ({ cls := "ShiftSignatures", name := "faults", desc := "(II)I" } : Jvm.MethodName) ({ cls := "ShiftSignatures", name := "faults", desc := "(II)I" } : Jvm.MethodName)) ∈ gw := List.mem_filter.mpr ⟨List.mem_append_right _ (List.mem_append_right _ (List.mem_append_left _ (List.mem_of_getElem? (i := 230) rfl))), by decide +kernel⟩
theorem kw_519 : (Jvm.Cond.selects "ShiftSignatures" ({ cls := "ShiftSignatures", name := "first", desc := "(II)I" } : Jvm.MethodName) ({ cls := "ShiftSignatures", name := "first", desc := "(II)I" } : Jvm.MethodName)) ∈ gw := List.mem_filter.mpr ⟨List.mem_append_right _ (List.mem_append_right _ (List.mem_append_right _ (List.mem_append_left _ (List.mem_of_getElem? (i := 39) rfl)))), by decide +kernel⟩
theorem kw_582 : (Jvm.Cond.selects "ShiftSignaturesModel" ({ cls := "ShiftSignaturesModel", name := "thrown", desc := "()I" } : Jvm.MethodName) ({ cls := "ShiftSignaturesModel", name := "thrown", desc := "()I" } : Jvm.MethodName)) ∈ gw := List.mem_filter.mpr ⟨List.mem_append_right _ (List.mem_append_right _ (List.mem_append_right _ (List.mem_append_left _ (List.mem_of_getElem? (i := 102) rfl)))), by decide +kernel⟩
theorem kw_586 : (Jvm.Cond.selects "ShiftSignaturesModel" ({ cls := "ShiftSignaturesModel", name := "polynomial", desc := "(J)I" } : Jvm.MethodName) ({ cls := "ShiftSignaturesModel", name := "polynomial", desc := "(J)I" } : Jvm.MethodName)) ∈ gw := List.mem_filter.mpr ⟨List.mem_append_right _ (List.mem_append_right _ (List.mem_append_right _ (List.mem_append_left _ (List.mem_of_getElem? (i := 106) rfl)))), by decide +kernel⟩
theorem kw_598 : (Jvm.Cond.selects "ShiftSignaturesModel" ({ cls := "ShiftSignaturesModel", name := "times", desc := "(JJ)J" } : Jvm.MethodName) ({ cls := "ShiftSignaturesModel", name := "times", desc := "(JJ)J" } : Jvm.MethodName)) ∈ gw := List.mem_filter.mpr ⟨List.mem_append_right _ (List.mem_append_right _ (List.mem_append_right _ (List.mem_append_left _ (List.mem_of_getElem? (i := 118) rfl)))), by decide +kernel⟩
theorem kw_615 : (Jvm.Cond.selects "ShiftSignaturesModel" ({ cls := "ShiftSignaturesModel", name := "power", desc := "(JJ)J" } : Jvm.MethodName) ({ cls := "ShiftSignaturesModel", name := "power", desc := "(JJ)J" } : Jvm.MethodName)) ∈ gw := List.mem_filter.mpr ⟨List.mem_append_right _ (List.mem_append_right _ (List.mem_append_right _ (List.mem_append_left _ (List.mem_of_getElem? (i := 135) rfl)))), by decide +kernel⟩
theorem kw_630 : (Jvm.Cond.selects "ShiftSignaturesModel" ({ cls := "ShiftSignaturesModel", name := "residue", desc := "(J)J" } : Jvm.MethodName) ({ cls := "ShiftSignaturesModel", name := "residue", desc := "(J)J" } : Jvm.MethodName)) ∈ gw := List.mem_filter.mpr ⟨List.mem_append_right _ (List.mem_append_right _ (List.mem_append_right _ (List.mem_append_left _ (List.mem_of_getElem? (i := 150) rfl)))), by decide +kernel⟩
theorem kw_634 : (Jvm.Cond.selects "ShiftSignaturesModel" ({ cls := "ShiftSignaturesModel", name := "irreducible", desc := "()Z" } : Jvm.MethodName) ({ cls := "ShiftSignaturesModel", name := "irreducible", desc := "()Z" } : Jvm.MethodName)) ∈ gw := List.mem_filter.mpr ⟨List.mem_append_right _ (List.mem_append_right _ (List.mem_append_right _ (List.mem_append_left _ (List.mem_of_getElem? (i := 154) rfl)))), by decide +kernel⟩
theorem kw_642 : (Jvm.Cond.selects "ShiftSignaturesModel" ({ cls := "ShiftSignaturesModel", name := "primitive", desc := "()Z" } : Jvm.MethodName) ({ cls := "ShiftSignaturesModel", name := "primitive", desc := "()Z" } : Jvm.MethodName)) ∈ gw := List.mem_filter.mpr ⟨List.mem_append_right _ (List.mem_append_right _ (List.mem_append_right _ (List.mem_append_left _ (List.mem_of_getElem? (i := 162) rfl)))), by decide +kernel⟩
theorem kw_646 : (Jvm.Cond.selects "ShiftSignaturesModel" ({ cls := "ShiftSignaturesModel", name := "order", desc := "()J" } : Jvm.MethodName) ({ cls := "ShiftSignaturesModel", name := "order", desc := "()J" } : Jvm.MethodName)) ∈ gw := List.mem_filter.mpr ⟨List.mem_append_right _ (List.mem_append_right _ (List.mem_append_right _ (List.mem_append_left _ (List.mem_of_getElem? (i := 166) rfl)))), by decide +kernel⟩
theorem kw_651 : (Jvm.Cond.selects "ShiftSignaturesModel" ({ cls := "ShiftSignaturesModel", name := "load", desc := "(J)J" } : Jvm.MethodName) ({ cls := "ShiftSignaturesModel", name := "load", desc := "(J)J" } : Jvm.MethodName)) ∈ gw := List.mem_filter.mpr ⟨List.mem_append_right _ (List.mem_append_right _ (List.mem_append_right _ (List.mem_append_left _ (List.mem_of_getElem? (i := 171) rfl)))), by decide +kernel⟩
theorem kw_655 : (Jvm.Cond.selects "ShiftSignaturesModel" ({ cls := "ShiftSignaturesModel", name := "steps", desc := "(J)J" } : Jvm.MethodName) ({ cls := "ShiftSignaturesModel", name := "steps", desc := "(J)J" } : Jvm.MethodName)) ∈ gw := List.mem_filter.mpr ⟨List.mem_append_right _ (List.mem_append_right _ (List.mem_append_right _ (List.mem_append_left _ (List.mem_of_getElem? (i := 175) rfl)))), by decide +kernel⟩
theorem kw_659 : (Jvm.Cond.selects "ShiftSignaturesModel" ({ cls := "ShiftSignaturesModel", name := "channel", desc := "(J)I" } : Jvm.MethodName) ({ cls := "ShiftSignaturesModel", name := "channel", desc := "(J)I" } : Jvm.MethodName)) ∈ gw := List.mem_filter.mpr ⟨List.mem_append_right _ (List.mem_append_right _ (List.mem_append_right _ (List.mem_append_left _ (List.mem_of_getElem? (i := 179) rfl)))), by decide +kernel⟩
theorem kw_663 : (Jvm.Cond.selects "ShiftSignaturesModel" ({ cls := "ShiftSignaturesModel", name := "pattern", desc := "()I" } : Jvm.MethodName) ({ cls := "ShiftSignaturesModel", name := "pattern", desc := "()I" } : Jvm.MethodName)) ∈ gw := List.mem_filter.mpr ⟨List.mem_append_right _ (List.mem_append_right _ (List.mem_append_right _ (List.mem_append_left _ (List.mem_of_getElem? (i := 183) rfl)))), by decide +kernel⟩
theorem kw_671 : (Jvm.Cond.selects "ShiftSignaturesModel" ({ cls := "ShiftSignaturesModel", name := "gate", desc := "(III)I" } : Jvm.MethodName) ({ cls := "ShiftSignaturesModel", name := "gate", desc := "(III)I" } : Jvm.MethodName)) ∈ gw := List.mem_filter.mpr ⟨List.mem_append_right _ (List.mem_append_right _ (List.mem_append_right _ (List.mem_append_left _ (List.mem_of_getElem? (i := 191) rfl)))), by decide +kernel⟩
theorem kw_679 : (Jvm.Cond.selects "ShiftSignaturesModel" ({ cls := "ShiftSignaturesModel", name := "output", desc := "(I)I" } : Jvm.MethodName) ({ cls := "ShiftSignaturesModel", name := "output", desc := "(I)I" } : Jvm.MethodName)) ∈ gw := List.mem_filter.mpr ⟨List.mem_append_right _ (List.mem_append_right _ (List.mem_append_right _ (List.mem_append_left _ (List.mem_of_getElem? (i := 199) rfl)))), by decide +kernel⟩
theorem kw_683 : (Jvm.Cond.selects "ShiftSignaturesModel" ({ cls := "ShiftSignaturesModel", name := "answer", desc := "(II)I" } : Jvm.MethodName) ({ cls := "ShiftSignaturesModel", name := "answer", desc := "(II)I" } : Jvm.MethodName)) ∈ gw := List.mem_filter.mpr ⟨List.mem_append_right _ (List.mem_append_right _ (List.mem_append_right _ (List.mem_append_left _ (List.mem_of_getElem? (i := 203) rfl)))), by decide +kernel⟩
theorem kw_698 : (Jvm.Cond.selects "ShiftSignaturesModel" ({ cls := "ShiftSignaturesModel", name := "session", desc := "(II)J" } : Jvm.MethodName) ({ cls := "ShiftSignaturesModel", name := "session", desc := "(II)J" } : Jvm.MethodName)) ∈ gw := List.mem_filter.mpr ⟨List.mem_append_right _ (List.mem_append_right _ (List.mem_append_right _ (List.mem_append_left _ (List.mem_of_getElem? (i := 218) rfl)))), by decide +kernel⟩
theorem kw_713 : (Jvm.Cond.selects "ShiftSignaturesModel" ({ cls := "ShiftSignaturesModel", name := "faults", desc := "(II)I" } : Jvm.MethodName) ({ cls := "ShiftSignaturesModel", name := "faults", desc := "(II)I" } : Jvm.MethodName)) ∈ gw := List.mem_filter.mpr ⟨List.mem_append_right _ (List.mem_append_right _ (List.mem_append_right _ (List.mem_append_left _ (List.mem_of_getElem? (i := 233) rfl)))), by decide +kernel⟩
theorem kw_721 : (Jvm.Cond.selects "ShiftSignaturesModel" ({ cls := "ShiftSignaturesModel", name := "first", desc := "(II)I" } : Jvm.MethodName) ({ cls := "ShiftSignaturesModel", name := "first", desc := "(II)I" } : Jvm.MethodName)) ∈ gw := List.mem_filter.mpr ⟨List.mem_append_right _ (List.mem_append_right _ (List.mem_append_right _ (List.mem_append_right _ (List.mem_of_getElem? (i := 1) rfl)))), by decide +kernel⟩
theorem kw_119 : (Jvm.Cond.static ({ cls := "ShiftSignatures$Modulus", name := "remainder", desc := "(JJ)J" } : Jvm.MethodName)) ∈ gw := List.mem_filter.mpr ⟨List.mem_append_right _ (List.mem_append_left _ (List.mem_of_getElem? (i := 119) rfl)), by decide +kernel⟩
theorem kw_122 : (Jvm.Cond.static ({ cls := "ShiftSignatures$Modulus", name := "degreeOf", desc := "(J)I" } : Jvm.MethodName)) ∈ gw := List.mem_filter.mpr ⟨List.mem_append_right _ (List.mem_append_left _ (List.mem_of_getElem? (i := 122) rfl)), by decide +kernel⟩
theorem kw_125 : (Jvm.Cond.static ({ cls := "java/lang/Long", name := "numberOfLeadingZeros", desc := "(J)I" } : Jvm.MethodName)) ∈ gw := List.mem_filter.mpr ⟨List.mem_append_right _ (List.mem_append_left _ (List.mem_of_getElem? (i := 125) rfl)), by decide +kernel⟩
theorem kw_128 : (Jvm.Cond.static ({ cls := "java/lang/Integer", name := "numberOfLeadingZeros", desc := "(I)I" } : Jvm.MethodName)) ∈ gw := List.mem_filter.mpr ⟨List.mem_append_right _ (List.mem_append_left _ (List.mem_of_getElem? (i := 128) rfl)), by decide +kernel⟩
theorem kw_148 : (Jvm.Cond.static ({ cls := "ShiftSignatures$Modulus", name := "commonDivisor", desc := "(JJ)J" } : Jvm.MethodName)) ∈ gw := List.mem_filter.mpr ⟨List.mem_append_right _ (List.mem_append_left _ (List.mem_of_getElem? (i := 148) rfl)), by decide +kernel⟩
theorem kw_183 : (Jvm.Cond.static ({ cls := "ShiftSignatures$Modulus", name := "without", desc := "(JJ)J" } : Jvm.MethodName)) ∈ gw := List.mem_filter.mpr ⟨List.mem_append_right _ (List.mem_append_left _ (List.mem_of_getElem? (i := 183) rfl)), by decide +kernel⟩
theorem kw_186 : (Jvm.Cond.static ({ cls := "ShiftSignatures$Modulus", name := "quotient", desc := "(JJ)J" } : Jvm.MethodName)) ∈ gw := List.mem_filter.mpr ⟨List.mem_append_right _ (List.mem_append_left _ (List.mem_of_getElem? (i := 186) rfl)), by decide +kernel⟩
theorem kw_198 : (Jvm.Cond.static ({ cls := "java/lang/Long", name := "bitCount", desc := "(J)I" } : Jvm.MethodName)) ∈ gw := List.mem_filter.mpr ⟨List.mem_append_right _ (List.mem_append_left _ (List.mem_of_getElem? (i := 198) rfl)), by decide +kernel⟩
theorem kw_204 : (Jvm.Cond.static ({ cls := "ShiftSignaturesLaw", name := "polynomial", desc := "(LShiftSignatures;J[J)I" } : Jvm.MethodName)) ∈ gw := List.mem_filter.mpr ⟨List.mem_append_right _ (List.mem_append_left _ (List.mem_of_getElem? (i := 204) rfl)), by decide +kernel⟩
theorem kw_291 : (Jvm.Cond.static ({ cls := "ShiftSignaturesLaw", name := "times", desc := "(LShiftSignatures;JJ[J)I" } : Jvm.MethodName)) ∈ gw := List.mem_filter.mpr ⟨List.mem_append_right _ (List.mem_append_right _ (List.mem_append_left _ (List.mem_of_getElem? (i := 51) rfl))), by decide +kernel⟩
theorem kw_308 : (Jvm.Cond.static ({ cls := "ShiftSignaturesLaw", name := "power", desc := "(LShiftSignatures;JJ[J)I" } : Jvm.MethodName)) ∈ gw := List.mem_filter.mpr ⟨List.mem_append_right _ (List.mem_append_right _ (List.mem_append_left _ (List.mem_of_getElem? (i := 68) rfl))), by decide +kernel⟩
theorem kw_321 : (Jvm.Cond.static ({ cls := "ShiftSignaturesLaw", name := "load", desc := "(LShiftSignatures;J[J)I" } : Jvm.MethodName)) ∈ gw := List.mem_filter.mpr ⟨List.mem_append_right _ (List.mem_append_right _ (List.mem_append_left _ (List.mem_of_getElem? (i := 81) rfl))), by decide +kernel⟩
theorem kw_328 : (Jvm.Cond.static ({ cls := "ShiftSignaturesLaw", name := "steps", desc := "(LShiftSignatures;J[J)I" } : Jvm.MethodName)) ∈ gw := List.mem_filter.mpr ⟨List.mem_append_right _ (List.mem_append_right _ (List.mem_append_left _ (List.mem_of_getElem? (i := 88) rfl))), by decide +kernel⟩
theorem kw_335 : (Jvm.Cond.static ({ cls := "ShiftSignaturesLaw", name := "channel", desc := "(LShiftSignatures;J[J)I" } : Jvm.MethodName)) ∈ gw := List.mem_filter.mpr ⟨List.mem_append_right _ (List.mem_append_right _ (List.mem_append_left _ (List.mem_of_getElem? (i := 95) rfl))), by decide +kernel⟩
theorem kw_359 : (Jvm.Cond.static ({ cls := "ShiftSignaturesLaw", name := "gate", desc := "(LShiftSignatures;III[J)I" } : Jvm.MethodName)) ∈ gw := List.mem_filter.mpr ⟨List.mem_append_right _ (List.mem_append_right _ (List.mem_append_left _ (List.mem_of_getElem? (i := 119) rfl))), by decide +kernel⟩
theorem kw_398 : (Jvm.Cond.static ({ cls := "ShiftSignaturesLaw", name := "output", desc := "(LShiftSignatures;I[J)I" } : Jvm.MethodName)) ∈ gw := List.mem_filter.mpr ⟨List.mem_append_right _ (List.mem_append_right _ (List.mem_append_left _ (List.mem_of_getElem? (i := 158) rfl))), by decide +kernel⟩
theorem kw_410 : (Jvm.Cond.static ({ cls := "ShiftSignaturesLaw", name := "answer", desc := "(LShiftSignatures;II[J)I" } : Jvm.MethodName)) ∈ gw := List.mem_filter.mpr ⟨List.mem_append_right _ (List.mem_append_right _ (List.mem_append_left _ (List.mem_of_getElem? (i := 170) rfl))), by decide +kernel⟩
theorem kw_438 : (Jvm.Cond.static ({ cls := "ShiftSignatures$Circuit", name := "spread", desc := "(I)J" } : Jvm.MethodName)) ∈ gw := List.mem_filter.mpr ⟨List.mem_append_right _ (List.mem_append_right _ (List.mem_append_left _ (List.mem_of_getElem? (i := 198) rfl))), by decide +kernel⟩
theorem kw_446 : (Jvm.Cond.static ({ cls := "ShiftSignatures$Circuit", name := "withStuck", desc := "(JI)J" } : Jvm.MethodName)) ∈ gw := List.mem_filter.mpr ⟨List.mem_append_right _ (List.mem_append_right _ (List.mem_append_left _ (List.mem_of_getElem? (i := 206) rfl))), by decide +kernel⟩
theorem kw_453 : (Jvm.Cond.static ({ cls := "ShiftSignaturesLaw", name := "session", desc := "(LShiftSignatures;II[J)I" } : Jvm.MethodName)) ∈ gw := List.mem_filter.mpr ⟨List.mem_append_right _ (List.mem_append_right _ (List.mem_append_left _ (List.mem_of_getElem? (i := 213) rfl))), by decide +kernel⟩
theorem kw_466 : (Jvm.Cond.static ({ cls := "ShiftSignaturesLaw", name := "faults", desc := "(LShiftSignatures;II[J)I" } : Jvm.MethodName)) ∈ gw := List.mem_filter.mpr ⟨List.mem_append_right _ (List.mem_append_right _ (List.mem_append_left _ (List.mem_of_getElem? (i := 226) rfl))), by decide +kernel⟩
theorem kw_506 : (Jvm.Cond.static ({ cls := "ShiftSignatures", name := "lowestBit", desc := "(J)I" } : Jvm.MethodName)) ∈ gw := List.mem_filter.mpr ⟨List.mem_append_right _ (List.mem_append_right _ (List.mem_append_right _ (List.mem_append_left _ (List.mem_of_getElem? (i := 26) rfl)))), by decide +kernel⟩
theorem kw_509 : (Jvm.Cond.static ({ cls := "java/lang/Long", name := "numberOfTrailingZeros", desc := "(J)I" } : Jvm.MethodName)) ∈ gw := List.mem_filter.mpr ⟨List.mem_append_right _ (List.mem_append_right _ (List.mem_append_right _ (List.mem_append_left _ (List.mem_of_getElem? (i := 29) rfl)))), by decide +kernel⟩
theorem kw_512 : (Jvm.Cond.static ({ cls := "java/lang/Integer", name := "numberOfTrailingZeros", desc := "(I)I" } : Jvm.MethodName)) ∈ gw := List.mem_filter.mpr ⟨List.mem_append_right _ (List.mem_append_right _ (List.mem_append_right _ (List.mem_append_left _ (List.mem_of_getElem? (i := 32) rfl)))), by decide +kernel⟩
theorem kw_515 : (Jvm.Cond.static ({ cls := "ShiftSignaturesLaw", name := "first", desc := "(LShiftSignatures;II[J)I" } : Jvm.MethodName)) ∈ gw := List.mem_filter.mpr ⟨List.mem_append_right _ (List.mem_append_right _ (List.mem_append_right _ (List.mem_append_left _ (List.mem_of_getElem? (i := 35) rfl)))), by decide +kernel⟩
theorem kw_626 : (Jvm.Cond.static ({ cls := "ShiftSignaturesModel", name := "left", desc := "(JJI)J" } : Jvm.MethodName)) ∈ gw := List.mem_filter.mpr ⟨List.mem_append_right _ (List.mem_append_right _ (List.mem_append_right _ (List.mem_append_left _ (List.mem_of_getElem? (i := 146) rfl)))), by decide +kernel⟩
theorem kw_694 : (Jvm.Cond.static ({ cls := "ShiftSignaturesModel", name := "worth", desc := "(III)I" } : Jvm.MethodName)) ∈ gw := List.mem_filter.mpr ⟨List.mem_append_right _ (List.mem_append_right _ (List.mem_append_right _ (List.mem_append_left _ (List.mem_of_getElem? (i := 214) rfl)))), by decide +kernel⟩
theorem kw_701 : (Jvm.Cond.static ({ cls := "ShiftSignaturesModel", name := "isCount", desc := "(I)Z" } : Jvm.MethodName)) ∈ gw := List.mem_filter.mpr ⟨List.mem_append_right _ (List.mem_append_right _ (List.mem_append_right _ (List.mem_append_left _ (List.mem_of_getElem? (i := 221) rfl)))), by decide +kernel⟩
theorem kw_30 : (Jvm.Cond.fieldLinkNest "ShiftSignatures$Differences" (45 : Nat) "ShiftSignatures$Modulus" "p" "J" "ShiftSignatures") ∈ nw_l := List.mem_of_getElem? (i := 0) rfl
theorem kw_32 : (Jvm.Cond.fieldLinkNest "ShiftSignatures$Differences" (40 : Nat) "ShiftSignatures$Modulus" "degree" "I" "ShiftSignatures") ∈ nw_l := List.mem_of_getElem? (i := 1) rfl
theorem kw_33 : (Jvm.Cond.fieldLinkNest "ShiftSignatures" (81 : Nat) "ShiftSignatures$Modulus" "degree" "I" "ShiftSignatures") ∈ nw_l := List.mem_of_getElem? (i := 2) rfl
theorem kw_35 : (Jvm.Cond.fieldLinkNest "ShiftSignatures" (94 : Nat) "ShiftSignatures$Modulus" "x" "J" "ShiftSignatures") ∈ nw_l := List.mem_of_getElem? (i := 3) rfl
theorem kw_55 : (Jvm.Cond.fieldLinkNest "ShiftSignatures" (97 : Nat) "ShiftSignatures$Circuit" "channelCount" "I" "ShiftSignatures") ∈ nw_l := List.mem_of_getElem? (i := 4) rfl
theorem kw_57 : (Jvm.Cond.fieldLinkNest "ShiftSignatures" (113 : Nat) "ShiftSignatures$Circuit" "gateCount" "I" "ShiftSignatures") ∈ nw_l := List.mem_of_getElem? (i := 5) rfl
theorem kw_59 : (Jvm.Cond.fieldLinkNest "ShiftSignatures$Differences" (29 : Nat) "ShiftSignatures$Circuit" "outputCount" "I" "ShiftSignatures") ∈ nw_l := List.mem_of_getElem? (i := 6) rfl
theorem kw_60 : (Jvm.Cond.fieldLinkNest "ShiftSignatures" (122 : Nat) "ShiftSignatures$Circuit" "outputCount" "I" "ShiftSignatures") ∈ nw_l := List.mem_of_getElem? (i := 7) rfl
theorem kw_88 : (Jvm.Cond.fieldLinkNest "ShiftSignatures" (156 : Nat) "ShiftSignatures$Differences" "seen" "J" "ShiftSignatures") ∈ nw_l := List.mem_of_getElem? (i := 8) rfl
theorem kw_24 : (Jvm.Cond.methodLinkNest "ShiftSignatures" (11 : Nat) ({ cls := "ShiftSignatures$Modulus", name := "<init>", desc := "()V" } : Jvm.MethodName) "ShiftSignatures") ∈ nw_l := List.mem_of_getElem? (i := 9) rfl
theorem kw_45 : (Jvm.Cond.methodLinkNest "ShiftSignatures" (18 : Nat) ({ cls := "ShiftSignatures$Circuit", name := "<init>", desc := "()V" } : Jvm.MethodName) "ShiftSignatures") ∈ nw_l := List.mem_of_getElem? (i := 10) rfl
theorem kw_82 : (Jvm.Cond.methodLinkNest "ShiftSignatures" (25 : Nat) ({ cls := "ShiftSignatures$Differences", name := "<init>", desc := "()V" } : Jvm.MethodName) "ShiftSignatures") ∈ nw_l := List.mem_of_getElem? (i := 11) rfl
theorem kw_114 : (Jvm.Cond.methodLinkNest "ShiftSignatures" (70 : Nat) ({ cls := "ShiftSignatures$Modulus", name := "reduced", desc := "(J)J" } : Jvm.MethodName) "ShiftSignatures") ∈ nw_l := List.mem_of_getElem? (i := 12) rfl
theorem kw_135 : (Jvm.Cond.methodLinkNest "ShiftSignatures" (74 : Nat) ({ cls := "ShiftSignatures$Modulus", name := "isIrreducible", desc := "()Z" } : Jvm.MethodName) "ShiftSignatures") ∈ nw_l := List.mem_of_getElem? (i := 13) rfl
theorem kw_154 : (Jvm.Cond.methodLinkNest "ShiftSignatures" (78 : Nat) ({ cls := "ShiftSignatures$Modulus", name := "isPrimitive", desc := "()Z" } : Jvm.MethodName) "ShiftSignatures") ∈ nw_l := List.mem_of_getElem? (i := 14) rfl
theorem kw_177 : (Jvm.Cond.methodLinkNest "ShiftSignatures" (87 : Nat) ({ cls := "ShiftSignatures$Modulus", name := "multipleOfOrder", desc := "()J" } : Jvm.MethodName) "ShiftSignatures") ∈ nw_l := List.mem_of_getElem? (i := 15) rfl
theorem kw_188 : (Jvm.Cond.methodLinkNest "ShiftSignatures" (91 : Nat) ({ cls := "ShiftSignatures$Modulus", name := "orderWithin", desc := "(J)J" } : Jvm.MethodName) "ShiftSignatures") ∈ nw_l := List.mem_of_getElem? (i := 16) rfl
theorem kw_211 : (Jvm.Cond.methodLinkNest "ShiftSignatures" (38 : Nat) ({ cls := "ShiftSignatures$Modulus", name := "degreeOf", desc := "(J)I" } : Jvm.MethodName) "ShiftSignatures") ∈ nw_l := List.mem_of_getElem? (i := 17) rfl
theorem kw_280 : (Jvm.Cond.methodLinkNest "ShiftSignatures" (49 : Nat) ({ cls := "ShiftSignatures$Modulus", name := "become", desc := "(J)V" } : Jvm.MethodName) "ShiftSignatures") ∈ nw_l := List.mem_of_getElem? (i := 18) rfl
theorem kw_286 : (Jvm.Cond.methodLinkNest "ShiftSignatures" (53 : Nat) ({ cls := "ShiftSignatures$Circuit", name := "restart", desc := "(I)V" } : Jvm.MethodName) "ShiftSignatures") ∈ nw_l := List.mem_of_getElem? (i := 19) rfl
theorem kw_301 : (Jvm.Cond.methodLinkNest "ShiftSignatures" (173 : Nat) ({ cls := "ShiftSignatures$Modulus", name := "hasResidue", desc := "(J)Z" } : Jvm.MethodName) "ShiftSignatures") ∈ nw_l := List.mem_of_getElem? (i := 20) rfl
theorem kw_306 : (Jvm.Cond.methodLinkNest "ShiftSignatures" (60 : Nat) ({ cls := "ShiftSignatures$Modulus", name := "product", desc := "(JJ)J" } : Jvm.MethodName) "ShiftSignatures") ∈ nw_l := List.mem_of_getElem? (i := 21) rfl
theorem kw_319 : (Jvm.Cond.methodLinkNest "ShiftSignatures" (67 : Nat) ({ cls := "ShiftSignatures$Modulus", name := "raised", desc := "(JJ)J" } : Jvm.MethodName) "ShiftSignatures") ∈ nw_l := List.mem_of_getElem? (i := 22) rfl
theorem kw_371 : (Jvm.Cond.methodLinkNest "ShiftSignatures" (183 : Nat) ({ cls := "ShiftSignatures$Circuit", name := "countLines", desc := "()I" } : Jvm.MethodName) "ShiftSignatures") ∈ nw_l := List.mem_of_getElem? (i := 23) rfl
theorem kw_392 : (Jvm.Cond.methodLinkNest "ShiftSignatures" (118 : Nat) ({ cls := "ShiftSignatures$Circuit", name := "addGate", desc := "(III)I" } : Jvm.MethodName) "ShiftSignatures") ∈ nw_l := List.mem_of_getElem? (i := 24) rfl
theorem kw_405 : (Jvm.Cond.methodLinkNest "ShiftSignatures" (127 : Nat) ({ cls := "ShiftSignatures$Circuit", name := "addOutput", desc := "(I)I" } : Jvm.MethodName) "ShiftSignatures") ∈ nw_l := List.mem_of_getElem? (i := 25) rfl
theorem kw_424 : (Jvm.Cond.methodLinkNest "ShiftSignatures" (149 : Nat) ({ cls := "ShiftSignatures$Circuit", name := "countFaults", desc := "()I" } : Jvm.MethodName) "ShiftSignatures") ∈ nw_l := List.mem_of_getElem? (i := 26) rfl
theorem kw_429 : (Jvm.Cond.methodLinkNest "ShiftSignatures" (134 : Nat) ({ cls := "ShiftSignatures$Circuit", name := "answerTo", desc := "(II)I" } : Jvm.MethodName) "ShiftSignatures") ∈ nw_l := List.mem_of_getElem? (i := 27) rfl
theorem kw_464 : (Jvm.Cond.methodLinkNest "ShiftSignatures" (141 : Nat) ({ cls := "ShiftSignatures$Modulus", name := "stepped", desc := "(J)J" } : Jvm.MethodName) "ShiftSignatures") ∈ nw_l := List.mem_of_getElem? (i := 28) rfl
theorem kw_477 : (Jvm.Cond.methodLinkNest "ShiftSignatures" (190 : Nat) ({ cls := "ShiftSignatures$Differences", name := "clear", desc := "()V" } : Jvm.MethodName) "ShiftSignatures") ∈ nw_l := List.mem_of_getElem? (i := 29) rfl
theorem kw_481 : (Jvm.Cond.methodLinkNest "ShiftSignatures" (193 : Nat) ({ cls := "ShiftSignatures$Differences", name := "timesX", desc := "()V" } : Jvm.MethodName) "ShiftSignatures") ∈ nw_l := List.mem_of_getElem? (i := 30) rfl
theorem kw_485 : (Jvm.Cond.methodLinkNest "ShiftSignatures" (196 : Nat) ({ cls := "ShiftSignatures$Differences", name := "addAnswers", desc := "(LShiftSignatures$Circuit;I)V" } : Jvm.MethodName) "ShiftSignatures") ∈ nw_l := List.mem_of_getElem? (i := 31) rfl
theorem kw_489 : (Jvm.Cond.methodLinkNest "ShiftSignatures$Differences" (19 : Nat) ({ cls := "ShiftSignatures$Circuit", name := "answerTo", desc := "(II)I" } : Jvm.MethodName) "ShiftSignatures") ∈ nw_l := List.mem_of_getElem? (i := 32) rfl
theorem kw_490 : (Jvm.Cond.methodLinkNest "ShiftSignatures$Differences" (25 : Nat) ({ cls := "ShiftSignatures$Circuit", name := "settle", desc := "(IZ)V" } : Jvm.MethodName) "ShiftSignatures") ∈ nw_l := List.mem_of_getElem? (i := 33) rfl
theorem kw_491 : (Jvm.Cond.methodLinkNest "ShiftSignatures$Differences" (33 : Nat) ({ cls := "ShiftSignatures$Circuit", name := "valuesOfOutput", desc := "(I)J" } : Jvm.MethodName) "ShiftSignatures") ∈ nw_l := List.mem_of_getElem? (i := 34) rfl
theorem kw_492 : (Jvm.Cond.methodLinkNest "ShiftSignatures$Differences" (37 : Nat) ({ cls := "ShiftSignatures$Circuit", name := "spread", desc := "(I)J" } : Jvm.MethodName) "ShiftSignatures") ∈ nw_l := List.mem_of_getElem? (i := 35) rfl
theorem kw_493 : (Jvm.Cond.methodLinkNest "ShiftSignatures" (200 : Nat) ({ cls := "ShiftSignatures$Differences", name := "reduce", desc := "(LShiftSignatures$Modulus;)V" } : Jvm.MethodName) "ShiftSignatures") ∈ nw_l := List.mem_of_getElem? (i := 36) rfl
theorem kw_501 : (Jvm.Cond.methodLinkNest "ShiftSignatures" (164 : Nat) ({ cls := "ShiftSignatures$Differences", name := "found", desc := "()J" } : Jvm.MethodName) "ShiftSignatures") ∈ nw_l := List.mem_of_getElem? (i := 37) rfl
theorem in_S : ∀ w ∈ u_ws R_S F_S 5, w ∈ gw := by
  intro w h
  have h2 : w ∈ [u_lay R_S F_S 0, u_lay R_S F_S 1, u_lay R_S F_S 2, u_lay R_S F_S 3, u_lay R_S F_S 4] := h
  simp only [List.mem_cons, List.not_mem_nil, or_false] at h2
  rcases h2 with rfl | rfl | rfl | rfl | rfl
  · exact kw_99
  · exact kw_101
  · exact kw_103
  · exact kw_105
  · exact kw_107
theorem in_M : ∀ w ∈ u_ws R_M F_M 3, w ∈ gw := by
  intro w h
  have h2 : w ∈ [u_lay R_M F_M 0, u_lay R_M F_M 1, u_lay R_M F_M 2] := h
  simp only [List.mem_cons, List.not_mem_nil, or_false] at h2
  rcases h2 with rfl | rfl | rfl
  · exact kw_36
  · exact kw_38
  · exact kw_40
theorem in_C : ∀ w ∈ u_ws R_C F_C 8, w ∈ gw := by
  intro w h
  have h2 : w ∈ [u_lay R_C F_C 0, u_lay R_C F_C 1, u_lay R_C F_C 2, u_lay R_C F_C 3, u_lay R_C F_C 4, u_lay R_C F_C 5, u_lay R_C F_C 6, u_lay R_C F_C 7] := h
  simp only [List.mem_cons, List.not_mem_nil, or_false] at h2
  rcases h2 with rfl | rfl | rfl | rfl | rfl | rfl | rfl | rfl
  · exact kw_61
  · exact kw_63
  · exact kw_65
  · exact kw_67
  · exact kw_69
  · exact kw_71
  · exact kw_73
  · exact kw_75
theorem in_D : ∀ w ∈ u_ws R_D F_D 2, w ∈ gw := by
  intro w h
  have h2 : w ∈ [u_lay R_D F_D 0, u_lay R_D F_D 1] := h
  simp only [List.mem_cons, List.not_mem_nil, or_false] at h2
  rcases h2 with rfl | rfl
  · exact kw_89
  · exact kw_91
theorem in_O : ∀ w ∈ u_ws R_O F_O 17, w ∈ gw := by
  intro w h
  have h2 : w ∈ [u_lay R_O F_O 0, u_lay R_O F_O 1, u_lay R_O F_O 2, u_lay R_O F_O 3, u_lay R_O F_O 4, u_lay R_O F_O 5, u_lay R_O F_O 6, u_lay R_O F_O 7, u_lay R_O F_O 8, u_lay R_O F_O 9, u_lay R_O F_O 10, u_lay R_O F_O 11, u_lay R_O F_O 12, u_lay R_O F_O 13, u_lay R_O F_O 14, u_lay R_O F_O 15, u_lay R_O F_O 16] := h
  simp only [List.mem_cons, List.not_mem_nil, or_false] at h2
  rcases h2 with rfl | rfl | rfl | rfl | rfl | rfl | rfl | rfl | rfl | rfl | rfl | rfl | rfl | rfl | rfl | rfl | rfl
  · exact kw_545
  · exact kw_547
  · exact kw_549
  · exact kw_551
  · exact kw_553
  · exact kw_555
  · exact kw_557
  · exact kw_559
  · exact kw_561
  · exact kw_563
  · exact kw_565
  · exact kw_567
  · exact kw_569
  · exact kw_571
  · exact kw_573
  · exact kw_575
  · exact kw_577
abbrev b_S_init : ByteArray := prog_1_method_1_code
def y_S_init : MethodName := ⟨R_S, "<init>", "()V"⟩
def w_S_init : List Cond := .code y_S_init b_S_init 1 (Option.none : Option Jvm.ClassFile.FieldType) :: gw
theorem gi_S_init : GoodIn gw w_S_init := gw_in kw_18
abbrev b_S_polynomial : ByteArray := prog_1_method_2_code
def y_S_polynomial : MethodName := ⟨R_S, "polynomial", "(J)I"⟩
def w_S_polynomial : List Cond := .code y_S_polynomial b_S_polynomial 4 (Option.some Jvm.ClassFile.FieldType.int) :: gw
theorem gi_S_polynomial : GoodIn gw w_S_polynomial := gw_in kw_210
abbrev b_S_times : ByteArray := prog_1_method_3_code
def y_S_times : MethodName := ⟨R_S, "times", "(JJ)J"⟩
def w_S_times : List Cond := .code y_S_times b_S_times 5 (Option.some Jvm.ClassFile.FieldType.long) :: gw
theorem gi_S_times : GoodIn gw w_S_times := gw_in kw_296
abbrev b_S_power : ByteArray := prog_1_method_4_code
def y_S_power : MethodName := ⟨R_S, "power", "(JJ)J"⟩
def w_S_power : List Cond := .code y_S_power b_S_power 5 (Option.some Jvm.ClassFile.FieldType.long) :: gw
theorem gi_S_power : GoodIn gw w_S_power := gw_in kw_313
abbrev b_S_residue : ByteArray := prog_1_method_5_code
def y_S_residue : MethodName := ⟨R_S, "residue", "(J)J"⟩
def w_S_residue : List Cond := .code y_S_residue b_S_residue 3 (Option.some Jvm.ClassFile.FieldType.long) :: gw
theorem gi_S_residue : GoodIn gw w_S_residue := gw_in kw_113
abbrev b_S_irreducible : ByteArray := prog_1_method_6_code
def y_S_irreducible : MethodName := ⟨R_S, "irreducible", "()Z"⟩
def w_S_irreducible : List Cond := .code y_S_irreducible b_S_irreducible 1 (Option.some Jvm.ClassFile.FieldType.boolean) :: gw
theorem gi_S_irreducible : GoodIn gw w_S_irreducible := gw_in kw_134
abbrev b_S_primitive : ByteArray := prog_1_method_7_code
def y_S_primitive : MethodName := ⟨R_S, "primitive", "()Z"⟩
def w_S_primitive : List Cond := .code y_S_primitive b_S_primitive 1 (Option.some Jvm.ClassFile.FieldType.boolean) :: gw
theorem gi_S_primitive : GoodIn gw w_S_primitive := gw_in kw_153
abbrev b_S_order : ByteArray := prog_1_method_8_code
def y_S_order : MethodName := ⟨R_S, "order", "()J"⟩
def w_S_order : List Cond := .code y_S_order b_S_order 1 (Option.some Jvm.ClassFile.FieldType.long) :: gw
theorem gi_S_order : GoodIn gw w_S_order := gw_in kw_175
abbrev b_S_load : ByteArray := prog_1_method_9_code
def y_S_load : MethodName := ⟨R_S, "load", "(J)J"⟩
def w_S_load : List Cond := .code y_S_load b_S_load 5 (Option.some Jvm.ClassFile.FieldType.long) :: gw
theorem gi_S_load : GoodIn gw w_S_load := gw_in kw_326
abbrev b_S_steps : ByteArray := prog_1_method_10_code
def y_S_steps : MethodName := ⟨R_S, "steps", "(J)J"⟩
def w_S_steps : List Cond := .code y_S_steps b_S_steps 3 (Option.some Jvm.ClassFile.FieldType.long) :: gw
theorem gi_S_steps : GoodIn gw w_S_steps := gw_in kw_333
abbrev b_S_channel : ByteArray := prog_1_method_11_code
def y_S_channel : MethodName := ⟨R_S, "channel", "(J)I"⟩
def w_S_channel : List Cond := .code y_S_channel b_S_channel 4 (Option.some Jvm.ClassFile.FieldType.int) :: gw
theorem gi_S_channel : GoodIn gw w_S_channel := gw_in kw_341
abbrev b_S_pattern : ByteArray := prog_1_method_12_code
def y_S_pattern : MethodName := ⟨R_S, "pattern", "()I"⟩
def w_S_pattern : List Cond := .code y_S_pattern b_S_pattern 1 (Option.some Jvm.ClassFile.FieldType.int) :: gw
theorem gi_S_pattern : GoodIn gw w_S_pattern := gw_in kw_192
abbrev b_S_gate : ByteArray := prog_1_method_13_code
def y_S_gate : MethodName := ⟨R_S, "gate", "(III)I"⟩
def w_S_gate : List Cond := .code y_S_gate b_S_gate 5 (Option.some Jvm.ClassFile.FieldType.int) :: gw
theorem gi_S_gate : GoodIn gw w_S_gate := gw_in kw_365
abbrev b_S_output : ByteArray := prog_1_method_14_code
def y_S_output : MethodName := ⟨R_S, "output", "(I)I"⟩
def w_S_output : List Cond := .code y_S_output b_S_output 2 (Option.some Jvm.ClassFile.FieldType.int) :: gw
theorem gi_S_output : GoodIn gw w_S_output := gw_in kw_403
abbrev b_S_answer : ByteArray := prog_1_method_15_code
def y_S_answer : MethodName := ⟨R_S, "answer", "(II)I"⟩
def w_S_answer : List Cond := .code y_S_answer b_S_answer 3 (Option.some Jvm.ClassFile.FieldType.int) :: gw
theorem gi_S_answer : GoodIn gw w_S_answer := gw_in kw_415
abbrev b_S_session : ByteArray := prog_1_method_16_code
def y_S_session : MethodName := ⟨R_S, "session", "(II)J"⟩
def w_S_session : List Cond := .code y_S_session b_S_session 9 (Option.some Jvm.ClassFile.FieldType.long) :: gw
theorem gi_S_session : GoodIn gw w_S_session := gw_in kw_458
abbrev b_S_faults : ByteArray := prog_1_method_17_code
def y_S_faults : MethodName := ⟨R_S, "faults", "(II)I"⟩
def w_S_faults : List Cond := .code y_S_faults b_S_faults 5 (Option.some Jvm.ClassFile.FieldType.int) :: gw
theorem gi_S_faults : GoodIn gw w_S_faults := gw_in kw_471
abbrev b_S_first : ByteArray := prog_1_method_18_code
def y_S_first : MethodName := ⟨R_S, "first", "(II)I"⟩
def w_S_first : List Cond := .code y_S_first b_S_first 7 (Option.some Jvm.ClassFile.FieldType.int) :: gw
theorem gi_S_first : GoodIn gw w_S_first := gw_in kw_520
abbrev b_S_requireResidue : ByteArray := prog_1_method_19_code
def y_S_requireResidue : MethodName := ⟨R_S, "requireResidue", "(J)V"⟩
def w_S_requireResidue : List Cond := .code y_S_requireResidue b_S_requireResidue 3 (Option.none : Option Jvm.ClassFile.FieldType) :: gw
theorem gi_S_requireResidue : GoodIn gw w_S_requireResidue := gw_in kw_300
abbrev b_S_requireNotNegative : ByteArray := prog_1_method_20_code
def y_S_requireNotNegative : MethodName := ⟨R_S, "requireNotNegative", "(J)V"⟩
def w_S_requireNotNegative : List Cond := .code y_S_requireNotNegative b_S_requireNotNegative 3 (Option.none : Option Jvm.ClassFile.FieldType) :: gw
theorem gi_S_requireNotNegative : GoodIn gw w_S_requireNotNegative := gw_in kw_317
abbrev b_S_requirePatterns : ByteArray := prog_1_method_21_code
def y_S_requirePatterns : MethodName := ⟨R_S, "requirePatterns", "(I)V"⟩
def w_S_requirePatterns : List Cond := .code y_S_requirePatterns b_S_requirePatterns 2 (Option.none : Option Jvm.ClassFile.FieldType) :: gw
theorem gi_S_requirePatterns : GoodIn gw w_S_requirePatterns := gw_in kw_462
abbrev b_S_requireLine : ByteArray := prog_1_method_22_code
def y_S_requireLine : MethodName := ⟨R_S, "requireLine", "(I)V"⟩
def w_S_requireLine : List Cond := .code y_S_requireLine b_S_requireLine 2 (Option.none : Option Jvm.ClassFile.FieldType) :: gw
theorem gi_S_requireLine : GoodIn gw w_S_requireLine := gw_in kw_370
abbrev b_S_requireFault : ByteArray := prog_1_method_23_code
def y_S_requireFault : MethodName := ⟨R_S, "requireFault", "(I)V"⟩
def w_S_requireFault : List Cond := .code y_S_requireFault b_S_requireFault 2 (Option.none : Option Jvm.ClassFile.FieldType) :: gw
theorem gi_S_requireFault : GoodIn gw w_S_requireFault := gw_in kw_423
abbrev b_S_requireFaultOrNone : ByteArray := prog_1_method_24_code
def y_S_requireFaultOrNone : MethodName := ⟨R_S, "requireFaultOrNone", "(I)V"⟩
def w_S_requireFaultOrNone : List Cond := .code y_S_requireFaultOrNone b_S_requireFaultOrNone 2 (Option.none : Option Jvm.ClassFile.FieldType) :: gw
theorem gi_S_requireFaultOrNone : GoodIn gw w_S_requireFaultOrNone := gw_in kw_419
abbrev b_S_patternOf : ByteArray := prog_1_method_25_code
def y_S_patternOf : MethodName := ⟨R_S, "patternOf", "(J)I"⟩
def w_S_patternOf : List Cond := .code y_S_patternOf b_S_patternOf 5 (Option.some Jvm.ClassFile.FieldType.int) :: gw
theorem gi_S_patternOf : GoodIn gw w_S_patternOf := gw_in kw_196
abbrev b_S_compareAllFaults : ByteArray := prog_1_method_26_code
def y_S_compareAllFaults : MethodName := ⟨R_S, "compareAllFaults", "(I)V"⟩
def w_S_compareAllFaults : List Cond := .code y_S_compareAllFaults b_S_compareAllFaults 5 (Option.none : Option Jvm.ClassFile.FieldType) :: gw
theorem gi_S_compareAllFaults : GoodIn gw w_S_compareAllFaults := gw_in kw_476
abbrev b_S_lowestBit : ByteArray := prog_1_method_27_code
def y_S_lowestBit : MethodName := ⟨R_S, "lowestBit", "(J)I"⟩
def w_S_lowestBit : List Cond := .code y_S_lowestBit b_S_lowestBit 2 (Option.some Jvm.ClassFile.FieldType.int) :: gw
theorem gi_S_lowestBit : GoodIn gw w_S_lowestBit := gw_in kw_507
abbrev b_O_init : ByteArray := prog_6_method_1_code
def y_O_init : MethodName := ⟨R_O, "<init>", "()V"⟩
def w_O_init : List Cond := .code y_O_init b_O_init 1 (Option.none : Option Jvm.ClassFile.FieldType) :: gw
theorem gi_O_init : GoodIn gw w_O_init := gw_in kw_525
abbrev b_O_thrown : ByteArray := prog_6_method_2_code
def y_O_thrown : MethodName := ⟨R_O, "thrown", "()I"⟩
def w_O_thrown : List Cond := .code y_O_thrown b_O_thrown 1 (Option.some Jvm.ClassFile.FieldType.int) :: gw
theorem gi_O_thrown : GoodIn gw w_O_thrown := gw_in kw_583
abbrev b_O_refused : ByteArray := prog_6_method_3_code
def y_O_refused : MethodName := ⟨R_O, "refused", "(I)Z"⟩
def w_O_refused : List Cond := .code y_O_refused b_O_refused 2 (Option.some Jvm.ClassFile.FieldType.boolean) :: gw
theorem gi_O_refused : GoodIn gw w_O_refused := gw_in kw_591
abbrev b_O_clearCircuit : ByteArray := prog_6_method_4_code
def y_O_clearCircuit : MethodName := ⟨R_O, "clearCircuit", "()V"⟩
def w_O_clearCircuit : List Cond := .code y_O_clearCircuit b_O_clearCircuit 1 (Option.none : Option Jvm.ClassFile.FieldType) :: gw
theorem gi_O_clearCircuit : GoodIn gw w_O_clearCircuit := gw_in kw_595
abbrev b_O_polynomial : ByteArray := prog_6_method_5_code
def y_O_polynomial : MethodName := ⟨R_O, "polynomial", "(J)I"⟩
def w_O_polynomial : List Cond := .code y_O_polynomial b_O_polynomial 5 (Option.some Jvm.ClassFile.FieldType.int) :: gw
theorem gi_O_polynomial : GoodIn gw w_O_polynomial := gw_in kw_587
abbrev b_O_isResidue : ByteArray := prog_6_method_6_code
def y_O_isResidue : MethodName := ⟨R_O, "isResidue", "(J)Z"⟩
def w_O_isResidue : List Cond := .code y_O_isResidue b_O_isResidue 3 (Option.some Jvm.ClassFile.FieldType.boolean) :: gw
theorem gi_O_isResidue : GoodIn gw w_O_isResidue := gw_in kw_603
abbrev b_O_step : ByteArray := prog_6_method_7_code
def y_O_step : MethodName := ⟨R_O, "step", "(J)J"⟩
def w_O_step : List Cond := .code y_O_step b_O_step 5 (Option.some Jvm.ClassFile.FieldType.long) :: gw
theorem gi_O_step : GoodIn gw w_O_step := gw_in kw_611
abbrev b_O_product : ByteArray := prog_6_method_8_code
def y_O_product : MethodName := ⟨R_O, "product", "(JJ)J"⟩
def w_O_product : List Cond := .code y_O_product b_O_product 8 (Option.some Jvm.ClassFile.FieldType.long) :: gw
theorem gi_O_product : GoodIn gw w_O_product := gw_in kw_607
abbrev b_O_raised : ByteArray := prog_6_method_9_code
def y_O_raised : MethodName := ⟨R_O, "raised", "(JJ)J"⟩
def w_O_raised : List Cond := .code y_O_raised b_O_raised 8 (Option.some Jvm.ClassFile.FieldType.long) :: gw
theorem gi_O_raised : GoodIn gw w_O_raised := gw_in kw_620
abbrev b_O_left : ByteArray := prog_6_method_10_code
def y_O_left : MethodName := ⟨R_O, "left", "(JJI)J"⟩
def w_O_left : List Cond := .code y_O_left b_O_left 8 (Option.some Jvm.ClassFile.FieldType.long) :: gw
theorem gi_O_left : GoodIn gw w_O_left := gw_in kw_627
abbrev b_O_reduced : ByteArray := prog_6_method_11_code
def y_O_reduced : MethodName := ⟨R_O, "reduced", "(J)J"⟩
def w_O_reduced : List Cond := .code y_O_reduced b_O_reduced 3 (Option.some Jvm.ClassFile.FieldType.long) :: gw
theorem gi_O_reduced : GoodIn gw w_O_reduced := gw_in kw_624
abbrev b_O_times : ByteArray := prog_6_method_12_code
def y_O_times : MethodName := ⟨R_O, "times", "(JJ)J"⟩
def w_O_times : List Cond := .code y_O_times b_O_times 5 (Option.some Jvm.ClassFile.FieldType.long) :: gw
theorem gi_O_times : GoodIn gw w_O_times := gw_in kw_599
abbrev b_O_power : ByteArray := prog_6_method_13_code
def y_O_power : MethodName := ⟨R_O, "power", "(JJ)J"⟩
def w_O_power : List Cond := .code y_O_power b_O_power 5 (Option.some Jvm.ClassFile.FieldType.long) :: gw
theorem gi_O_power : GoodIn gw w_O_power := gw_in kw_616
abbrev b_O_residue : ByteArray := prog_6_method_14_code
def y_O_residue : MethodName := ⟨R_O, "residue", "(J)J"⟩
def w_O_residue : List Cond := .code y_O_residue b_O_residue 3 (Option.some Jvm.ClassFile.FieldType.long) :: gw
theorem gi_O_residue : GoodIn gw w_O_residue := gw_in kw_631
abbrev b_O_isProduct : ByteArray := prog_6_method_15_code
def y_O_isProduct : MethodName := ⟨R_O, "isProduct", "()Z"⟩
def w_O_isProduct : List Cond := .code y_O_isProduct b_O_isProduct 7 (Option.some Jvm.ClassFile.FieldType.boolean) :: gw
theorem gi_O_isProduct : GoodIn gw w_O_isProduct := gw_in kw_639
abbrev b_O_irreducible : ByteArray := prog_6_method_16_code
def y_O_irreducible : MethodName := ⟨R_O, "irreducible", "()Z"⟩
def w_O_irreducible : List Cond := .code y_O_irreducible b_O_irreducible 1 (Option.some Jvm.ClassFile.FieldType.boolean) :: gw
theorem gi_O_irreducible : GoodIn gw w_O_irreducible := gw_in kw_635
abbrev b_O_primitive : ByteArray := prog_6_method_17_code
def y_O_primitive : MethodName := ⟨R_O, "primitive", "()Z"⟩
def w_O_primitive : List Cond := .code y_O_primitive b_O_primitive 10 (Option.some Jvm.ClassFile.FieldType.boolean) :: gw
theorem gi_O_primitive : GoodIn gw w_O_primitive := gw_in kw_643
abbrev b_O_order : ByteArray := prog_6_method_18_code
def y_O_order : MethodName := ⟨R_O, "order", "()J"⟩
def w_O_order : List Cond := .code y_O_order b_O_order 3 (Option.some Jvm.ClassFile.FieldType.long) :: gw
theorem gi_O_order : GoodIn gw w_O_order := gw_in kw_647
abbrev b_O_load : ByteArray := prog_6_method_19_code
def y_O_load : MethodName := ⟨R_O, "load", "(J)J"⟩
def w_O_load : List Cond := .code y_O_load b_O_load 5 (Option.some Jvm.ClassFile.FieldType.long) :: gw
theorem gi_O_load : GoodIn gw w_O_load := gw_in kw_652
abbrev b_O_steps : ByteArray := prog_6_method_20_code
def y_O_steps : MethodName := ⟨R_O, "steps", "(J)J"⟩
def w_O_steps : List Cond := .code y_O_steps b_O_steps 3 (Option.some Jvm.ClassFile.FieldType.long) :: gw
theorem gi_O_steps : GoodIn gw w_O_steps := gw_in kw_656
abbrev b_O_channel : ByteArray := prog_6_method_21_code
def y_O_channel : MethodName := ⟨R_O, "channel", "(J)I"⟩
def w_O_channel : List Cond := .code y_O_channel b_O_channel 3 (Option.some Jvm.ClassFile.FieldType.int) :: gw
theorem gi_O_channel : GoodIn gw w_O_channel := gw_in kw_660
abbrev b_O_patternOf : ByteArray := prog_6_method_22_code
def y_O_patternOf : MethodName := ⟨R_O, "patternOf", "(J)I"⟩
def w_O_patternOf : List Cond := .code y_O_patternOf b_O_patternOf 9 (Option.some Jvm.ClassFile.FieldType.int) :: gw
theorem gi_O_patternOf : GoodIn gw w_O_patternOf := gw_in kw_668
abbrev b_O_pattern : ByteArray := prog_6_method_23_code
def y_O_pattern : MethodName := ⟨R_O, "pattern", "()I"⟩
def w_O_pattern : List Cond := .code y_O_pattern b_O_pattern 1 (Option.some Jvm.ClassFile.FieldType.int) :: gw
theorem gi_O_pattern : GoodIn gw w_O_pattern := gw_in kw_664
abbrev b_O_isLine : ByteArray := prog_6_method_24_code
def y_O_isLine : MethodName := ⟨R_O, "isLine", "(I)Z"⟩
def w_O_isLine : List Cond := .code y_O_isLine b_O_isLine 2 (Option.some Jvm.ClassFile.FieldType.boolean) :: gw
theorem gi_O_isLine : GoodIn gw w_O_isLine := gw_in kw_676
abbrev b_O_gate : ByteArray := prog_6_method_25_code
def y_O_gate : MethodName := ⟨R_O, "gate", "(III)I"⟩
def w_O_gate : List Cond := .code y_O_gate b_O_gate 5 (Option.some Jvm.ClassFile.FieldType.int) :: gw
theorem gi_O_gate : GoodIn gw w_O_gate := gw_in kw_672
abbrev b_O_output : ByteArray := prog_6_method_26_code
def y_O_output : MethodName := ⟨R_O, "output", "(I)I"⟩
def w_O_output : List Cond := .code y_O_output b_O_output 2 (Option.some Jvm.ClassFile.FieldType.int) :: gw
theorem gi_O_output : GoodIn gw w_O_output := gw_in kw_680
abbrev b_O_worth : ByteArray := prog_6_method_27_code
def y_O_worth : MethodName := ⟨R_O, "worth", "(III)I"⟩
def w_O_worth : List Cond := .code y_O_worth b_O_worth 3 (Option.some Jvm.ClassFile.FieldType.int) :: gw
theorem gi_O_worth : GoodIn gw w_O_worth := gw_in kw_695
abbrev b_O_answerTo : ByteArray := prog_6_method_28_code
def y_O_answerTo : MethodName := ⟨R_O, "answerTo", "(II)I"⟩
def w_O_answerTo : List Cond := .code y_O_answerTo b_O_answerTo 5 (Option.some Jvm.ClassFile.FieldType.int) :: gw
theorem gi_O_answerTo : GoodIn gw w_O_answerTo := gw_in kw_692
abbrev b_O_isFault : ByteArray := prog_6_method_29_code
def y_O_isFault : MethodName := ⟨R_O, "isFault", "(I)Z"⟩
def w_O_isFault : List Cond := .code y_O_isFault b_O_isFault 2 (Option.some Jvm.ClassFile.FieldType.boolean) :: gw
theorem gi_O_isFault : GoodIn gw w_O_isFault := gw_in kw_688
abbrev b_O_answer : ByteArray := prog_6_method_30_code
def y_O_answer : MethodName := ⟨R_O, "answer", "(II)I"⟩
def w_O_answer : List Cond := .code y_O_answer b_O_answer 3 (Option.some Jvm.ClassFile.FieldType.int) :: gw
theorem gi_O_answer : GoodIn gw w_O_answer := gw_in kw_684
abbrev b_O_prepare : ByteArray := prog_6_method_31_code
def y_O_prepare : MethodName := ⟨R_O, "prepare", "(I)V"⟩
def w_O_prepare : List Cond := .code y_O_prepare b_O_prepare 5 (Option.none : Option Jvm.ClassFile.FieldType) :: gw
theorem gi_O_prepare : GoodIn gw w_O_prepare := gw_in kw_706
abbrev b_O_signature : ByteArray := prog_6_method_32_code
def y_O_signature : MethodName := ⟨R_O, "signature", "(II)J"⟩
def w_O_signature : List Cond := .code y_O_signature b_O_signature 6 (Option.some Jvm.ClassFile.FieldType.long) :: gw
theorem gi_O_signature : GoodIn gw w_O_signature := gw_in kw_710
abbrev b_O_firstSeen : ByteArray := prog_6_method_33_code
def y_O_firstSeen : MethodName := ⟨R_O, "firstSeen", "(II)I"⟩
def w_O_firstSeen : List Cond := .code y_O_firstSeen b_O_firstSeen 4 (Option.some Jvm.ClassFile.FieldType.int) :: gw
theorem gi_O_firstSeen : GoodIn gw w_O_firstSeen := gw_in kw_718
abbrev b_O_isCount : ByteArray := prog_6_method_34_code
def y_O_isCount : MethodName := ⟨R_O, "isCount", "(I)Z"⟩
def w_O_isCount : List Cond := .code y_O_isCount b_O_isCount 1 (Option.some Jvm.ClassFile.FieldType.boolean) :: gw
theorem gi_O_isCount : GoodIn gw w_O_isCount := gw_in kw_702
abbrev b_O_session : ByteArray := prog_6_method_35_code
def y_O_session : MethodName := ⟨R_O, "session", "(II)J"⟩
def w_O_session : List Cond := .code y_O_session b_O_session 4 (Option.some Jvm.ClassFile.FieldType.long) :: gw
theorem gi_O_session : GoodIn gw w_O_session := gw_in kw_699
abbrev b_O_faults : ByteArray := prog_6_method_36_code
def y_O_faults : MethodName := ⟨R_O, "faults", "(II)I"⟩
def w_O_faults : List Cond := .code y_O_faults b_O_faults 12 (Option.some Jvm.ClassFile.FieldType.int) :: gw
theorem gi_O_faults : GoodIn gw w_O_faults := gw_in kw_714
abbrev b_O_first : ByteArray := prog_6_method_37_code
def y_O_first : MethodName := ⟨R_O, "first", "(II)I"⟩
def w_O_first : List Cond := .code y_O_first b_O_first 3 (Option.some Jvm.ClassFile.FieldType.int) :: gw
theorem gi_O_first : GoodIn gw w_O_first := gw_in kw_722
abbrev b_C_init : ByteArray := prog_2_method_1_code
def y_C_init : MethodName := ⟨R_C, "<init>", "()V"⟩
def w_C_init : List Cond := .code y_C_init b_C_init 1 (Option.none : Option Jvm.ClassFile.FieldType) :: gw
theorem gi_C_init : GoodIn gw w_C_init := gw_in kw_47
abbrev b_C_restart : ByteArray := prog_2_method_2_code
def y_C_restart : MethodName := ⟨R_C, "restart", "(I)V"⟩
def w_C_restart : List Cond := .code y_C_restart b_C_restart 2 (Option.none : Option Jvm.ClassFile.FieldType) :: gw
theorem gi_C_restart : GoodIn gw w_C_restart := gw_in kw_289
abbrev b_C_countLines : ByteArray := prog_2_method_3_code
def y_C_countLines : MethodName := ⟨R_C, "countLines", "()I"⟩
def w_C_countLines : List Cond := .code y_C_countLines b_C_countLines 1 (Option.some Jvm.ClassFile.FieldType.int) :: gw
theorem gi_C_countLines : GoodIn gw w_C_countLines := gw_in kw_374
abbrev b_C_countFaults : ByteArray := prog_2_method_4_code
def y_C_countFaults : MethodName := ⟨R_C, "countFaults", "()I"⟩
def w_C_countFaults : List Cond := .code y_C_countFaults b_C_countFaults 1 (Option.some Jvm.ClassFile.FieldType.int) :: gw
theorem gi_C_countFaults : GoodIn gw w_C_countFaults := gw_in kw_427
abbrev b_C_addGate : ByteArray := prog_2_method_5_code
def y_C_addGate : MethodName := ⟨R_C, "addGate", "(III)I"⟩
def w_C_addGate : List Cond := .code y_C_addGate b_C_addGate 5 (Option.some Jvm.ClassFile.FieldType.int) :: gw
theorem gi_C_addGate : GoodIn gw w_C_addGate := gw_in kw_395
abbrev b_C_addOutput : ByteArray := prog_2_method_6_code
def y_C_addOutput : MethodName := ⟨R_C, "addOutput", "(I)I"⟩
def w_C_addOutput : List Cond := .code y_C_addOutput b_C_addOutput 2 (Option.some Jvm.ClassFile.FieldType.int) :: gw
theorem gi_C_addOutput : GoodIn gw w_C_addOutput := gw_in kw_408
abbrev b_C_answerTo : ByteArray := prog_2_method_7_code
def y_C_answerTo : MethodName := ⟨R_C, "answerTo", "(II)I"⟩
def w_C_answerTo : List Cond := .code y_C_answerTo b_C_answerTo 6 (Option.some Jvm.ClassFile.FieldType.int) :: gw
theorem gi_C_answerTo : GoodIn gw w_C_answerTo := gw_in kw_432
abbrev b_C_valuesOfOutput : ByteArray := prog_2_method_8_code
def y_C_valuesOfOutput : MethodName := ⟨R_C, "valuesOfOutput", "(I)J"⟩
def w_C_valuesOfOutput : List Cond := .code y_C_valuesOfOutput b_C_valuesOfOutput 2 (Option.some Jvm.ClassFile.FieldType.long) :: gw
theorem gi_C_valuesOfOutput : GoodIn gw w_C_valuesOfOutput := gw_in kw_451
abbrev b_C_settle : ByteArray := prog_2_method_9_code
def y_C_settle : MethodName := ⟨R_C, "settle", "(IZ)V"⟩
def w_C_settle : List Cond := .code y_C_settle b_C_settle 7 (Option.none : Option Jvm.ClassFile.FieldType) :: gw
theorem gi_C_settle : GoodIn gw w_C_settle := gw_in kw_436
abbrev b_C_valuesOfGate : ByteArray := prog_2_method_10_code
def y_C_valuesOfGate : MethodName := ⟨R_C, "valuesOfGate", "(I)J"⟩
def w_C_valuesOfGate : List Cond := .code y_C_valuesOfGate b_C_valuesOfGate 6 (Option.some Jvm.ClassFile.FieldType.long) :: gw
theorem gi_C_valuesOfGate : GoodIn gw w_C_valuesOfGate := gw_in kw_443
abbrev b_C_withStuck : ByteArray := prog_2_method_11_code
def y_C_withStuck : MethodName := ⟨R_C, "withStuck", "(JI)J"⟩
def w_C_withStuck : List Cond := .code y_C_withStuck b_C_withStuck 7 (Option.some Jvm.ClassFile.FieldType.long) :: gw
theorem gi_C_withStuck : GoodIn gw w_C_withStuck := gw_in kw_447
abbrev b_C_spread : ByteArray := prog_2_method_12_code
def y_C_spread : MethodName := ⟨R_C, "spread", "(I)J"⟩
def w_C_spread : List Cond := .code y_C_spread b_C_spread 1 (Option.some Jvm.ClassFile.FieldType.long) :: gw
theorem gi_C_spread : GoodIn gw w_C_spread := gw_in kw_439
abbrev b_D_init : ByteArray := prog_3_method_1_code
def y_D_init : MethodName := ⟨R_D, "<init>", "()V"⟩
def w_D_init : List Cond := .code y_D_init b_D_init 1 (Option.none : Option Jvm.ClassFile.FieldType) :: gw
theorem gi_D_init : GoodIn gw w_D_init := gw_in kw_84
abbrev b_D_clear : ByteArray := prog_3_method_2_code
def y_D_clear : MethodName := ⟨R_D, "clear", "()V"⟩
def w_D_clear : List Cond := .code y_D_clear b_D_clear 2 (Option.none : Option Jvm.ClassFile.FieldType) :: gw
theorem gi_D_clear : GoodIn gw w_D_clear := gw_in kw_480
abbrev b_D_timesX : ByteArray := prog_3_method_3_code
def y_D_timesX : MethodName := ⟨R_D, "timesX", "()V"⟩
def w_D_timesX : List Cond := .code y_D_timesX b_D_timesX 2 (Option.none : Option Jvm.ClassFile.FieldType) :: gw
theorem gi_D_timesX : GoodIn gw w_D_timesX := gw_in kw_484
abbrev b_D_addAnswers : ByteArray := prog_3_method_4_code
def y_D_addAnswers : MethodName := ⟨R_D, "addAnswers", "(LShiftSignatures$Circuit;I)V"⟩
def w_D_addAnswers : List Cond := .code y_D_addAnswers b_D_addAnswers 7 (Option.none : Option Jvm.ClassFile.FieldType) :: gw
theorem gi_D_addAnswers : GoodIn gw w_D_addAnswers := gw_in kw_488
abbrev b_D_reduce : ByteArray := prog_3_method_5_code
def y_D_reduce : MethodName := ⟨R_D, "reduce", "(LShiftSignatures$Modulus;)V"⟩
def w_D_reduce : List Cond := .code y_D_reduce b_D_reduce 5 (Option.none : Option Jvm.ClassFile.FieldType) :: gw
theorem gi_D_reduce : GoodIn gw w_D_reduce := gw_in kw_496
abbrev b_D_subtract : ByteArray := prog_3_method_6_code
def y_D_subtract : MethodName := ⟨R_D, "subtract", "(JJI)V"⟩
def w_D_subtract : List Cond := .code y_D_subtract b_D_subtract 7 (Option.none : Option Jvm.ClassFile.FieldType) :: gw
theorem gi_D_subtract : GoodIn gw w_D_subtract := gw_in kw_500
abbrev b_D_found : ByteArray := prog_3_method_7_code
def y_D_found : MethodName := ⟨R_D, "found", "()J"⟩
def w_D_found : List Cond := .code y_D_found b_D_found 4 (Option.some Jvm.ClassFile.FieldType.long) :: gw
theorem gi_D_found : GoodIn gw w_D_found := gw_in kw_504
abbrev b_M_init : ByteArray := prog_4_method_1_code
def y_M_init : MethodName := ⟨R_M, "<init>", "()V"⟩
def w_M_init : List Cond := .code y_M_init b_M_init 1 (Option.none : Option Jvm.ClassFile.FieldType) :: gw
theorem gi_M_init : GoodIn gw w_M_init := gw_in kw_26
abbrev b_M_become : ByteArray := prog_4_method_2_code
def y_M_become : MethodName := ⟨R_M, "become", "(J)V"⟩
def w_M_become : List Cond := .code y_M_become b_M_become 3 (Option.none : Option Jvm.ClassFile.FieldType) :: gw
theorem gi_M_become : GoodIn gw w_M_become := gw_in kw_283
abbrev b_M_hasResidue : ByteArray := prog_4_method_3_code
def y_M_hasResidue : MethodName := ⟨R_M, "hasResidue", "(J)Z"⟩
def w_M_hasResidue : List Cond := .code y_M_hasResidue b_M_hasResidue 3 (Option.some Jvm.ClassFile.FieldType.boolean) :: gw
theorem gi_M_hasResidue : GoodIn gw w_M_hasResidue := gw_in kw_304
abbrev b_M_reduced : ByteArray := prog_4_method_4_code
def y_M_reduced : MethodName := ⟨R_M, "reduced", "(J)J"⟩
def w_M_reduced : List Cond := .code y_M_reduced b_M_reduced 3 (Option.some Jvm.ClassFile.FieldType.long) :: gw
theorem gi_M_reduced : GoodIn gw w_M_reduced := gw_in kw_117
abbrev b_M_stepped : ByteArray := prog_4_method_5_code
def y_M_stepped : MethodName := ⟨R_M, "stepped", "(J)J"⟩
def w_M_stepped : List Cond := .code y_M_stepped b_M_stepped 5 (Option.some Jvm.ClassFile.FieldType.long) :: gw
theorem gi_M_stepped : GoodIn gw w_M_stepped := gw_in kw_146
abbrev b_M_product : ByteArray := prog_4_method_6_code
def y_M_product : MethodName := ⟨R_M, "product", "(JJ)J"⟩
def w_M_product : List Cond := .code y_M_product b_M_product 8 (Option.some Jvm.ClassFile.FieldType.long) :: gw
theorem gi_M_product : GoodIn gw w_M_product := gw_in kw_142
abbrev b_M_raised : ByteArray := prog_4_method_7_code
def y_M_raised : MethodName := ⟨R_M, "raised", "(JJ)J"⟩
def w_M_raised : List Cond := .code y_M_raised b_M_raised 10 (Option.some Jvm.ClassFile.FieldType.long) :: gw
theorem gi_M_raised : GoodIn gw w_M_raised := gw_in kw_161
abbrev b_M_isIrreducible : ByteArray := prog_4_method_8_code
def y_M_isIrreducible : MethodName := ⟨R_M, "isIrreducible", "()Z"⟩
def w_M_isIrreducible : List Cond := .code y_M_isIrreducible b_M_isIrreducible 4 (Option.some Jvm.ClassFile.FieldType.boolean) :: gw
theorem gi_M_isIrreducible : GoodIn gw w_M_isIrreducible := gw_in kw_138
abbrev b_M_isPrimitive : ByteArray := prog_4_method_9_code
def y_M_isPrimitive : MethodName := ⟨R_M, "isPrimitive", "()Z"⟩
def w_M_isPrimitive : List Cond := .code y_M_isPrimitive b_M_isPrimitive 3 (Option.some Jvm.ClassFile.FieldType.boolean) :: gw
theorem gi_M_isPrimitive : GoodIn gw w_M_isPrimitive := gw_in kw_157
abbrev b_M_multipleOfOrder : ByteArray := prog_4_method_10_code
def y_M_multipleOfOrder : MethodName := ⟨R_M, "multipleOfOrder", "()J"⟩
def w_M_multipleOfOrder : List Cond := .code y_M_multipleOfOrder b_M_multipleOfOrder 10 (Option.some Jvm.ClassFile.FieldType.long) :: gw
theorem gi_M_multipleOfOrder : GoodIn gw w_M_multipleOfOrder := gw_in kw_180
abbrev b_M_orderWithin : ByteArray := prog_4_method_11_code
def y_M_orderWithin : MethodName := ⟨R_M, "orderWithin", "(J)J"⟩
def w_M_orderWithin : List Cond := .code y_M_orderWithin b_M_orderWithin 10 (Option.some Jvm.ClassFile.FieldType.long) :: gw
theorem gi_M_orderWithin : GoodIn gw w_M_orderWithin := gw_in kw_165
abbrev b_M_withoutNeedless : ByteArray := prog_4_method_12_code
def y_M_withoutNeedless : MethodName := ⟨R_M, "withoutNeedless", "(JJ)J"⟩
def w_M_withoutNeedless : List Cond := .code y_M_withoutNeedless b_M_withoutNeedless 10 (Option.some Jvm.ClassFile.FieldType.long) :: gw
theorem gi_M_withoutNeedless : GoodIn gw w_M_withoutNeedless := gw_in kw_171
abbrev b_M_degreeOf : ByteArray := prog_4_method_13_code
def y_M_degreeOf : MethodName := ⟨R_M, "degreeOf", "(J)I"⟩
def w_M_degreeOf : List Cond := .code y_M_degreeOf b_M_degreeOf 2 (Option.some Jvm.ClassFile.FieldType.int) :: gw
theorem gi_M_degreeOf : GoodIn gw w_M_degreeOf := gw_in kw_123
abbrev b_M_remainder : ByteArray := prog_4_method_14_code
def y_M_remainder : MethodName := ⟨R_M, "remainder", "(JJ)J"⟩
def w_M_remainder : List Cond := .code y_M_remainder b_M_remainder 8 (Option.some Jvm.ClassFile.FieldType.long) :: gw
theorem gi_M_remainder : GoodIn gw w_M_remainder := gw_in kw_120
abbrev b_M_quotient : ByteArray := prog_4_method_15_code
def y_M_quotient : MethodName := ⟨R_M, "quotient", "(JJ)J"⟩
def w_M_quotient : List Cond := .code y_M_quotient b_M_quotient 10 (Option.some Jvm.ClassFile.FieldType.long) :: gw
theorem gi_M_quotient : GoodIn gw w_M_quotient := gw_in kw_187
abbrev b_M_commonDivisor : ByteArray := prog_4_method_16_code
def y_M_commonDivisor : MethodName := ⟨R_M, "commonDivisor", "(JJ)J"⟩
def w_M_commonDivisor : List Cond := .code y_M_commonDivisor b_M_commonDivisor 11 (Option.some Jvm.ClassFile.FieldType.long) :: gw
theorem gi_M_commonDivisor : GoodIn gw w_M_commonDivisor := gw_in kw_149
abbrev b_M_without : ByteArray := prog_4_method_17_code
def y_M_without : MethodName := ⟨R_M, "without", "(JJ)J"⟩
def w_M_without : List Cond := .code y_M_without b_M_without 9 (Option.some Jvm.ClassFile.FieldType.long) :: gw
theorem gi_M_without : GoodIn gw w_M_without := gw_in kw_184
abbrev b_L_polynomial : ByteArray := method_3_code
def y_L_polynomial : MethodName := ⟨R_L, "polynomial", "(LShiftSignatures;J[J)I"⟩
def w_L_polynomial : List Cond := .codeWith y_L_polynomial b_L_polynomial 5 (Option.some Jvm.ClassFile.FieldType.int) [((0 : Nat), (9 : Nat), (12 : Nat), (13 : Nat))] :: gw
theorem gi_L_polynomial : GoodIn gw w_L_polynomial := gw_in kw_205
abbrev b_L_times : ByteArray := method_4_code
def y_L_times : MethodName := ⟨R_L, "times", "(LShiftSignatures;JJ[J)I"⟩
def w_L_times : List Cond := .codeWith y_L_times b_L_times 7 (Option.some Jvm.ClassFile.FieldType.int) [((0 : Nat), (10 : Nat), (13 : Nat), (13 : Nat))] :: gw
theorem gi_L_times : GoodIn gw w_L_times := gw_in kw_292
abbrev b_L_power : ByteArray := method_5_code
def y_L_power : MethodName := ⟨R_L, "power", "(LShiftSignatures;JJ[J)I"⟩
def w_L_power : List Cond := .codeWith y_L_power b_L_power 7 (Option.some Jvm.ClassFile.FieldType.int) [((0 : Nat), (10 : Nat), (13 : Nat), (13 : Nat))] :: gw
theorem gi_L_power : GoodIn gw w_L_power := gw_in kw_309
abbrev b_L_load : ByteArray := method_6_code
def y_L_load : MethodName := ⟨R_L, "load", "(LShiftSignatures;J[J)I"⟩
def w_L_load : List Cond := .codeWith y_L_load b_L_load 5 (Option.some Jvm.ClassFile.FieldType.int) [((0 : Nat), (8 : Nat), (11 : Nat), (13 : Nat))] :: gw
theorem gi_L_load : GoodIn gw w_L_load := gw_in kw_322
abbrev b_L_steps : ByteArray := method_7_code
def y_L_steps : MethodName := ⟨R_L, "steps", "(LShiftSignatures;J[J)I"⟩
def w_L_steps : List Cond := .codeWith y_L_steps b_L_steps 5 (Option.some Jvm.ClassFile.FieldType.int) [((0 : Nat), (8 : Nat), (11 : Nat), (13 : Nat))] :: gw
theorem gi_L_steps : GoodIn gw w_L_steps := gw_in kw_329
abbrev b_L_channel : ByteArray := method_8_code
def y_L_channel : MethodName := ⟨R_L, "channel", "(LShiftSignatures;J[J)I"⟩
def w_L_channel : List Cond := .codeWith y_L_channel b_L_channel 5 (Option.some Jvm.ClassFile.FieldType.int) [((0 : Nat), (9 : Nat), (12 : Nat), (13 : Nat)), ((0 : Nat), (9 : Nat), (16 : Nat), (32 : Nat))] :: gw
theorem gi_L_channel : GoodIn gw w_L_channel := gw_in kw_336
abbrev b_L_gate : ByteArray := method_9_code
def y_L_gate : MethodName := ⟨R_L, "gate", "(LShiftSignatures;III[J)I"⟩
def w_L_gate : List Cond := .codeWith y_L_gate b_L_gate 6 (Option.some Jvm.ClassFile.FieldType.int) [((0 : Nat), (12 : Nat), (15 : Nat), (13 : Nat)), ((0 : Nat), (12 : Nat), (19 : Nat), (38 : Nat)), ((0 : Nat), (12 : Nat), (23 : Nat), (32 : Nat))] :: gw
theorem gi_L_gate : GoodIn gw w_L_gate := gw_in kw_360
abbrev b_L_output : ByteArray := method_10_code
def y_L_output : MethodName := ⟨R_L, "output", "(LShiftSignatures;I[J)I"⟩
def w_L_output : List Cond := .codeWith y_L_output b_L_output 4 (Option.some Jvm.ClassFile.FieldType.int) [((0 : Nat), (9 : Nat), (12 : Nat), (38 : Nat)), ((0 : Nat), (9 : Nat), (15 : Nat), (32 : Nat))] :: gw
theorem gi_L_output : GoodIn gw w_L_output := gw_in kw_399
abbrev b_L_answer : ByteArray := method_11_code
def y_L_answer : MethodName := ⟨R_L, "answer", "(LShiftSignatures;II[J)I"⟩
def w_L_answer : List Cond := .codeWith y_L_answer b_L_answer 5 (Option.some Jvm.ClassFile.FieldType.int) [((0 : Nat), (10 : Nat), (13 : Nat), (38 : Nat))] :: gw
theorem gi_L_answer : GoodIn gw w_L_answer := gw_in kw_411
abbrev b_L_session : ByteArray := method_12_code
def y_L_session : MethodName := ⟨R_L, "session", "(LShiftSignatures;II[J)I"⟩
def w_L_session : List Cond := .codeWith y_L_session b_L_session 5 (Option.some Jvm.ClassFile.FieldType.int) [((0 : Nat), (9 : Nat), (12 : Nat), (38 : Nat)), ((0 : Nat), (9 : Nat), (16 : Nat), (13 : Nat))] :: gw
theorem gi_L_session : GoodIn gw w_L_session := gw_in kw_454
abbrev b_L_faults : ByteArray := method_13_code
def y_L_faults : MethodName := ⟨R_L, "faults", "(LShiftSignatures;II[J)I"⟩
def w_L_faults : List Cond := .codeWith y_L_faults b_L_faults 5 (Option.some Jvm.ClassFile.FieldType.int) [((0 : Nat), (10 : Nat), (13 : Nat), (38 : Nat)), ((0 : Nat), (10 : Nat), (17 : Nat), (13 : Nat))] :: gw
theorem gi_L_faults : GoodIn gw w_L_faults := gw_in kw_467
abbrev b_L_first : ByteArray := method_14_code
def y_L_first : MethodName := ⟨R_L, "first", "(LShiftSignatures;II[J)I"⟩
def w_L_first : List Cond := .codeWith y_L_first b_L_first 5 (Option.some Jvm.ClassFile.FieldType.int) [((0 : Nat), (10 : Nat), (13 : Nat), (38 : Nat)), ((0 : Nat), (10 : Nat), (17 : Nat), (13 : Nat))] :: gw
theorem gi_L_first : GoodIn gw w_L_first := gw_in kw_516
abbrev b_L_law : ByteArray := code
def y_L_law : MethodName := ⟨R_L, "law", "([I)Z"⟩
abbrev b_JI_numberOfLeadingZeros : ByteArray := prog_11_method_47_code
def y_JI_numberOfLeadingZeros : MethodName := ⟨R_JI, "numberOfLeadingZeros", "(I)I"⟩
def w_JI_numberOfLeadingZeros : List Cond := .code y_JI_numberOfLeadingZeros b_JI_numberOfLeadingZeros 2 (Option.some Jvm.ClassFile.FieldType.int) :: gw
theorem gi_JI_numberOfLeadingZeros : GoodIn gw w_JI_numberOfLeadingZeros := gw_in kw_129
abbrev b_JI_numberOfTrailingZeros : ByteArray := prog_11_method_48_code
def y_JI_numberOfTrailingZeros : MethodName := ⟨R_JI, "numberOfTrailingZeros", "(I)I"⟩
def w_JI_numberOfTrailingZeros : List Cond := .code y_JI_numberOfTrailingZeros b_JI_numberOfTrailingZeros 2 (Option.some Jvm.ClassFile.FieldType.int) :: gw
theorem gi_JI_numberOfTrailingZeros : GoodIn gw w_JI_numberOfTrailingZeros := gw_in kw_513
abbrev b_JL_bitCount : ByteArray := prog_12_method_50_code
def y_JL_bitCount : MethodName := ⟨R_JL, "bitCount", "(J)I"⟩
def w_JL_bitCount : List Cond := .code y_JL_bitCount b_JL_bitCount 2 (Option.some Jvm.ClassFile.FieldType.int) :: gw
theorem gi_JL_bitCount : GoodIn gw w_JL_bitCount := gw_in kw_199
abbrev b_JL_numberOfLeadingZeros : ByteArray := prog_12_method_48_code
def y_JL_numberOfLeadingZeros : MethodName := ⟨R_JL, "numberOfLeadingZeros", "(J)I"⟩
def w_JL_numberOfLeadingZeros : List Cond := .code y_JL_numberOfLeadingZeros b_JL_numberOfLeadingZeros 3 (Option.some Jvm.ClassFile.FieldType.int) :: gw
theorem gi_JL_numberOfLeadingZeros : GoodIn gw w_JL_numberOfLeadingZeros := gw_in kw_126
abbrev b_JL_numberOfTrailingZeros : ByteArray := prog_12_method_49_code
def y_JL_numberOfTrailingZeros : MethodName := ⟨R_JL, "numberOfTrailingZeros", "(J)I"⟩
def w_JL_numberOfTrailingZeros : List Cond := .code y_JL_numberOfTrailingZeros b_JL_numberOfTrailingZeros 3 (Option.some Jvm.ClassFile.FieldType.int) :: gw
theorem gi_JL_numberOfTrailingZeros : GoodIn gw w_JL_numberOfTrailingZeros := gw_in kw_510
theorem ks_S_requireResidue : Cond.selects R_S y_S_requireResidue y_S_requireResidue ∈ gw := List.mem_filter.mpr ⟨List.mem_append_left _ (by decide +kernel), by decide +kernel⟩
theorem ks_S_requireNotNegative : Cond.selects R_S y_S_requireNotNegative y_S_requireNotNegative ∈ gw := List.mem_filter.mpr ⟨List.mem_append_left _ (by decide +kernel), by decide +kernel⟩
theorem ks_S_requirePatterns : Cond.selects R_S y_S_requirePatterns y_S_requirePatterns ∈ gw := List.mem_filter.mpr ⟨List.mem_append_left _ (by decide +kernel), by decide +kernel⟩
theorem ks_S_requireLine : Cond.selects R_S y_S_requireLine y_S_requireLine ∈ gw := List.mem_filter.mpr ⟨List.mem_append_left _ (by decide +kernel), by decide +kernel⟩
theorem ks_S_requireFault : Cond.selects R_S y_S_requireFault y_S_requireFault ∈ gw := List.mem_filter.mpr ⟨List.mem_append_left _ (by decide +kernel), by decide +kernel⟩
theorem ks_S_requireFaultOrNone : Cond.selects R_S y_S_requireFaultOrNone y_S_requireFaultOrNone ∈ gw := List.mem_filter.mpr ⟨List.mem_append_left _ (by decide +kernel), by decide +kernel⟩
theorem ks_S_patternOf : Cond.selects R_S y_S_patternOf y_S_patternOf ∈ gw := List.mem_filter.mpr ⟨List.mem_append_left _ (by decide +kernel), by decide +kernel⟩
theorem ks_S_compareAllFaults : Cond.selects R_S y_S_compareAllFaults y_S_compareAllFaults ∈ gw := List.mem_filter.mpr ⟨List.mem_append_left _ (by decide +kernel), by decide +kernel⟩
theorem ks_O_refused : Cond.selects R_O y_O_refused y_O_refused ∈ gw := List.mem_filter.mpr ⟨List.mem_append_left _ (by decide +kernel), by decide +kernel⟩
theorem ks_O_clearCircuit : Cond.selects R_O y_O_clearCircuit y_O_clearCircuit ∈ gw := List.mem_filter.mpr ⟨List.mem_append_left _ (by decide +kernel), by decide +kernel⟩
theorem ks_O_isResidue : Cond.selects R_O y_O_isResidue y_O_isResidue ∈ gw := List.mem_filter.mpr ⟨List.mem_append_left _ (by decide +kernel), by decide +kernel⟩
theorem ks_O_step : Cond.selects R_O y_O_step y_O_step ∈ gw := List.mem_filter.mpr ⟨List.mem_append_left _ (by decide +kernel), by decide +kernel⟩
theorem ks_O_product : Cond.selects R_O y_O_product y_O_product ∈ gw := List.mem_filter.mpr ⟨List.mem_append_left _ (by decide +kernel), by decide +kernel⟩
theorem ks_O_raised : Cond.selects R_O y_O_raised y_O_raised ∈ gw := List.mem_filter.mpr ⟨List.mem_append_left _ (by decide +kernel), by decide +kernel⟩
theorem ks_O_reduced : Cond.selects R_O y_O_reduced y_O_reduced ∈ gw := List.mem_filter.mpr ⟨List.mem_append_left _ (by decide +kernel), by decide +kernel⟩
theorem ks_O_isProduct : Cond.selects R_O y_O_isProduct y_O_isProduct ∈ gw := List.mem_filter.mpr ⟨List.mem_append_left _ (by decide +kernel), by decide +kernel⟩
theorem ks_O_patternOf : Cond.selects R_O y_O_patternOf y_O_patternOf ∈ gw := List.mem_filter.mpr ⟨List.mem_append_left _ (by decide +kernel), by decide +kernel⟩
theorem ks_O_isLine : Cond.selects R_O y_O_isLine y_O_isLine ∈ gw := List.mem_filter.mpr ⟨List.mem_append_left _ (by decide +kernel), by decide +kernel⟩
theorem ks_O_answerTo : Cond.selects R_O y_O_answerTo y_O_answerTo ∈ gw := List.mem_filter.mpr ⟨List.mem_append_left _ (by decide +kernel), by decide +kernel⟩
theorem ks_O_isFault : Cond.selects R_O y_O_isFault y_O_isFault ∈ gw := List.mem_filter.mpr ⟨List.mem_append_left _ (by decide +kernel), by decide +kernel⟩
theorem ks_O_prepare : Cond.selects R_O y_O_prepare y_O_prepare ∈ gw := List.mem_filter.mpr ⟨List.mem_append_left _ (by decide +kernel), by decide +kernel⟩
theorem ks_O_signature : Cond.selects R_O y_O_signature y_O_signature ∈ gw := List.mem_filter.mpr ⟨List.mem_append_left _ (by decide +kernel), by decide +kernel⟩
theorem ks_O_firstSeen : Cond.selects R_O y_O_firstSeen y_O_firstSeen ∈ gw := List.mem_filter.mpr ⟨List.mem_append_left _ (by decide +kernel), by decide +kernel⟩
theorem ks_C_restart : Cond.selects R_C y_C_restart y_C_restart ∈ gw := List.mem_filter.mpr ⟨List.mem_append_left _ (by decide +kernel), by decide +kernel⟩
theorem ks_C_countLines : Cond.selects R_C y_C_countLines y_C_countLines ∈ gw := List.mem_filter.mpr ⟨List.mem_append_left _ (by decide +kernel), by decide +kernel⟩
theorem ks_C_countFaults : Cond.selects R_C y_C_countFaults y_C_countFaults ∈ gw := List.mem_filter.mpr ⟨List.mem_append_left _ (by decide +kernel), by decide +kernel⟩
theorem ks_C_addGate : Cond.selects R_C y_C_addGate y_C_addGate ∈ gw := List.mem_filter.mpr ⟨List.mem_append_left _ (by decide +kernel), by decide +kernel⟩
theorem ks_C_addOutput : Cond.selects R_C y_C_addOutput y_C_addOutput ∈ gw := List.mem_filter.mpr ⟨List.mem_append_left _ (by decide +kernel), by decide +kernel⟩
theorem ks_C_answerTo : Cond.selects R_C y_C_answerTo y_C_answerTo ∈ gw := List.mem_filter.mpr ⟨List.mem_append_left _ (by decide +kernel), by decide +kernel⟩
theorem ks_C_valuesOfOutput : Cond.selects R_C y_C_valuesOfOutput y_C_valuesOfOutput ∈ gw := List.mem_filter.mpr ⟨List.mem_append_left _ (by decide +kernel), by decide +kernel⟩
theorem ks_C_settle : Cond.selects R_C y_C_settle y_C_settle ∈ gw := List.mem_filter.mpr ⟨List.mem_append_left _ (by decide +kernel), by decide +kernel⟩
theorem ks_C_valuesOfGate : Cond.selects R_C y_C_valuesOfGate y_C_valuesOfGate ∈ gw := List.mem_filter.mpr ⟨List.mem_append_left _ (by decide +kernel), by decide +kernel⟩
theorem ks_D_clear : Cond.selects R_D y_D_clear y_D_clear ∈ gw := List.mem_filter.mpr ⟨List.mem_append_left _ (by decide +kernel), by decide +kernel⟩
theorem ks_D_timesX : Cond.selects R_D y_D_timesX y_D_timesX ∈ gw := List.mem_filter.mpr ⟨List.mem_append_left _ (by decide +kernel), by decide +kernel⟩
theorem ks_D_addAnswers : Cond.selects R_D y_D_addAnswers y_D_addAnswers ∈ gw := List.mem_filter.mpr ⟨List.mem_append_left _ (by decide +kernel), by decide +kernel⟩
theorem ks_D_reduce : Cond.selects R_D y_D_reduce y_D_reduce ∈ gw := List.mem_filter.mpr ⟨List.mem_append_left _ (by decide +kernel), by decide +kernel⟩
theorem ks_D_subtract : Cond.selects R_D y_D_subtract y_D_subtract ∈ gw := List.mem_filter.mpr ⟨List.mem_append_left _ (by decide +kernel), by decide +kernel⟩
theorem ks_D_found : Cond.selects R_D y_D_found y_D_found ∈ gw := List.mem_filter.mpr ⟨List.mem_append_left _ (by decide +kernel), by decide +kernel⟩
theorem ks_M_become : Cond.selects R_M y_M_become y_M_become ∈ gw := List.mem_filter.mpr ⟨List.mem_append_left _ (by decide +kernel), by decide +kernel⟩
theorem ks_M_hasResidue : Cond.selects R_M y_M_hasResidue y_M_hasResidue ∈ gw := List.mem_filter.mpr ⟨List.mem_append_left _ (by decide +kernel), by decide +kernel⟩
theorem ks_M_reduced : Cond.selects R_M y_M_reduced y_M_reduced ∈ gw := List.mem_filter.mpr ⟨List.mem_append_left _ (by decide +kernel), by decide +kernel⟩
theorem ks_M_stepped : Cond.selects R_M y_M_stepped y_M_stepped ∈ gw := List.mem_filter.mpr ⟨List.mem_append_left _ (by decide +kernel), by decide +kernel⟩
theorem ks_M_product : Cond.selects R_M y_M_product y_M_product ∈ gw := List.mem_filter.mpr ⟨List.mem_append_left _ (by decide +kernel), by decide +kernel⟩
theorem ks_M_raised : Cond.selects R_M y_M_raised y_M_raised ∈ gw := List.mem_filter.mpr ⟨List.mem_append_left _ (by decide +kernel), by decide +kernel⟩
theorem ks_M_isIrreducible : Cond.selects R_M y_M_isIrreducible y_M_isIrreducible ∈ gw := List.mem_filter.mpr ⟨List.mem_append_left _ (by decide +kernel), by decide +kernel⟩
theorem ks_M_isPrimitive : Cond.selects R_M y_M_isPrimitive y_M_isPrimitive ∈ gw := List.mem_filter.mpr ⟨List.mem_append_left _ (by decide +kernel), by decide +kernel⟩
theorem ks_M_multipleOfOrder : Cond.selects R_M y_M_multipleOfOrder y_M_multipleOfOrder ∈ gw := List.mem_filter.mpr ⟨List.mem_append_left _ (by decide +kernel), by decide +kernel⟩
theorem ks_M_orderWithin : Cond.selects R_M y_M_orderWithin y_M_orderWithin ∈ gw := List.mem_filter.mpr ⟨List.mem_append_left _ (by decide +kernel), by decide +kernel⟩
theorem ks_M_withoutNeedless : Cond.selects R_M y_M_withoutNeedless y_M_withoutNeedless ∈ gw := List.mem_filter.mpr ⟨List.mem_append_left _ (by decide +kernel), by decide +kernel⟩
