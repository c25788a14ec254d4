section
-- ===== PART A: goes FIRST, ahead of the names: the tables' words, and 'selects' of the private methods out of them =====
/-- a private method of a class that the tables say can be made, by its rows of tables_1 -/
def lw_okq (q : MethodName × Nat) : Prop := (q.1.cls ≠ "java/lang/invoke/MethodHandle" ∧ q.1.cls ≠ "java/lang/invoke/VarHandle") ∧ Cond.instantiable q.1.cls q.2 ∈ tables_1 ∧ Cond.privateMethod q.1 ∈ tables_1 ∧ Cond.instanceMethod q.1 ∈ tables_1
theorem lw_p0 : lw_okq (⟨"ShiftSignatures$Modulus", "reduced", "(J)J"⟩, 3) := ⟨⟨by decide +kernel, by decide +kernel⟩, List.mem_of_getElem? (i := 23) (by decide +kernel), List.mem_of_getElem? (i := 115) (by decide +kernel), List.mem_of_getElem? (i := 116) (by decide +kernel)⟩
theorem lw_p1 : lw_okq (⟨"ShiftSignatures$Modulus", "isIrreducible", "()Z"⟩, 3) := ⟨⟨by decide +kernel, by decide +kernel⟩, List.mem_of_getElem? (i := 23) (by decide +kernel), List.mem_of_getElem? (i := 136) (by decide +kernel), List.mem_of_getElem? (i := 137) (by decide +kernel)⟩
theorem lw_p2 : lw_okq (⟨"ShiftSignatures$Modulus", "product", "(JJ)J"⟩, 3) := ⟨⟨by decide +kernel, by decide +kernel⟩, List.mem_of_getElem? (i := 23) (by decide +kernel), List.mem_of_getElem? (i := 140) (by decide +kernel), List.mem_of_getElem? (i := 141) (by decide +kernel)⟩
theorem lw_p3 : lw_okq (⟨"ShiftSignatures$Modulus", "stepped", "(J)J"⟩, 3) := ⟨⟨by decide +kernel, by decide +kernel⟩, List.mem_of_getElem? (i := 23) (by decide +kernel), List.mem_of_getElem? (i := 144) (by decide +kernel), List.mem_of_getElem? (i := 145) (by decide +kernel)⟩
theorem lw_p4 : lw_okq (⟨"ShiftSignatures$Modulus", "isPrimitive", "()Z"⟩, 3) := ⟨⟨by decide +kernel, by decide +kernel⟩, List.mem_of_getElem? (i := 23) (by decide +kernel), List.mem_of_getElem? (i := 155) (by decide +kernel), List.mem_of_getElem? (i := 156) (by decide +kernel)⟩
theorem lw_p5 : lw_okq (⟨"ShiftSignatures$Modulus", "raised", "(JJ)J"⟩, 3) := ⟨⟨by decide +kernel, by decide +kernel⟩, List.mem_of_getElem? (i := 23) (by decide +kernel), List.mem_of_getElem? (i := 159) (by decide +kernel), List.mem_of_getElem? (i := 160) (by decide +kernel)⟩
theorem lw_p6 : lw_okq (⟨"ShiftSignatures$Modulus", "orderWithin", "(J)J"⟩, 3) := ⟨⟨by decide +kernel, by decide +kernel⟩, List.mem_of_getElem? (i := 23) (by decide +kernel), List.mem_of_getElem? (i := 163) (by decide +kernel), List.mem_of_getElem? (i := 164) (by decide +kernel)⟩
theorem lw_p7 : lw_okq (⟨"ShiftSignatures$Modulus", "withoutNeedless", "(JJ)J"⟩, 3) := ⟨⟨by decide +kernel, by decide +kernel⟩, List.mem_of_getElem? (i := 23) (by decide +kernel), List.mem_of_getElem? (i := 169) (by decide +kernel), List.mem_of_getElem? (i := 170) (by decide +kernel)⟩
theorem lw_p8 : lw_okq (⟨"ShiftSignatures$Modulus", "multipleOfOrder", "()J"⟩, 3) := ⟨⟨by decide +kernel, by decide +kernel⟩, List.mem_of_getElem? (i := 23) (by decide +kernel), List.mem_of_getElem? (i := 178) (by decide +kernel), List.mem_of_getElem? (i := 179) (by decide +kernel)⟩
theorem lw_p9 : lw_okq (⟨"ShiftSignatures", "patternOf", "(J)I"⟩, 5) := ⟨⟨by decide +kernel, by decide +kernel⟩, List.mem_of_getElem? (i := 15) (by decide +kernel), List.mem_of_getElem? (i := 194) (by decide +kernel), List.mem_of_getElem? (i := 195) (by decide +kernel)⟩
theorem lw_p10 : lw_okq (⟨"java/lang/Throwable", "fillInStackTrace", "(I)Ljava/lang/Throwable;"⟩, 6) := ⟨⟨by decide +kernel, by decide +kernel⟩, List.mem_of_getElem? (i := 251) (by decide +kernel), List.mem_of_getElem? (i := 249) (by decide +kernel), List.mem_of_getElem? (i := 250) (by decide +kernel)⟩
theorem lw_p11 : lw_okq (⟨"ShiftSignatures$Modulus", "become", "(J)V"⟩, 3) := ⟨⟨by decide +kernel, by decide +kernel⟩, List.mem_of_getElem? (i := 23) (by decide +kernel), List.mem_of_getElem? (i := 281) (by decide +kernel), List.mem_of_getElem? (i := 282) (by decide +kernel)⟩
theorem lw_p12 : lw_okq (⟨"ShiftSignatures$Circuit", "restart", "(I)V"⟩, 8) := ⟨⟨by decide +kernel, by decide +kernel⟩, List.mem_of_getElem? (i := 44) (by decide +kernel), List.mem_of_getElem? (i := 287) (by decide +kernel), List.mem_of_getElem? (i := 288) (by decide +kernel)⟩
theorem lw_p13 : lw_okq (⟨"ShiftSignatures", "requireResidue", "(J)V"⟩, 5) := ⟨⟨by decide +kernel, by decide +kernel⟩, List.mem_of_getElem? (i := 15) (by decide +kernel), List.mem_of_getElem? (i := 298) (by decide +kernel), List.mem_of_getElem? (i := 299) (by decide +kernel)⟩
theorem lw_p14 : lw_okq (⟨"ShiftSignatures$Modulus", "hasResidue", "(J)Z"⟩, 3) := ⟨⟨by decide +kernel, by decide +kernel⟩, List.mem_of_getElem? (i := 23) (by decide +kernel), List.mem_of_getElem? (i := 302) (by decide +kernel), List.mem_of_getElem? (i := 303) (by decide +kernel)⟩
theorem lw_p15 : lw_okq (⟨"ShiftSignatures", "requireNotNegative", "(J)V"⟩, 5) := ⟨⟨by decide +kernel, by decide +kernel⟩, List.mem_of_getElem? (i := 15) (by decide +kernel), List.mem_of_getElem? (i := 315) (by decide +kernel), List.mem_of_getElem? (i := 316) (by decide +kernel)⟩
def lw_privs_1 : List (MethodName × Nat) := [(⟨"ShiftSignatures$Modulus", "reduced", "(J)J"⟩, 3), (⟨"ShiftSignatures$Modulus", "isIrreducible", "()Z"⟩, 3), (⟨"ShiftSignatures$Modulus", "product", "(JJ)J"⟩, 3), (⟨"ShiftSignatures$Modulus", "stepped", "(J)J"⟩, 3), (⟨"ShiftSignatures$Modulus", "isPrimitive", "()Z"⟩, 3), (⟨"ShiftSignatures$Modulus", "raised", "(JJ)J"⟩, 3), (⟨"ShiftSignatures$Modulus", "orderWithin", "(J)J"⟩, 3), (⟨"ShiftSignatures$Modulus", "withoutNeedless", "(JJ)J"⟩, 3), (⟨"ShiftSignatures$Modulus", "multipleOfOrder", "()J"⟩, 3), (⟨"ShiftSignatures", "patternOf", "(J)I"⟩, 5), (⟨"java/lang/Throwable", "fillInStackTrace", "(I)Ljava/lang/Throwable;"⟩, 6), (⟨"ShiftSignatures$Modulus", "become", "(J)V"⟩, 3), (⟨"ShiftSignatures$Circuit", "restart", "(I)V"⟩, 8), (⟨"ShiftSignatures", "requireResidue", "(J)V"⟩, 5), (⟨"ShiftSignatures$Modulus", "hasResidue", "(J)Z"⟩, 3), (⟨"ShiftSignatures", "requireNotNegative", "(J)V"⟩, 5)]
theorem lw_r1 : ∀ q ∈ lw_privs_1, lw_okq q := List.forall_mem_cons.mpr ⟨lw_p0, List.forall_mem_cons.mpr ⟨lw_p1, List.forall_mem_cons.mpr ⟨lw_p2, List.forall_mem_cons.mpr ⟨lw_p3, List.forall_mem_cons.mpr ⟨lw_p4, List.forall_mem_cons.mpr ⟨lw_p5, List.forall_mem_cons.mpr ⟨lw_p6, List.forall_mem_cons.mpr ⟨lw_p7, List.forall_mem_cons.mpr ⟨lw_p8, List.forall_mem_cons.mpr ⟨lw_p9, List.forall_mem_cons.mpr ⟨lw_p10, List.forall_mem_cons.mpr ⟨lw_p11, List.forall_mem_cons.mpr ⟨lw_p12, List.forall_mem_cons.mpr ⟨lw_p13, List.forall_mem_cons.mpr ⟨lw_p14, List.forall_mem_cons.mpr ⟨lw_p15, fun _ h => absurd h List.not_mem_nil⟩⟩⟩⟩⟩⟩⟩⟩⟩⟩⟩⟩⟩⟩⟩⟩
theorem lw_p16 : lw_okq (⟨"ShiftSignatures", "requireLine", "(I)V"⟩, 5) := ⟨⟨by decide +kernel, by decide +kernel⟩, List.mem_of_getElem? (i := 15) (by decide +kernel), List.mem_of_getElem? (i := 368) (by decide +kernel), List.mem_of_getElem? (i := 369) (by decide +kernel)⟩
theorem lw_p17 : lw_okq (⟨"ShiftSignatures$Circuit", "countLines", "()I"⟩, 8) := ⟨⟨by decide +kernel, by decide +kernel⟩, List.mem_of_getElem? (i := 44) (by decide +kernel), List.mem_of_getElem? (i := 372) (by decide +kernel), List.mem_of_getElem? (i := 373) (by decide +kernel)⟩
theorem lw_p18 : lw_okq (⟨"ShiftSignatures$Circuit", "addGate", "(III)I"⟩, 8) := ⟨⟨by decide +kernel, by decide +kernel⟩, List.mem_of_getElem? (i := 44) (by decide +kernel), List.mem_of_getElem? (i := 393) (by decide +kernel), List.mem_of_getElem? (i := 394) (by decide +kernel)⟩
theorem lw_p19 : lw_okq (⟨"ShiftSignatures$Circuit", "addOutput", "(I)I"⟩, 8) := ⟨⟨by decide +kernel, by decide +kernel⟩, List.mem_of_getElem? (i := 44) (by decide +kernel), List.mem_of_getElem? (i := 406) (by decide +kernel), List.mem_of_getElem? (i := 407) (by decide +kernel)⟩
theorem lw_p20 : lw_okq (⟨"ShiftSignatures", "requireFaultOrNone", "(I)V"⟩, 5) := ⟨⟨by decide +kernel, by decide +kernel⟩, List.mem_of_getElem? (i := 15) (by decide +kernel), List.mem_of_getElem? (i := 417) (by decide +kernel), List.mem_of_getElem? (i := 418) (by decide +kernel)⟩
theorem lw_p21 : lw_okq (⟨"ShiftSignatures", "requireFault", "(I)V"⟩, 5) := ⟨⟨by decide +kernel, by decide +kernel⟩, List.mem_of_getElem? (i := 15) (by decide +kernel), List.mem_of_getElem? (i := 421) (by decide +kernel), List.mem_of_getElem? (i := 422) (by decide +kernel)⟩
theorem lw_p22 : lw_okq (⟨"ShiftSignatures$Circuit", "countFaults", "()I"⟩, 8) := ⟨⟨by decide +kernel, by decide +kernel⟩, List.mem_of_getElem? (i := 44) (by decide +kernel), List.mem_of_getElem? (i := 425) (by decide +kernel), List.mem_of_getElem? (i := 426) (by decide +kernel)⟩
theorem lw_p23 : lw_okq (⟨"ShiftSignatures$Circuit", "answerTo", "(II)I"⟩, 8) := ⟨⟨by decide +kernel, by decide +kernel⟩, List.mem_of_getElem? (i := 44) (by decide +kernel), List.mem_of_getElem? (i := 430) (by decide +kernel), List.mem_of_getElem? (i := 431) (by decide +kernel)⟩
theorem lw_p24 : lw_okq (⟨"ShiftSignatures$Circuit", "settle", "(IZ)V"⟩, 8) := ⟨⟨by decide +kernel, by decide +kernel⟩, List.mem_of_getElem? (i := 44) (by decide +kernel), List.mem_of_getElem? (i := 434) (by decide +kernel), List.mem_of_getElem? (i := 435) (by decide +kernel)⟩
theorem lw_p25 : lw_okq (⟨"ShiftSignatures$Circuit", "valuesOfGate", "(I)J"⟩, 8) := ⟨⟨by decide +kernel, by decide +kernel⟩, List.mem_of_getElem? (i := 44) (by decide +kernel), List.mem_of_getElem? (i := 441) (by decide +kernel), List.mem_of_getElem? (i := 442) (by decide +kernel)⟩
theorem lw_p26 : lw_okq (⟨"ShiftSignatures$Circuit", "valuesOfOutput", "(I)J"⟩, 8) := ⟨⟨by decide +kernel, by decide +kernel⟩, List.mem_of_getElem? (i := 44) (by decide +kernel), List.mem_of_getElem? (i := 449) (by decide +kernel), List.mem_of_getElem? (i := 450) (by decide +kernel)⟩
theorem lw_p27 : lw_okq (⟨"ShiftSignatures", "requirePatterns", "(I)V"⟩, 5) := ⟨⟨by decide +kernel, by decide +kernel⟩, List.mem_of_getElem? (i := 15) (by decide +kernel), List.mem_of_getElem? (i := 460) (by decide +kernel), List.mem_of_getElem? (i := 461) (by decide +kernel)⟩
theorem lw_p28 : lw_okq (⟨"ShiftSignatures", "compareAllFaults", "(I)V"⟩, 5) := ⟨⟨by decide +kernel, by decide +kernel⟩, List.mem_of_getElem? (i := 15) (by decide +kernel), List.mem_of_getElem? (i := 474) (by decide +kernel), List.mem_of_getElem? (i := 475) (by decide +kernel)⟩
theorem lw_p29 : lw_okq (⟨"ShiftSignatures$Differences", "clear", "()V"⟩, 2) := ⟨⟨by decide +kernel, by decide +kernel⟩, List.mem_of_getElem? (i := 81) (by decide +kernel), List.mem_of_getElem? (i := 478) (by decide +kernel), List.mem_of_getElem? (i := 479) (by decide +kernel)⟩
theorem lw_p30 : lw_okq (⟨"ShiftSignatures$Differences", "timesX", "()V"⟩, 2) := ⟨⟨by decide +kernel, by decide +kernel⟩, List.mem_of_getElem? (i := 81) (by decide +kernel), List.mem_of_getElem? (i := 482) (by decide +kernel), List.mem_of_getElem? (i := 483) (by decide +kernel)⟩
theorem lw_p31 : lw_okq (⟨"ShiftSignatures$Differences", "addAnswers", "(LShiftSignatures$Circuit;I)V"⟩, 2) := ⟨⟨by decide +kernel, by decide +kernel⟩, List.mem_of_getElem? (i := 81) (by decide +kernel), List.mem_of_getElem? (i := 486) (by decide +kernel), List.mem_of_getElem? (i := 487) (by decide +kernel)⟩
def lw_privs_2 : List (MethodName × Nat) := [(⟨"ShiftSignatures", "requireLine", "(I)V"⟩, 5), (⟨"ShiftSignatures$Circuit", "countLines", "()I"⟩, 8), (⟨"ShiftSignatures$Circuit", "addGate", "(III)I"⟩, 8), (⟨"ShiftSignatures$Circuit", "addOutput", "(I)I"⟩, 8), (⟨"ShiftSignatures", "requireFaultOrNone", "(I)V"⟩, 5), (⟨"ShiftSignatures", "requireFault", "(I)V"⟩, 5), (⟨"ShiftSignatures$Circuit", "countFaults", "()I"⟩, 8), (⟨"ShiftSignatures$Circuit", "answerTo", "(II)I"⟩, 8), (⟨"ShiftSignatures$Circuit", "settle", "(IZ)V"⟩, 8), (⟨"ShiftSignatures$Circuit", "valuesOfGate", "(I)J"⟩, 8), (⟨"ShiftSignatures$Circuit", "valuesOfOutput", "(I)J"⟩, 8), (⟨"ShiftSignatures", "requirePatterns", "(I)V"⟩, 5), (⟨"ShiftSignatures", "compareAllFaults", "(I)V"⟩, 5), (⟨"ShiftSignatures$Differences", "clear", "()V"⟩, 2), (⟨"ShiftSignatures$Differences", "timesX", "()V"⟩, 2), (⟨"ShiftSignatures$Differences", "addAnswers", "(LShiftSignatures$Circuit;I)V"⟩, 2)]
theorem lw_r2 : ∀ q ∈ lw_privs_2, lw_okq q := List.forall_mem_cons.mpr ⟨lw_p16, List.forall_mem_cons.mpr ⟨lw_p17, List.forall_mem_cons.mpr ⟨lw_p18, List.forall_mem_cons.mpr ⟨lw_p19, List.forall_mem_cons.mpr ⟨lw_p20, List.forall_mem_cons.mpr ⟨lw_p21, List.forall_mem_cons.mpr ⟨lw_p22, List.forall_mem_cons.mpr ⟨lw_p23, List.forall_mem_cons.mpr ⟨lw_p24, List.forall_mem_cons.mpr ⟨lw_p25, List.forall_mem_cons.mpr ⟨lw_p26, List.forall_mem_cons.mpr ⟨lw_p27, List.forall_mem_cons.mpr ⟨lw_p28, List.forall_mem_cons.mpr ⟨lw_p29, List.forall_mem_cons.mpr ⟨lw_p30, List.forall_mem_cons.mpr ⟨lw_p31, fun _ h => absurd h List.not_mem_nil⟩⟩⟩⟩⟩⟩⟩⟩⟩⟩⟩⟩⟩⟩⟩⟩
theorem lw_p32 : lw_okq (⟨"ShiftSignatures$Differences", "reduce", "(LShiftSignatures$Modulus;)V"⟩, 2) := ⟨⟨by decide +kernel, by decide +kernel⟩, List.mem_of_getElem? (i := 81) (by decide +kernel), List.mem_of_getElem? (i := 494) (by decide +kernel), List.mem_of_getElem? (i := 495) (by decide +kernel)⟩
theorem lw_p33 : lw_okq (⟨"ShiftSignatures$Differences", "subtract", "(JJI)V"⟩, 2) := ⟨⟨by decide +kernel, by decide +kernel⟩, List.mem_of_getElem? (i := 81) (by decide +kernel), List.mem_of_getElem? (i := 498) (by decide +kernel), List.mem_of_getElem? (i := 499) (by decide +kernel)⟩
theorem lw_p34 : lw_okq (⟨"ShiftSignatures$Differences", "found", "()J"⟩, 2) := ⟨⟨by decide +kernel, by decide +kernel⟩, List.mem_of_getElem? (i := 81) (by decide +kernel), List.mem_of_getElem? (i := 502) (by decide +kernel), List.mem_of_getElem? (i := 503) (by decide +kernel)⟩
theorem lw_p35 : lw_okq (⟨"ShiftSignaturesModel", "refused", "(I)Z"⟩, 17) := ⟨⟨by decide +kernel, by decide +kernel⟩, List.mem_of_getElem? (i := 522) (by decide +kernel), List.mem_of_getElem? (i := 589) (by decide +kernel), List.mem_of_getElem? (i := 590) (by decide +kernel)⟩
theorem lw_p36 : lw_okq (⟨"ShiftSignaturesModel", "clearCircuit", "()V"⟩, 17) := ⟨⟨by decide +kernel, by decide +kernel⟩, List.mem_of_getElem? (i := 522) (by decide +kernel), List.mem_of_getElem? (i := 593) (by decide +kernel), List.mem_of_getElem? (i := 594) (by decide +kernel)⟩
theorem lw_p37 : lw_okq (⟨"ShiftSignaturesModel", "isResidue", "(J)Z"⟩, 17) := ⟨⟨by decide +kernel, by decide +kernel⟩, List.mem_of_getElem? (i := 522) (by decide +kernel), List.mem_of_getElem? (i := 601) (by decide +kernel), List.mem_of_getElem? (i := 602) (by decide +kernel)⟩
theorem lw_p38 : lw_okq (⟨"ShiftSignaturesModel", "product", "(JJ)J"⟩, 17) := ⟨⟨by decide +kernel, by decide +kernel⟩, List.mem_of_getElem? (i := 522) (by decide +kernel), List.mem_of_getElem? (i := 605) (by decide +kernel), List.mem_of_getElem? (i := 606) (by decide +kernel)⟩
theorem lw_p39 : lw_okq (⟨"ShiftSignaturesModel", "step", "(J)J"⟩, 17) := ⟨⟨by decide +kernel, by decide +kernel⟩, List.mem_of_getElem? (i := 522) (by decide +kernel), List.mem_of_getElem? (i := 609) (by decide +kernel), List.mem_of_getElem? (i := 610) (by decide +kernel)⟩
theorem lw_p40 : lw_okq (⟨"ShiftSignaturesModel", "raised", "(JJ)J"⟩, 17) := ⟨⟨by decide +kernel, by decide +kernel⟩, List.mem_of_getElem? (i := 522) (by decide +kernel), List.mem_of_getElem? (i := 618) (by decide +kernel), List.mem_of_getElem? (i := 619) (by decide +kernel)⟩
theorem lw_p41 : lw_okq (⟨"ShiftSignaturesModel", "reduced", "(J)J"⟩, 17) := ⟨⟨by decide +kernel, by decide +kernel⟩, List.mem_of_getElem? (i := 522) (by decide +kernel), List.mem_of_getElem? (i := 622) (by decide +kernel), List.mem_of_getElem? (i := 623) (by decide +kernel)⟩
theorem lw_p42 : lw_okq (⟨"ShiftSignaturesModel", "isProduct", "()Z"⟩, 17) := ⟨⟨by decide +kernel, by decide +kernel⟩, List.mem_of_getElem? (i := 522) (by decide +kernel), List.mem_of_getElem? (i := 637) (by decide +kernel), List.mem_of_getElem? (i := 638) (by decide +kernel)⟩
theorem lw_p43 : lw_okq (⟨"ShiftSignaturesModel", "patternOf", "(J)I"⟩, 17) := ⟨⟨by decide +kernel, by decide +kernel⟩, List.mem_of_getElem? (i := 522) (by decide +kernel), List.mem_of_getElem? (i := 666) (by decide +kernel), List.mem_of_getElem? (i := 667) (by decide +kernel)⟩
theorem lw_p44 : lw_okq (⟨"ShiftSignaturesModel", "isLine", "(I)Z"⟩, 17) := ⟨⟨by decide +kernel, by decide +kernel⟩, List.mem_of_getElem? (i := 522) (by decide +kernel), List.mem_of_getElem? (i := 674) (by decide +kernel), List.mem_of_getElem? (i := 675) (by decide +kernel)⟩
theorem lw_p45 : lw_okq (⟨"ShiftSignaturesModel", "isFault", "(I)Z"⟩, 17) := ⟨⟨by decide +kernel, by decide +kernel⟩, List.mem_of_getElem? (i := 522) (by decide +kernel), List.mem_of_getElem? (i := 686) (by decide +kernel), List.mem_of_getElem? (i := 687) (by decide +kernel)⟩
theorem lw_p46 : lw_okq (⟨"ShiftSignaturesModel", "answerTo", "(II)I"⟩, 17) := ⟨⟨by decide +kernel, by decide +kernel⟩, List.mem_of_getElem? (i := 522) (by decide +kernel), List.mem_of_getElem? (i := 690) (by decide +kernel), List.mem_of_getElem? (i := 691) (by decide +kernel)⟩
theorem lw_p47 : lw_okq (⟨"ShiftSignaturesModel", "prepare", "(I)V"⟩, 17) := ⟨⟨by decide +kernel, by decide +kernel⟩, List.mem_of_getElem? (i := 522) (by decide +kernel), List.mem_of_getElem? (i := 704) (by decide +kernel), List.mem_of_getElem? (i := 705) (by decide +kernel)⟩
def lw_privs_3 : List (MethodName × Nat) := [(⟨"ShiftSignatures$Differences", "reduce", "(LShiftSignatures$Modulus;)V"⟩, 2), (⟨"ShiftSignatures$Differences", "subtract", "(JJI)V"⟩, 2), (⟨"ShiftSignatures$Differences", "found", "()J"⟩, 2), (⟨"ShiftSignaturesModel", "refused", "(I)Z"⟩, 17), (⟨"ShiftSignaturesModel", "clearCircuit", "()V"⟩, 17), (⟨"ShiftSignaturesModel", "isResidue", "(J)Z"⟩, 17), (⟨"ShiftSignaturesModel", "product", "(JJ)J"⟩, 17), (⟨"ShiftSignaturesModel", "step", "(J)J"⟩, 17), (⟨"ShiftSignaturesModel", "raised", "(JJ)J"⟩, 17), (⟨"ShiftSignaturesModel", "reduced", "(J)J"⟩, 17), (⟨"ShiftSignaturesModel", "isProduct", "()Z"⟩, 17), (⟨"ShiftSignaturesModel", "patternOf", "(J)I"⟩, 17), (⟨"ShiftSignaturesModel", "isLine", "(I)Z"⟩, 17), (⟨"ShiftSignaturesModel", "isFault", "(I)Z"⟩, 17), (⟨"ShiftSignaturesModel", "answerTo", "(II)I"⟩, 17), (⟨"ShiftSignaturesModel", "prepare", "(I)V"⟩, 17)]
theorem lw_r3 : ∀ q ∈ lw_privs_3, lw_okq q := List.forall_mem_cons.mpr ⟨lw_p32, List.forall_mem_cons.mpr ⟨lw_p33, List.forall_mem_cons.mpr ⟨lw_p34, List.forall_mem_cons.mpr ⟨lw_p35, List.forall_mem_cons.mpr ⟨lw_p36, List.forall_mem_cons.mpr ⟨lw_p37, List.forall_mem_cons.mpr ⟨lw_p38, List.forall_mem_cons.mpr ⟨lw_p39, List.forall_mem_cons.mpr ⟨lw_p40, List.forall_mem_cons.mpr ⟨lw_p41, List.forall_mem_cons.mpr ⟨lw_p42, List.forall_mem_cons.mpr ⟨lw_p43, List.forall_mem_cons.mpr ⟨lw_p44, List.forall_mem_cons.mpr ⟨lw_p45, List.forall_mem_cons.mpr ⟨lw_p46, List.forall_mem_cons.mpr ⟨lw_p47, fun _ h => absurd h List.not_mem_nil⟩⟩⟩⟩⟩⟩⟩⟩⟩⟩⟩⟩⟩⟩⟩⟩
theorem lw_p48 : lw_okq (⟨"ShiftSignaturesModel", "signature", "(II)J"⟩, 17) := ⟨⟨by decide +kernel, by decide +kernel⟩, List.mem_of_getElem? (i := 522) (by decide +kernel), List.mem_of_getElem? (i := 708) (by decide +kernel), List.mem_of_getElem? (i := 709) (by decide +kernel)⟩
theorem lw_p49 : lw_okq (⟨"ShiftSignaturesModel", "firstSeen", "(II)I"⟩, 17) := ⟨⟨by decide +kernel, by decide +kernel⟩, List.mem_of_getElem? (i := 522) (by decide +kernel), List.mem_of_getElem? (i := 716) (by decide +kernel), List.mem_of_getElem? (i := 717) (by decide +kernel)⟩
def lw_privs_4 : List (MethodName × Nat) := [(⟨"ShiftSignaturesModel", "signature", "(II)J"⟩, 17), (⟨"ShiftSignaturesModel", "firstSeen", "(II)I"⟩, 17)]
theorem lw_r4 : ∀ q ∈ lw_privs_4, lw_okq q := List.forall_mem_cons.mpr ⟨lw_p48, List.forall_mem_cons.mpr ⟨lw_p49, fun _ h => absurd h List.not_mem_nil⟩⟩
def lw_privs : List (MethodName × Nat) := lw_privs_1 ++ (lw_privs_2 ++ (lw_privs_3 ++ (lw_privs_4)))
def lw_tbl : List Cond := k2_sels lw_privs ++ tables_1
theorem lw_privs_ok : ∀ q ∈ lw_privs, lw_okq q := by
  show ∀ q ∈ lw_privs_1 ++ (lw_privs_2 ++ (lw_privs_3 ++ (lw_privs_4))), lw_okq q
  exact List.forall_mem_append.mpr ⟨lw_r1, List.forall_mem_append.mpr ⟨lw_r2, List.forall_mem_append.mpr ⟨lw_r3, lw_r4⟩⟩⟩
end
section
/-! ===== BEGIN words of one list among another's, by their places ===== -/
theorem goodIn_r {big : List Cond} (ws : List Cond) (ps : List Nat) (hp : ws = ps.filterMap (fun i => big[i]?)) (h : ws.all goodWord = true) : GoodIn big ws := by
  intro w hw
  have h1 := List.all_eq_true.mp h w hw
  rw [hp] at hw
  obtain ⟨i, -, hi⟩ := List.mem_filterMap.mp hw
  have hm : w ∈ big := by first | exact List.mem_of_getElem? hi | exact List.getElem?_mem hi
  exact ⟨hm, good_of_word h1⟩
theorem goodIn_app {big a b : List Cond} (ha : GoodIn big a) (hb : GoodIn big b) : GoodIn big (a ++ b) := fun w h => (List.mem_append.mp h).elim (ha w) (hb w)
theorem goodIn_ca {big a b : List Cond} {c : Cond} (ha : GoodIn big (c :: a)) (hb : GoodIn big b) : GoodIn big (c :: (a ++ b)) := fun w h => (List.mem_cons.mp h).elim (fun e => ha w (List.mem_cons.mpr (Or.inl e))) (fun h => (List.mem_append.mp h).elim (fun h => ha w (List.mem_cons.mpr (Or.inr h))) (hb w))
theorem goodIn_sub {big ws : List Cond} (hm : ∀ w ∈ ws, w ∈ big) (h : ws.all goodWord = true) : GoodIn big ws := fun w hw => ⟨hm w hw, good_of_word (List.all_eq_true.mp h w hw)⟩
/-! ===== END ===== -/

/-! ===== BEGIN exceptions that leave a method, and their catching by the caller (launches without stack traces) ===== -/
section VXA
/-! The laws vx_back, vx_callV, vx_callS, vx_callSW, vx_throw0, vx_throwS follow proofs of the library, with one case more: JvmDerived/Free/Laws.lean (Back.of_free), Shelf42/LK1.lean (callV, callS), Shelf/KitTraced.lean (throwNew0V, throwNewS). -/
/-- where a method has thrown q: the class by its name, the cell, what was written, the world -/
def vx_T (XC : String → State → State → Prop) (st : State) (q : Addr) (t : State) (mc ms : Nat) (free : Addr → Prop) : Prop :=
  ∃ (E : String) (ce : Cell) (L : List Loc), XC E st t ∧ t.heap[q]? = some ce ∧ ce.vm = .none ∧ st.vm.findClass E = some ce.cls ∧ st.WarmedH t.vm ∧ st.sameButNew ({ t with vm := st.vm } : State) L mc ms ∧ ∀ z ∈ L, free z.base
def vx_Q (Qc : Array Value → State → Outcome → State → Prop) (XC : String → State → State → Prop) (mc ms : Nat) (free : Addr → Prop) : Array Value → State → Outcome → State → Prop := fun a st o t =>
  (Qc a st o t ∧ ∃ L, FrameEnd st o t L mc ms ∧ ∀ q ∈ L, free q.base) ∨ ∃ q, o = .threw q ∧ vx_T XC st q t mc ms free
/-- a callee that returns or throws -/
def vx_Met (l : Launch) (y : MethodName) (ws : List Cond) (rm : Room) (Pc : Array Value → State → Prop) (Qc : Array Value → State → Outcome → State → Prop) (XC : String → State → State → Prop) (mc ms : Nat) (free : Addr → Prop) : Prop :=
  MetFree l y (headSpec ws rm) Pc (fun _ _ _ _ _ => True) (vx_Q Qc XC mc ms free)
def vx_Post (XC : String → State → State → Prop) (mc ms : Nat) (free : Addr → Prop) : Pt → Array Value → Addr → Pt → Prop := fun A a q B =>
  ∃ (g : JFrame) (mk : MethodId) (t : State) (L : List Loc) (E : String) (ce : Cell), B.U.heap = t.heap ∧ B.U.vm = t.vm ∧ XC E (A.U.calling g mk a) t ∧ t.heap[q]? = some ce ∧ ce.vm = .none ∧ A.U.vm.findClass E = some ce.cls ∧ B.locs = A.locs ++ L ∧ (∀ z ∈ L, free z.base) ∧ B.cells = A.cells + mc ∧ B.slots = A.slots + ms
def vx_Back (l : Launch) (R : Room) (p : Program) (e : Env) (below : List Frame) (s : State) (sargs : Array Value) (y : MethodName) (len W9 : Nat)
    (Pre : Pt → Array Value → Prop) (Post : Pt → Array Value → Option Value → Pt → Prop) (PostX : Pt → Array Value → Addr → Pt → Prop) : Prop :=
  ∀ (m : MethodId) (meth : Method) (c : Code) (A : Pt) (g : JFrame) (ig : Instr) (mk : MethodId) (a : Array Value),
    Stand p l e R s m sargs below meth c A.U A.locs A.cells A.slots → g.method = m → g.locals.size = c.maxLocals → decode c.code g.pc = .ok (ig, len) →
    2 * g.monitorRoom + (g.stack.map fun v => v.category).sum ≤ W9 → A.U.methodNamed? y = some mk → Pre A a →
    (∃ (v : Option Value) (B : Pt), Stand p l e R s m sargs below meth c B.U B.locs B.cells B.slots ∧ Post A a v B ∧
      Steps p.tables e below (doInvoke e (A.U.setTop g) [] mk a).1 (B.U.setTop { g with pc := g.pc + len, stack := v.toList ++ g.stack })) ∨
    (∃ (q : Addr) (B : Pt), Stand p l e R s m sargs below meth c B.U B.locs B.cells B.slots ∧ PostX A a q B ∧
      Steps p.tables e below (doInvoke e (A.U.setTop g) [] mk a).1 ((B.U.setTop g).pushFrame (.throwing q)))
section Payer
variable {l : Launch} {R : Room} {p : Program} {e : Env} {below : List Frame} {s : State} {sargs : Array Value} {y : MethodName} {len W9 : Nat}
theorem vx_back {ws : List Cond} {rm : Room} {Pc : Array Value → State → Prop} {Qc : Array Value → State → Outcome → State → Prop} {XC : String → State → State → Prop} {mc ms : Nat} {free : Addr → Prop} {bytes : ByteArray} {maxL : Nat} {ret : Option FieldType}
    (hM : vx_Met l y ws rm Pc Qc XC mc ms free) (hblind : FrameBlind Pc) (hrc : rm.cells = mc) (hrs : rm.slots = ms)
    (hframes : rm.frames + 1 ≤ R.frames) (hlocals : W9 + (maxL + 11) + rm.locals ≤ R.locals)
    (hws : ∀ w ∈ ws, ∀ a' U, s.WarmedH U.vm → w.before a' U = true) (hcode : Cond.code y bytes maxL ret ∈ ws) (hinit : ∀ a' U, s.WarmedH U.vm → (Cond.initialized y.cls).before a' U = true) :
    vx_Back l R p e below s sargs y len W9 (PreOf R mc ms Pc) (PostOf Qc mc ms free) (vx_Post XC mc ms free) := by
  intro m meth c A g ig mk a X hg hsize hdg hW hn hp
  have h1 : (headSpec ws rm).pre.before a A.U = true := atoms_intro fun w hw => hws w hw _ _ X.warmed
  have h2 : (Cond.code y bytes maxL ret).before a A.U = true := hws _ hcode _ _ X.warmed
  have h3 : (Cond.initialized y.cls).before a A.U = true := hinit _ _ X.warmed
  have h4 : A.cells + (headSpec ws rm).room.cells ≤ R.cells := by rw [show (headSpec ws rm).room.cells = mc from hrc]; exact hp.1
  have h5 : A.slots + (headSpec ws rm).room.slots ≤ R.slots := by rw [show (headSpec ws rm).room.slots = ms from hrs]; exact hp.2.1
  have hPc : Pc a (A.U.calling g mk a) := hblind _ _ _ _ hp.2.2
  obtain ⟨U, Ls, c0, s0⟩ := A
  dsimp only [Pt.U, Pt.locs, Pt.cells, Pt.slots] at h1 h2 h3 h4 h5 X hn hPc ⊢
  obtain ⟨methY, cY, hmY, hcY, -, hlY, -, -, -, -⟩ := Cond.code_spec hn h2
  obtain ⟨kY, hkY, -⟩ := className_of_methodNamed hn
  have hinitY : kY.init = .initialized := Cond.initialized_spec (findClass_of_methodNamed hn) hkY h3
  have h : At U g.method c below := by rw [hg]; exact X.here
  have hlocals9 : W9 + (maxL + 11) + (headSpec ws rm).room.locals ≤ R.locals := hlocals
  have happ : (headSpec ws rm).appliesLoose y e.platform (U.calling g mk a) = true :=
    Spec.appliesLoose_calling (g := g) h hdg hn hkY hinitY
      (X.room_calling (g := g) (R' := (headSpec ws rm).room) hsize hmY hcY hframes (by rw [hlY]; omega) h4 h5) h1
  obtain ⟨mid, hmid⟩ := h.above
  have hfr : (U.setTop g).frames = (.java g :: mid) ++ below := by rw [State.frames_setTop' g h.top, hmid]; rfl
  obtain ⟨o, s₂, hsteps, -, hend, hq⟩ := Steps.callFree hM p X.admits X.cas X.clock (acts := []) hfr happ hPc trivial
  have hq' : vx_Q Qc XC mc ms free a (U.calling g mk a) o s₂ := hq
  rw [State.frames_setTop' g h.top] at hend
  obtain ⟨g₀, hg0⟩ := Option.isSome_iff_exists.mp h.top
  obtain ⟨r, hr⟩ := State.topJava?_eq_some.mp hg0
  have hr' : (({ U with heap := s₂.heap, slotsUsed := s₂.slotsUsed } : State).setVm s₂.vm).frames = .java g₀ :: r := hr
  rcases hq' with ⟨hqc, L, hfe, hL⟩ | ⟨q, rfl, E, ce, L, hx, hce, hcv, hcl, hW₂, hsm, hL⟩
  · obtain ⟨⟨v, rfl⟩, hW₂, e2, q2, q3, q4, q5, q6⟩ := id hfe
    have e3 : s₂ = ({ (U.calling g mk a).setFrames s₂.frames with heap := s₂.heap, slotsUsed := s₂.slotsUsed } : State).setVm s₂.vm := by
      have : s₂ = ({ s₂ with vm := (U.calling g mk a).vm } : State).setVm s₂.vm := rfl
      rw [e2] at this
      exact this
    obtain ⟨c₂, i₂, len₂, hc₂, hd₂, hf₂⟩ := hend
    have hW' : U.WarmedH s₂.vm := hW₂
    have hcc : c₂ = c := by
      have h1 : s₂.code? g.method = U.code? g.method := by
        rw [State.code?_eq, State.code?_eq, hW'.alike.method?]
      exact Option.some.inj (hc₂.symm.trans (h1.trans h.code))
    subst hcc
    have hlen : len₂ = len := by rw [hdg] at hd₂; cases hd₂; rfl
    subst hlen
    have hs₂ : s₂ = (({ U with heap := s₂.heap, slotsUsed := s₂.slotsUsed } : State).setVm s₂.vm).setTop { g with pc := g.pc + len₂, stack := v.toList ++ g.stack } := by
      refine e3.trans ?_
      rw [hf₂, State.calling_eq h.top, State.setFrames_setFrames, State.setTop_of_frames _ hr', hr]
      rfl
    have hsame : U.sameButNew ({ U with heap := s₂.heap, slotsUsed := s₂.slotsUsed } : State) L mc ms := by
      refine ⟨?_, q2, q3, q4, q5, q6⟩
      obtain ⟨t, ht, -⟩ := State.frames_cons hr
      show ({ U with heap := s₂.heap, slotsUsed := s₂.slotsUsed } : State) = { U.setFrames U.frames with heap := s₂.heap, slotsUsed := s₂.slotsUsed }
      rw [State.setFrames_self ht]
    subst hg
    refine Or.inl ⟨v, ⟨(({ U with heap := s₂.heap, slotsUsed := s₂.slotsUsed } : State).setVm s₂.vm), Ls ++ L, c0 + mc, s0 + ms⟩,
      ⟨X.admits, X.cas, X.clock, X.frames, X.room, X.hears, X.method, X.code, (X.here.setHeapUsed s₂.heap s₂.slotsUsed).setVm hW'.alike, X.tail, State.WarmedH.trans X.warmed hW', X.limits, X.bytes, X.same.trans (hsame.setVm s.vm)⟩,
      ⟨g, mk, s₂, L, rfl, rfl, hqc, rfl, hL, rfl, rfl⟩, ?_⟩
    show Steps p.tables e below _ ((({ U with heap := s₂.heap, slotsUsed := s₂.slotsUsed } : State).setVm s₂.vm).setTop { g with pc := g.pc + len₂, stack := v.toList ++ g.stack })
    rw [← hs₂]
    exact hsteps
  · obtain ⟨e2, q2, q3, q4, q5, q6⟩ := id hsm
    have e3 : s₂ = ({ (U.calling g mk a).setFrames s₂.frames with heap := s₂.heap, slotsUsed := s₂.slotsUsed } : State).setVm s₂.vm := by
      have : s₂ = ({ s₂ with vm := (U.calling g mk a).vm } : State).setVm s₂.vm := rfl
      rw [e2] at this
      exact this
    have hf₂ : s₂.frames = .throwing q :: .java g :: U.frames.tail := hend
    have hW' : U.WarmedH s₂.vm := hW₂
    have hs₂ : s₂ = ((({ U with heap := s₂.heap, slotsUsed := s₂.slotsUsed } : State).setVm s₂.vm).setTop g).pushFrame (.throwing q) := by
      refine e3.trans ?_
      rw [hf₂, State.calling_eq h.top, State.setFrames_setFrames, State.pushFrame, State.frames_setTop _ hr', State.setTop_of_frames _ hr', State.setFrames_setFrames, hr]
      rfl
    have hsame : U.sameButNew ({ U with heap := s₂.heap, slotsUsed := s₂.slotsUsed } : State) L mc ms := by
      refine ⟨?_, q2, q3, q4, q5, q6⟩
      obtain ⟨t, ht, -⟩ := State.frames_cons hr
      show ({ U with heap := s₂.heap, slotsUsed := s₂.slotsUsed } : State) = { U.setFrames U.frames with heap := s₂.heap, slotsUsed := s₂.slotsUsed }
      rw [State.setFrames_self ht]
    subst hg
    refine Or.inr ⟨q, ⟨(({ U with heap := s₂.heap, slotsUsed := s₂.slotsUsed } : State).setVm s₂.vm), Ls ++ L, c0 + mc, s0 + ms⟩,
      ⟨X.admits, X.cas, X.clock, X.frames, X.room, X.hears, X.method, X.code, (X.here.setHeapUsed s₂.heap s₂.slotsUsed).setVm hW'.alike, X.tail, State.WarmedH.trans X.warmed hW', X.limits, X.bytes, X.same.trans (hsame.setVm s.vm)⟩,
      ⟨g, mk, s₂, L, E, ce, rfl, rfl, hx, hce, hcv, hcl, rfl, hL, rfl, rfl⟩, ?_⟩
    show Steps p.tables e below _ (((({ U with heap := s₂.heap, slotsUsed := s₂.slotsUsed } : State).setVm s₂.vm).setTop g).pushFrame (.throwing q))
    rw [← hs₂]
    exact hsteps
end Payer
section Calls
variable {p : Program} {l : Launch} {e : Env} {R : Room} {s : State} {m : MethodId} {args : Array Value} {below : List Frame} {meth : Method} {c : Code} {T : State} {locs : List Loc} {cells slots : Nat}
theorem vx_callV (X : Stand p l e R s m args below meth c T locs cells slots) (hexec : p.tables.exec = Jvm.exec) {own C : String} {index : Nat} {y : MethodName} {bytes : ByteArray} {maxL : Nat} {ret : Option FieldType}
    (hown : s.vm.findClass own = some m.cls) (hlink : (Cond.methodLink own index y).before args s = true) (hinst : (Cond.instanceMethod y).before args s = true) (hsel : (Cond.selects C y y).before args s = true)
    (hcode : (Cond.code y bytes maxL ret).before args s = true) (hy : y.cls ≠ "java/lang/invoke/MethodHandle" ∧ y.cls ≠ "java/lang/invoke/VarHandle")
    {W9 : Nat} {Pre : Pt → Array Value → Prop} {Post : Pt → Array Value → Option Value → Pt → Prop} {PostX : Pt → Array Value → Addr → Pt → Prop} (hK : vx_Back l R p e below s args y 3 W9 Pre Post PostX)
    {b : Addr} {cellB : Cell} (hcell : T.heap[b]? = some cellB) (hobj : cellB.vm.isStatics = false) (hcls : s.vm.findClass C = some cellB.cls)
    {g : JFrame} (hg : g.method = m) (hsize : g.locals.size = c.maxLocals) {argsL rest : List Value} (hlen : ∀ sig, parseMethodDescriptor y.desc = some sig → argsL.length = sig.parameters.length)
    (hstack : g.stack = argsL.reverse ++ .ref b :: rest) (hW : 2 * g.monitorRoom + (rest.map fun v => v.category).sum ≤ W9) (hdg : decode c.code g.pc = .ok (.invokevirtual index, 3))
    (hpre : ∀ vm₁, s.WarmedH vm₁ → Pre ⟨T.setVm vm₁, locs, cells, slots⟩ (Value.ref b :: argsL).toArray) :
    (∃ (v : Option Value) (vm₁ : Vm) (B : Pt), s.WarmedH vm₁ ∧ Stand p l e R s m args below meth c B.U B.locs B.cells B.slots ∧ Post ⟨T.setVm vm₁, locs, cells, slots⟩ (Value.ref b :: argsL).toArray v B ∧
      ∀ target, Steps p.tables e below (B.U.setTop { g with pc := g.pc + 3, stack := v.toList ++ rest }) target → Steps p.tables e below (T.setTop g) target) ∨
    (∃ (q : Addr) (vm₁ : Vm) (B : Pt), s.WarmedH vm₁ ∧ Stand p l e R s m args below meth c B.U B.locs B.cells B.slots ∧ PostX ⟨T.setVm vm₁, locs, cells, slots⟩ (Value.ref b :: argsL).toArray q B ∧
      Steps p.tables e below (T.setTop g) ((B.U.setTop { g with stack := rest }).pushFrame (.throwing q))) := by
  obtain ⟨mk, methM, hnamed, hmethM, hstM, habM⟩ := Cond.instanceMethod_spec hinst
  obtain ⟨methM', cM, hmethM', -, -, -, -, -, -, hsigM⟩ := Cond.code_spec hnamed hcode
  cases hmethM.symm.trans hmethM'
  obtain ⟨c2, r2, m2, q1, q2, q3, q4, kP, hkP, hkPi⟩ := Cond.selects_spec hsel
  cases hcls.symm.trans q1
  cases (State.methodFound?_of_named hnamed hy).symm.trans q2
  cases hnamed.symm.trans q3
  have hselP : selectMethod e.platform s.vm cellB.cls mk = .method mk := by rw [Launch.admits_selectMethod X.admits]; exact q4
  obtain ⟨vm₁, X₁, hstep₁⟩ := X.invokevirtual hexec hown hlink hnamed hmethM hstM hkP hkPi hy (a := b) (cell := cellB) hcell
    (fun z h => by rw [h] at hobj; cases hobj) hselP hmethM habM hkP hkPi (g := g) hg (argsL := argsL) (rest := rest) (hlen _ hsigM) hstack hdg
  rcases hK m meth c ⟨T.setVm vm₁, locs, cells, slots⟩ { g with stack := rest } (.invokevirtual index) mk (Value.ref b :: argsL).toArray X₁ hg hsize hdg hW (X₁.named hnamed) (hpre vm₁ X₁.warmed) with ⟨v, B, X', hpost, hsteps⟩ | ⟨q, B, X', hpost, hsteps⟩
  · exact Or.inl ⟨v, vm₁, B, X₁.warmed, X', hpost, fun target h => hstep₁ _ fun acts => by rw [doInvoke_state]; exact hsteps.trans h⟩
  · exact Or.inr ⟨q, vm₁, B, X₁.warmed, X', hpost, hstep₁ _ fun acts => by rw [doInvoke_state]; exact hsteps⟩
theorem vx_callS (X : Stand p l e R s m args below meth c T locs cells slots) (hexec : p.tables.exec = Jvm.exec) {own : String} {index : Nat} {y : MethodName} {bytes : ByteArray} {maxL : Nat} {ret : Option FieldType}
    (hown : s.vm.findClass own = some m.cls) (hlink : (Cond.methodLink own index y).before args s = true) (hstat : (Cond.static y).before args s = true) (hinit : (Cond.initialized y.cls).before args s = true)
    (hcode : (Cond.code y bytes maxL ret).before args s = true) (hy : y.cls ≠ "java/lang/invoke/MethodHandle" ∧ y.cls ≠ "java/lang/invoke/VarHandle")
    {W9 : Nat} {Pre : Pt → Array Value → Prop} {Post : Pt → Array Value → Option Value → Pt → Prop} {PostX : Pt → Array Value → Addr → Pt → Prop} (hK : vx_Back l R p e below s args y 3 W9 Pre Post PostX)
    {g : JFrame} (hg : g.method = m) (hsize : g.locals.size = c.maxLocals) {argsL rest : List Value} (hlen : ∀ sig, parseMethodDescriptor y.desc = some sig → argsL.length = sig.parameters.length)
    (hstack : g.stack = argsL.reverse ++ rest) (hW : 2 * g.monitorRoom + (rest.map fun v => v.category).sum ≤ W9) (hdg : decode c.code g.pc = .ok (.invokestatic index, 3))
    (hpre : ∀ vm₁, s.WarmedH vm₁ → Pre ⟨T.setVm vm₁, locs, cells, slots⟩ argsL.toArray) :
    (∃ (v : Option Value) (vm₁ : Vm) (B : Pt), s.WarmedH vm₁ ∧ Stand p l e R s m args below meth c B.U B.locs B.cells B.slots ∧ Post ⟨T.setVm vm₁, locs, cells, slots⟩ argsL.toArray v B ∧
      ∀ target, Steps p.tables e below (B.U.setTop { g with pc := g.pc + 3, stack := v.toList ++ rest }) target → Steps p.tables e below (T.setTop g) target) ∨
    (∃ (q : Addr) (vm₁ : Vm) (B : Pt), s.WarmedH vm₁ ∧ Stand p l e R s m args below meth c B.U B.locs B.cells B.slots ∧ PostX ⟨T.setVm vm₁, locs, cells, slots⟩ argsL.toArray q B ∧
      Steps p.tables e below (T.setTop g) ((B.U.setTop { g with stack := rest }).pushFrame (.throwing q))) := by
  obtain ⟨mk, hnamed⟩ := Cond.code_named hcode
  obtain ⟨methM, cM, hmethM, -, -, -, -, -, -, hsigM⟩ := Cond.code_spec hnamed hcode
  have hstatic : methM.isStatic = true := Cond.static_spec hnamed hmethM hstat
  obtain ⟨kP, hkP, -⟩ := className_of_methodNamed hnamed
  have hinitP : kP.init = .initialized := Cond.initialized_spec (findClass_of_methodNamed hnamed) hkP hinit
  obtain ⟨vm₁, X₁, hstep₁⟩ := X.invokestatic hexec hown hlink hnamed hmethM hstatic hkP hinitP hy (g := g) hg (argsL := argsL) (rest := rest) (hlen _ hsigM) hstack hdg
  rcases hK m meth c ⟨T.setVm vm₁, locs, cells, slots⟩ { g with stack := rest } (.invokestatic index) mk argsL.toArray X₁ hg hsize hdg hW (X₁.named hnamed) (hpre vm₁ X₁.warmed) with ⟨v, B, X', hpost, hsteps⟩ | ⟨q, B, X', hpost, hsteps⟩
  · exact Or.inl ⟨v, vm₁, B, X₁.warmed, X', hpost, fun target h => hstep₁ _ fun acts => by rw [doInvoke_state]; exact hsteps.trans h⟩
  · exact Or.inr ⟨q, vm₁, B, X₁.warmed, X', hpost, hstep₁ _ fun acts => by rw [doInvoke_state]; exact hsteps⟩
end Calls
theorem vx_cls {s : State} {T : State} {vm₁ : Vm} {E : String} {k : ClassId} (hW : s.WarmedH vm₁) (h : (T.setVm vm₁).vm.findClass E = some k) : s.vm.findClass E = some k := by
  have h1 : vm₁.findClass E = some k := h
  rw [hW.alike.findClass] at h1
  exact h1
/-- the method's frame g, with q thrown over it -/
def vx_W (p : Program) (l : Launch) (e : Env) (R : Room) (s : State) (m : MethodId) (args : Array Value) (below : List Frame) (meth : Method) (c : Code) (H : Heap) (locs : List Loc) (cells slots : Nat) (Q : State → Prop) (g : JFrame) (q : Addr) : Prop :=
  ∀ T : State, T.heap = H → Stand p l e R s m args below meth c T locs cells slots → ∃ t, Steps p.tables e below ((T.setTop g).pushFrame (.throwing q)) t ∧ Q t
def vx_Run (p : Program) (l : Launch) (e : Env) (R : Room) (s : State) (m : MethodId) (args : Array Value) (below : List Frame) (meth : Method) (c : Code) (H : Heap) (locs : List Loc) (cells slots mc ms : Nat) (g : JFrame) (rest : List Value) (Qa : State → Outcome → State → Prop) (XC : String → State → State → Prop) (free : Addr → Prop) : Prop :=
  ∀ T : State, T.heap = H → Stand p l e R s m args below meth c T locs cells slots →
    (∃ (v : Option Value) (st₀ t T' : State) (L : List Loc), st₀.heap = H ∧ Stand p l e R s m args below meth c T' (locs ++ L) (cells + mc) (slots + ms) ∧ (∀ q ∈ L, free q.base) ∧ T'.heap = t.heap ∧ T'.vm = t.vm ∧ Qa st₀ (.returned v) t ∧
      Goes p e below T g T' { g with pc := g.pc + 3, stack := v.toList ++ rest }) ∨
    (∃ (q : Addr) (st₀ t T' : State) (L : List Loc) (E : String) (ce : Cell), st₀.heap = H ∧ Stand p l e R s m args below meth c T' (locs ++ L) (cells + mc) (slots + ms) ∧ (∀ z ∈ L, free z.base) ∧ T'.heap = t.heap ∧ T'.vm = t.vm ∧ XC E st₀ t ∧ t.heap[q]? = some ce ∧ ce.vm = .none ∧ s.vm.findClass E = some ce.cls ∧
      Steps p.tables e below (T.setTop g) ((T'.setTop { g with stack := rest }).pushFrame (.throwing q)))
def vx_X {S : Type} (px : S → Prop) (B : String → S → State → Prop) (A : Nat → Prop) : String → State → State → Prop := fun E st t => ∃ u : S, px u ∧ B E u t ∧ va_F A st t
section Runs
variable {p : Program} {l : Launch} {e : Env} {R : Room} {s : State} {m : MethodId} {args : Array Value} {below : List Frame} {meth : Method} {c : Code} {H : Heap} {locs : List Loc} {cells slots : Nat}
variable {y : MethodName} {bytes cc : ByteArray} {maxL nL mc ms n index : Nat} {ret : Option FieldType} {ws : List Cond} {rm : Room} {Pc : Array Value → State → Prop} {Qc : Array Value → State → Outcome → State → Prop} {XC : String → State → State → Prop} {free : Addr → Prop} {Ts : List Cond} {own C : String} {b : Addr} {As rest : List Value} {g : JFrame}
theorem vx_callBack (cb : CallB R s args own index y bytes maxL ret ws rm mc ms n) (hM : vx_Met l y ws rm Pc Qc XC mc ms free) (hbl : FrameBlind Pc) : vx_Back l R p e below s args y 3 8 (PreOf R mc ms Pc) (PostOf Qc mc ms free) (vx_Post XC mc ms free) := by
  obtain ⟨hrc, hrs, hfr, hlo, hws, hcw, -, hini, -⟩ := cb
  exact vx_back (bytes := bytes) (maxL := maxL) (ret := ret) hM hbl hrc hrs hfr hlo hws hcw (fun a' U hW => word_at hW (Or.inl (by first | rfl | simp [Cond.onTables, Cond.keeps, Cond.steady])) hini)
theorem vx_runV (S : CallFix p m c cc nL s args Ts own) (hM : vx_Met l y ws rm Pc Qc XC mc ms free) (cw : CallW R s args own C index y bytes maxL ret ws rm mc ms n) (hp : PreV s H C b Pc As)
    (hg : g.method = m) (hn : As.length = n) (hsize : g.locals.size = nL) (hstack : g.stack = As.reverse ++ .ref b :: rest) (hW : 2 * g.monitorRoom + (rest.map fun v => v.category).sum ≤ 8) (hdg : decode cc g.pc = .ok (.invokevirtual index, 3)) (hf : cells + mc ≤ R.cells ∧ slots + ms ≤ R.slots) :
    vx_Run p l e R s m args below meth c H locs cells slots mc ms g rest (Qc (Value.ref b :: As).toArray) XC free := by
  have hK : vx_Back l R p e below s args y 3 8 (PreOf R mc ms Pc) (PostOf Qc mc ms free) (vx_Post XC mc ms free) := vx_callBack cw.1 hM hp.1
  obtain ⟨⟨-, -, -, -, -, -, hcode, -, hy, hlen, hl⟩, hin, hse⟩ := cw
  obtain ⟨hx, hb, hml, ho, -⟩ := S
  obtain ⟨-, ⟨cellB, hcB, hoB, hclB⟩, hPc⟩ := hp
  intro T hT X
  rcases vx_callV X hx (C := C) (bytes := bytes) (maxL := maxL) (ret := ret) ho hl hin hse hcode hy hK (by rw [hT]; exact hcB) hoB hclB hg (hsize.trans hml.symm) (argsL := As) (rest := rest) (fun sig h => hn.trans (hlen sig h)) hstack hW (by rw [hb]; exact hdg)
    (fun vm₁ hW₁ => ⟨hf.1, hf.2, hPc (T.setVm vm₁) hT hW₁⟩) with ⟨v, vm₁, ⟨U', l2, c2, s2⟩, hW₁, X', ⟨g', mk, t, L, e1, e2, hq, h1, hL, h2, h3⟩, st⟩ | ⟨q, vm₁, ⟨U', l2, c2, s2⟩, hW₁, X', ⟨g', mk, t, L, E, ce, e1, e2, hq, hce, hcv, hcl, h1, hL, h2, h3⟩, st⟩
  · dsimp only [Pt.U, Pt.locs, Pt.cells, Pt.slots] at X' e1 e2 h1 h2 h3 st
    subst h1; subst h2; subst h3
    exact Or.inl ⟨v, (T.setVm vm₁).calling g' mk (Value.ref b :: As).toArray, t, U', L, hT, X', hL, e1, e2, hq, st⟩
  · dsimp only [Pt.U, Pt.locs, Pt.cells, Pt.slots] at X' e1 e2 h1 h2 h3 st hcl
    subst h1; subst h2; subst h3
    exact Or.inr ⟨q, (T.setVm vm₁).calling g' mk (Value.ref b :: As).toArray, t, U', L, E, ce, hT, X', hL, e1, e2, hq, hce, hcv, vx_cls hW₁ hcl, st⟩
theorem vx_runS (S : CallFix p m c cc nL s args Ts own) (hM : vx_Met l y ws rm Pc Qc XC mc ms free) (cw : CallB R s args own index y bytes maxL ret ws rm mc ms n ∧ (Cond.static y).before args s = true) (hp : PreS s H Pc As)
    (hg : g.method = m) (hn : As.length = n) (hsize : g.locals.size = nL) (hstack : g.stack = As.reverse ++ rest) (hW : 2 * g.monitorRoom + (rest.map fun v => v.category).sum ≤ 8) (hdg : decode cc g.pc = .ok (.invokestatic index, 3)) (hf : cells + mc ≤ R.cells ∧ slots + ms ≤ R.slots) :
    vx_Run p l e R s m args below meth c H locs cells slots mc ms g rest (Qc As.toArray) XC free := by
  have hK : vx_Back l R p e below s args y 3 8 (PreOf R mc ms Pc) (PostOf Qc mc ms free) (vx_Post XC mc ms free) := vx_callBack cw.1 hM hp.1
  obtain ⟨⟨-, -, -, -, -, -, hcode, hini, hy, hlen, hl⟩, hstt⟩ := cw
  obtain ⟨hx, hb, hml, ho, -⟩ := S
  intro T hT X
  rcases vx_callS X hx (bytes := bytes) (maxL := maxL) (ret := ret) ho hl hstt hini hcode hy hK hg (hsize.trans hml.symm) (argsL := As) (rest := rest) (fun sig h => hn.trans (hlen sig h)) hstack hW (by rw [hb]; exact hdg)
    (fun vm₁ hW₁ => ⟨hf.1, hf.2, hp.2 (T.setVm vm₁) hT hW₁⟩) with ⟨v, vm₁, ⟨U', l2, c2, s2⟩, hW₁, X', ⟨g', mk, t, L, e1, e2, hq, h1, hL, h2, h3⟩, st⟩ | ⟨q, vm₁, ⟨U', l2, c2, s2⟩, hW₁, X', ⟨g', mk, t, L, E, ce, e1, e2, hq, hce, hcv, hcl, h1, hL, h2, h3⟩, st⟩
  · dsimp only [Pt.U, Pt.locs, Pt.cells, Pt.slots] at X' e1 e2 h1 h2 h3 st
    subst h1; subst h2; subst h3
    exact Or.inl ⟨v, (T.setVm vm₁).calling g' mk As.toArray, t, U', L, hT, X', hL, e1, e2, hq, st⟩
  · dsimp only [Pt.U, Pt.locs, Pt.cells, Pt.slots] at X' e1 e2 h1 h2 h3 st hcl
    subst h1; subst h2; subst h3
    exact Or.inr ⟨q, (T.setVm vm₁).calling g' mk As.toArray, t, U', L, E, ce, hT, X', hL, e1, e2, hq, hce, hcv, vx_cls hW₁ hcl, st⟩
end Runs
section Rows
variable {p : Program} {l : Launch} {e : Env} {R : Room} {s : State} {m : MethodId} {args : Array Value} {below : List Frame} {meth : Method} {c : Code} {H : Heap} {locs : List Loc} {cells slots : Nat} {Q : State → Prop}
variable {mc ms : Nat} {free : Addr → Prop} {A0 A1 : Nat → Prop} {H0 : Heap} {a : Array Value} {pc : Nat} {ls : Array Slot} {st0 rest : List Value}
theorem vx_keep {st₀ t T' : State} {L : List Loc} (h0 : st₀.heap = H) (e1 : T'.heap = t.heap) (hS : va_S A0 H0 H locs) (hA : ∀ q, q < H.size → A1 q → A0 q) (hf : ∀ q, free q → A0 q) (hL : ∀ q ∈ L, free q.base) (hF : va_F A1 st₀ t) :
    H.size ≤ T'.heap.size ∧ (∀ q : Nat, q < H.size → ¬ A1 q → T'.heap[q]? = H[q]?) ∧ va_S A0 H0 T'.heap (locs ++ L) := by
  obtain ⟨hz, hk⟩ := hF
  rw [h0] at hz hk
  exact ⟨by rw [e1]; exact hz, fun q h1 h2 => by rw [e1]; exact hk q h1 h2,
    ⟨Nat.le_trans hS.1 (by rw [e1]; exact hz), fun q h1 h2 => by rw [e1, hk q (Nat.lt_of_lt_of_le h1 hS.1) (fun z => h2 (hA q (Nat.lt_of_lt_of_le h1 hS.1) z))]; exact hS.2.1 q h1 h2, fun q hq => by
      rcases List.mem_append.mp hq with h | h
      · exact hS.2.2 q h
      · exact hf _ (hL q h)⟩⟩
theorem vx_calli {S SX : Type} {post : Int32 → S → Prop} {px : SX → Prop} {B : S → State → Prop} {BX : String → SX → State → Prop} {AX : Nat → Prop} (hr : vx_Run p l e R s m args below meth c H locs cells slots mc ms (F0 m pc ls st0) rest (va_Qi post B A1 a) (vx_X px BX AX) free) (hS : va_S A0 H0 H locs) (hA : ∀ q, q < H.size → A1 q → A0 q) (hf : ∀ q, free q → A0 q) (hAX : ∀ q, q < H.size → AX q → A0 q)
    (kx : ∀ (E : String) (ce : Cell) (q9 : Addr) (u : SX) (t : State) (H1 : Heap) (locs1 : List Loc), t.heap = H1 → s.vm.Alike t.vm → px u → BX E u t → H.size ≤ H1.size → (∀ q : Nat, q < H.size → ¬ AX q → H1[q]? = H[q]?) → va_S A0 H0 H1 locs1 → H1[q9]? = some ce → ce.vm = .none → s.vm.findClass E = some ce.cls → vx_W p l e R s m args below meth c H1 locs1 (cells + mc) (slots + ms) Q (F0 m pc ls rest) q9)
    (kk : ∀ (r : Int32) (u : S) (t : State) (H1 : Heap) (locs1 : List Loc), t.heap = H1 → s.vm.Alike t.vm → post r u → B u t → H.size ≤ H1.size → (∀ q : Nat, q < H.size → ¬ A1 q → H1[q]? = H[q]?) → va_S A0 H0 H1 locs1 → W p l e R s m args below meth c H1 locs1 (cells + mc) (slots + ms) Q (F0 m (pc + 3) ls (.int r :: rest))) : W p l e R s m args below meth c H locs cells slots Q (F0 m pc ls st0) := by
  intro T hT X
  rcases hr T hT X with ⟨v, st₀, t, T', L, h0, X', hL, e1, e2, ⟨⟨r, u, hv, hp, hb⟩, hF⟩, st⟩ | ⟨q, st₀, t, T', L, E, ce, h0, X', hL, e1, e2, ⟨u, hp, hb, hF⟩, hce, hcv, hcl, st⟩
  · cases hv
    obtain ⟨k1, k2, k3⟩ := vx_keep h0 e1 hS hA hf hL hF
    obtain ⟨t2, a1, b1⟩ := kk r u t T'.heap (locs ++ L) e1.symm (by rw [← e2]; exact X'.warmed.alike) hp hb k1 k2 k3 T' rfl X'
    exact ⟨t2, st t2 a1, b1⟩
  · obtain ⟨k1, k2, k3⟩ := vx_keep h0 e1 hS hAX hf hL hF
    obtain ⟨t2, a1, b1⟩ := kx E ce q u t T'.heap (locs ++ L) e1.symm (by rw [← e2]; exact X'.warmed.alike) hp hb k1 k2 k3 (by rw [e1]; exact hce) hcv hcl T' rfl X'
    exact ⟨t2, st.trans a1, b1⟩
theorem vx_calll {S SX : Type} {post : Int64 → S → Prop} {px : SX → Prop} {B : S → State → Prop} {BX : String → SX → State → Prop} {AX : Nat → Prop} (hr : vx_Run p l e R s m args below meth c H locs cells slots mc ms (F0 m pc ls st0) rest (va_Ql post B A1 a) (vx_X px BX AX) free) (hS : va_S A0 H0 H locs) (hA : ∀ q, q < H.size → A1 q → A0 q) (hf : ∀ q, free q → A0 q) (hAX : ∀ q, q < H.size → AX q → A0 q)
    (kx : ∀ (E : String) (ce : Cell) (q9 : Addr) (u : SX) (t : State) (H1 : Heap) (locs1 : List Loc), t.heap = H1 → s.vm.Alike t.vm → px u → BX E u t → H.size ≤ H1.size → (∀ q : Nat, q < H.size → ¬ AX q → H1[q]? = H[q]?) → va_S A0 H0 H1 locs1 → H1[q9]? = some ce → ce.vm = .none → s.vm.findClass E = some ce.cls → vx_W p l e R s m args below meth c H1 locs1 (cells + mc) (slots + ms) Q (F0 m pc ls rest) q9)
    (kk : ∀ (r : Int64) (u : S) (t : State) (H1 : Heap) (locs1 : List Loc), t.heap = H1 → s.vm.Alike t.vm → post r u → B u t → H.size ≤ H1.size → (∀ q : Nat, q < H.size → ¬ A1 q → H1[q]? = H[q]?) → va_S A0 H0 H1 locs1 → W p l e R s m args below meth c H1 locs1 (cells + mc) (slots + ms) Q (F0 m (pc + 3) ls (.long r :: rest))) : W p l e R s m args below meth c H locs cells slots Q (F0 m pc ls st0) := by
  intro T hT X
  rcases hr T hT X with ⟨v, st₀, t, T', L, h0, X', hL, e1, e2, ⟨⟨r, u, hv, hp, hb⟩, hF⟩, st⟩ | ⟨q, st₀, t, T', L, E, ce, h0, X', hL, e1, e2, ⟨u, hp, hb, hF⟩, hce, hcv, hcl, st⟩
  · cases hv
    obtain ⟨k1, k2, k3⟩ := vx_keep h0 e1 hS hA hf hL hF
    obtain ⟨t2, a1, b1⟩ := kk r u t T'.heap (locs ++ L) e1.symm (by rw [← e2]; exact X'.warmed.alike) hp hb k1 k2 k3 T' rfl X'
    exact ⟨t2, st t2 a1, b1⟩
  · obtain ⟨k1, k2, k3⟩ := vx_keep h0 e1 hS hAX hf hL hF
    obtain ⟨t2, a1, b1⟩ := kx E ce q u t T'.heap (locs ++ L) e1.symm (by rw [← e2]; exact X'.warmed.alike) hp hb k1 k2 k3 (by rw [e1]; exact hce) hcv hcl T' rfl X'
    exact ⟨t2, st.trans a1, b1⟩
theorem vx_callf {S SX : Type} {post : UInt32 → S → Prop} {px : SX → Prop} {B : S → State → Prop} {BX : String → SX → State → Prop} {AX : Nat → Prop} (hr : vx_Run p l e R s m args below meth c H locs cells slots mc ms (F0 m pc ls st0) rest (va_Qf post B A1 a) (vx_X px BX AX) free) (hS : va_S A0 H0 H locs) (hA : ∀ q, q < H.size → A1 q → A0 q) (hf : ∀ q, free q → A0 q) (hAX : ∀ q, q < H.size → AX q → A0 q)
    (kx : ∀ (E : String) (ce : Cell) (q9 : Addr) (u : SX) (t : State) (H1 : Heap) (locs1 : List Loc), t.heap = H1 → s.vm.Alike t.vm → px u → BX E u t → H.size ≤ H1.size → (∀ q : Nat, q < H.size → ¬ AX q → H1[q]? = H[q]?) → va_S A0 H0 H1 locs1 → H1[q9]? = some ce → ce.vm = .none → s.vm.findClass E = some ce.cls → vx_W p l e R s m args below meth c H1 locs1 (cells + mc) (slots + ms) Q (F0 m pc ls rest) q9)
    (kk : ∀ (r : UInt32) (u : S) (t : State) (H1 : Heap) (locs1 : List Loc), t.heap = H1 → s.vm.Alike t.vm → post r u → B u t → H.size ≤ H1.size → (∀ q : Nat, q < H.size → ¬ A1 q → H1[q]? = H[q]?) → va_S A0 H0 H1 locs1 → W p l e R s m args below meth c H1 locs1 (cells + mc) (slots + ms) Q (F0 m (pc + 3) ls (.float r :: rest))) : W p l e R s m args below meth c H locs cells slots Q (F0 m pc ls st0) := by
  intro T hT X
  rcases hr T hT X with ⟨v, st₀, t, T', L, h0, X', hL, e1, e2, ⟨⟨r, u, hv, hp, hb⟩, hF⟩, st⟩ | ⟨q, st₀, t, T', L, E, ce, h0, X', hL, e1, e2, ⟨u, hp, hb, hF⟩, hce, hcv, hcl, st⟩
  · cases hv
    obtain ⟨k1, k2, k3⟩ := vx_keep h0 e1 hS hA hf hL hF
    obtain ⟨t2, a1, b1⟩ := kk r u t T'.heap (locs ++ L) e1.symm (by rw [← e2]; exact X'.warmed.alike) hp hb k1 k2 k3 T' rfl X'
    exact ⟨t2, st t2 a1, b1⟩
  · obtain ⟨k1, k2, k3⟩ := vx_keep h0 e1 hS hAX hf hL hF
    obtain ⟨t2, a1, b1⟩ := kx E ce q u t T'.heap (locs ++ L) e1.symm (by rw [← e2]; exact X'.warmed.alike) hp hb k1 k2 k3 (by rw [e1]; exact hce) hcv hcl T' rfl X'
    exact ⟨t2, st.trans a1, b1⟩
theorem vx_calld {S SX : Type} {post : UInt64 → S → Prop} {px : SX → Prop} {B : S → State → Prop} {BX : String → SX → State → Prop} {AX : Nat → Prop} (hr : vx_Run p l e R s m args below meth c H locs cells slots mc ms (F0 m pc ls st0) rest (va_Qd post B A1 a) (vx_X px BX AX) free) (hS : va_S A0 H0 H locs) (hA : ∀ q, q < H.size → A1 q → A0 q) (hf : ∀ q, free q → A0 q) (hAX : ∀ q, q < H.size → AX q → A0 q)
    (kx : ∀ (E : String) (ce : Cell) (q9 : Addr) (u : SX) (t : State) (H1 : Heap) (locs1 : List Loc), t.heap = H1 → s.vm.Alike t.vm → px u → BX E u t → H.size ≤ H1.size → (∀ q : Nat, q < H.size → ¬ AX q → H1[q]? = H[q]?) → va_S A0 H0 H1 locs1 → H1[q9]? = some ce → ce.vm = .none → s.vm.findClass E = some ce.cls → vx_W p l e R s m args below meth c H1 locs1 (cells + mc) (slots + ms) Q (F0 m pc ls rest) q9)
    (kk : ∀ (r : UInt64) (u : S) (t : State) (H1 : Heap) (locs1 : List Loc), t.heap = H1 → s.vm.Alike t.vm → post r u → B u t → H.size ≤ H1.size → (∀ q : Nat, q < H.size → ¬ A1 q → H1[q]? = H[q]?) → va_S A0 H0 H1 locs1 → W p l e R s m args below meth c H1 locs1 (cells + mc) (slots + ms) Q (F0 m (pc + 3) ls (.double r :: rest))) : W p l e R s m args below meth c H locs cells slots Q (F0 m pc ls st0) := by
  intro T hT X
  rcases hr T hT X with ⟨v, st₀, t, T', L, h0, X', hL, e1, e2, ⟨⟨r, u, hv, hp, hb⟩, hF⟩, st⟩ | ⟨q, st₀, t, T', L, E, ce, h0, X', hL, e1, e2, ⟨u, hp, hb, hF⟩, hce, hcv, hcl, st⟩
  · cases hv
    obtain ⟨k1, k2, k3⟩ := vx_keep h0 e1 hS hA hf hL hF
    obtain ⟨t2, a1, b1⟩ := kk r u t T'.heap (locs ++ L) e1.symm (by rw [← e2]; exact X'.warmed.alike) hp hb k1 k2 k3 T' rfl X'
    exact ⟨t2, st t2 a1, b1⟩
  · obtain ⟨k1, k2, k3⟩ := vx_keep h0 e1 hS hAX hf hL hF
    obtain ⟨t2, a1, b1⟩ := kx E ce q u t T'.heap (locs ++ L) e1.symm (by rw [← e2]; exact X'.warmed.alike) hp hb k1 k2 k3 (by rw [e1]; exact hce) hcv hcl T' rfl X'
    exact ⟨t2, st.trans a1, b1⟩
theorem vx_callv {S SX : Type} {post : S → Prop} {px : SX → Prop} {B : S → State → Prop} {BX : String → SX → State → Prop} {AX : Nat → Prop} (hr : vx_Run p l e R s m args below meth c H locs cells slots mc ms (F0 m pc ls st0) rest (va_Qv post B A1 a) (vx_X px BX AX) free) (hS : va_S A0 H0 H locs) (hA : ∀ q, q < H.size → A1 q → A0 q) (hf : ∀ q, free q → A0 q) (hAX : ∀ q, q < H.size → AX q → A0 q)
    (kx : ∀ (E : String) (ce : Cell) (q9 : Addr) (u : SX) (t : State) (H1 : Heap) (locs1 : List Loc), t.heap = H1 → s.vm.Alike t.vm → px u → BX E u t → H.size ≤ H1.size → (∀ q : Nat, q < H.size → ¬ AX q → H1[q]? = H[q]?) → va_S A0 H0 H1 locs1 → H1[q9]? = some ce → ce.vm = .none → s.vm.findClass E = some ce.cls → vx_W p l e R s m args below meth c H1 locs1 (cells + mc) (slots + ms) Q (F0 m pc ls rest) q9)
    (kk : ∀ (u : S) (t : State) (H1 : Heap) (locs1 : List Loc), t.heap = H1 → s.vm.Alike t.vm → post u → B u t → H.size ≤ H1.size → (∀ q : Nat, q < H.size → ¬ A1 q → H1[q]? = H[q]?) → va_S A0 H0 H1 locs1 → W p l e R s m args below meth c H1 locs1 (cells + mc) (slots + ms) Q (F0 m (pc + 3) ls (rest))) : W p l e R s m args below meth c H locs cells slots Q (F0 m pc ls st0) := by
  intro T hT X
  rcases hr T hT X with ⟨v, st₀, t, T', L, h0, X', hL, e1, e2, ⟨⟨u, hv, hp, hb⟩, hF⟩, st⟩ | ⟨q, st₀, t, T', L, E, ce, h0, X', hL, e1, e2, ⟨u, hp, hb, hF⟩, hce, hcv, hcl, st⟩
  · cases hv
    obtain ⟨k1, k2, k3⟩ := vx_keep h0 e1 hS hA hf hL hF
    obtain ⟨t2, a1, b1⟩ := kk u t T'.heap (locs ++ L) e1.symm (by rw [← e2]; exact X'.warmed.alike) hp hb k1 k2 k3 T' rfl X'
    exact ⟨t2, st t2 a1, b1⟩
  · obtain ⟨k1, k2, k3⟩ := vx_keep h0 e1 hS hAX hf hL hF
    obtain ⟨t2, a1, b1⟩ := kx E ce q u t T'.heap (locs ++ L) e1.symm (by rw [← e2]; exact X'.warmed.alike) hp hb k1 k2 k3 (by rw [e1]; exact hce) hcv hcl T' rfl X'
    exact ⟨t2, st.trans a1, b1⟩
/-- caught by the row x of this method's table; the rows ahead don't take it -/
theorem vx_catch {own name : String} {E : String} {ce : Cell} {q : Addr} (hown : s.vm.findClass own = some m.cls) (pre : List ExceptionTableEntry) (x : ExceptionTableEntry) (suf : List ExceptionTableEntry) (hsplit : c.exceptionTable.toList = pre ++ x :: suf)
    (hpass : ∀ z ∈ pre, covers z pc = false ∨ (z.catchType ≠ 0 ∧ ∃ nm : String, (Cond.classLink own z.catchType nm).before args s = true ∧ va_Nc E nm s)) (hx : covers x pc = true) (h0 : x.catchType ≠ 0)
    (hlink : (Cond.classLink own x.catchType name).before args s = true) (hcast : (Cond.castable E name).before args s = true) (hcell : H[q]? = some ce) (hv : ce.vm = .none) (hcl : s.vm.findClass E = some ce.cls)
    (kk : W p l e R s m args below meth c H locs cells slots Q (F0 m x.handlerPc ls [.ref q])) : vx_W p l e R s m args below meth c H locs cells slots Q (F0 m pc ls rest) q := by
  intro T hT X
  have hpl : e.platform.magicAccessors = ({} : Platform).magicAccessors := by rw [X.admits.platform]
  obtain ⟨c3, c4, hc3, hc4, hasg⟩ := Cond.castable_spec hcast
  cases Option.some.inj (hc3.symm.trans hcl)
  obtain ⟨c5, hc5, hcl5⟩ := Cond.classLink_spec hown hlink e.platform hpl
  cases Option.some.inj (hc4.symm.trans hc5)
  obtain ⟨vm', X', st⟩ := X.thenCaughtThrough q (g := F0 m pc ls rest) rfl (Steps.refl _) (by rw [hT]; exact hcell) (by rw [hv]; rfl) (by obtain ⟨k9, h9, -⟩ := Vm.findClass_spec hcl; exact ⟨k9, h9⟩) pre x suf hsplit
    (fun z hz => by
      rcases hpass z hz with h | ⟨hz0, nm, hl1, hn1⟩
      · exact Or.inl h
      · obtain ⟨c6, hc6, hcl6⟩ := Cond.classLink_spec hown hl1 e.platform hpl
        obtain ⟨a8, b8, h1, h2, h3⟩ := hn1
        cases Option.some.inj (h1.symm.trans hcl)
        cases Option.some.inj (h2.symm.trans hc6)
        exact Or.inr ⟨hz0, _, hcl6, h3⟩) hx (Or.inr ⟨h0, c4, hcl5, hasg⟩)
  obtain ⟨t, a1, b1⟩ := kk (T.setVm vm') hT X'
  exact ⟨t, st.trans a1, b1⟩
end Rows
section Ends
variable {p : Program} {l : Launch} {e : Env} {R : Room} {s : State} {m : MethodId} {args : Array Value} {below : List Frame} {meth : Method} {c : Code} {H : Heap} {locs : List Loc} {cells slots : Nat} {Q : State → Prop}
variable {mc ms : Nat} {free : Addr → Prop} {A0 A1 : Nat → Prop} {H0 : Heap} {a : Array Value} {ls : Array Slot} {st0 rest : List Value}
variable {Qc : Array Value → State → Outcome → State → Prop} {XC : String → State → State → Prop}
/-- what a body that may throw owes at its end -/
def vx_MQ (below : List Frame) (Qc : Array Value → State → Outcome → State → Prop) (XC : String → State → State → Prop) (a : Array Value) (s : State) (mc ms : Nat) (free : Addr → Prop) : State → Prop := fun t =>
  ∃ o, t.status = .running ∧ Ended t below o ∧ vx_Q Qc XC mc ms free a s o t
theorem vx_ret {g : JFrame} {mc ms : Nat} (k : W p l e R s m args below meth c H locs cells slots (MQ below Qc args s mc ms free) g) : W p l e R s m args below meth c H locs cells slots (vx_MQ below Qc XC args s mc ms free) g := by
  intro T hT X
  obtain ⟨t, a1, o, b1, b2, b3, b4⟩ := k T hT X
  exact ⟨t, a1, o, b1, b2, Or.inl ⟨b3, b4⟩⟩
/-- not caught here: it goes on to the caller -/
theorem vx_widen {g : JFrame} {q : Addr} {k n : Nat} (h1 : cells ≤ k) (h2 : slots ≤ n) (kk : vx_W p l e R s m args below meth c H locs k n Q g q) : vx_W p l e R s m args below meth c H locs cells slots Q g q := fun T hT X => kk T hT (stand_widen X h1 h2)
theorem vx_out {pc : Nat} {E : String} {ce : Cell} {q : Addr} {mc ms : Nat} (hout : ∀ x ∈ c.exceptionTable.toList, covers x pc = false) (hlocks : meth.locks = false) (hcell : H[q]? = some ce) (hv : ce.vm = .none) (hcl : s.vm.findClass E = some ce.cls)
    (hx : ∀ t : State, t.heap = H → s.vm.Alike t.vm → XC E s t) (hf : ∀ z ∈ locs, free z.base) (hc : cells ≤ mc) (hs : slots ≤ ms) :
    vx_W p l e R s m args below meth c H locs cells slots (vx_MQ below Qc XC args s mc ms free) (F0 m pc ls rest) q := by
  intro T hT X
  obtain ⟨st1, hrun, hend, hW, hsm⟩ := X.leaveThrown q (g := F0 m pc ls rest) rfl rfl rfl hout hlocks
  have hcell9 : (T.setFrames (.throwing q :: below)).heap[q]? = some ce := by
    show T.heap[q]? = some ce
    rw [hT]; exact hcell
  exact ⟨_, st1, .threw q, hrun, hend, Or.inr ⟨q, rfl, E, ce, locs, hx _ hT hW.alike, hcell9, hv, hcl, hW, hsm.mono hc hs, hf⟩⟩
theorem vx_frame {U : State} {k n : Nat} (h : s.sameButNew ({ U with vm := s.vm } : State) locs k n) : s.heap.size ≤ U.heap.size ∧ ∀ q : Nat, q < s.heap.size → (∀ z ∈ locs, z.base ≠ q) → U.heap[q]? = s.heap[q]? := by
  obtain ⟨-, h2, -, -, -, h6⟩ := h
  refine ⟨h2, fun q hq hz => ?_⟩
  obtain ⟨c9, e1, e2, e3, e4⟩ := h6 q _ (Array.getElem?_eq_getElem hq)
  have hs : c9.slots = (s.heap[q]).slots := Array.ext_getElem? fun i => e4 i fun hm => hz _ hm rfl
  have h9 : c9 = s.heap[q] := by
    rw [hs] at e2
    exact e2
  have e5 : U.heap[q]? = some c9 := e1
  rw [e5, h9, Array.getElem?_eq_getElem hq]
/-- the words of a throw but the four that speak of the heap -/
def vx_no (w : Cond) : Bool := decide (w ≠ .isRef (.static Bundle.tN "UNASSIGNED_STACK" Bundle.steD)) && decide (w ≠ .isRef (.static Bundle.tN "SUPPRESSED_SENTINEL" Bundle.listD)) && decide (w ≠ .laysStatic Bundle.tN "UNASSIGNED_STACK" Bundle.steD) && decide (w ≠ .laysStatic Bundle.tN "SUPPRESSED_SENTINEL" Bundle.listD)
def vx_at0 (own : String) (ic : Nat) (X : String) (names : List String) : List Cond := (Bundle.ownAtoms0 own ic X names).filter vx_no
def vx_atS (own : String) (ic : Nat) (X : String) (names : List String) : List Cond := (Bundle.ownAtoms own ic X names).filter vx_no
/-- a word that the tables alone decide, or a good one -/
def vx_ot (w : Cond) : Bool := w.onTables || goodWord w
theorem vx_ot_at {args a' : Array Value} {s U : State} {w : Cond} (hW : s.WarmedH U.vm) (hvm : s.vm = U.vm) (hg : vx_ot w = true) (h : w.before args s = true) : w.before a' U = true := by
  simp only [vx_ot, Bool.or_eq_true] at hg
  rcases hg with hg | hg
  · exact va_tabs hg hvm h
  · exact word_at hW (good_of_word hg) h
/-- a list's words: the good ones out of the method's own list, the others by premises of their own -/
theorem vx_hat {args : Array Value} {s : State} {L B : List Cond} (h1 : ∀ w ∈ L.filter goodWord, w.before args s = true) (h2 : ∀ w ∈ L.filter (fun w => !goodWord w), w ∈ B) (h3 : ∀ w ∈ B, w.before args s = true) : ∀ w ∈ L, w.before args s = true := by
  intro w hw
  by_cases g : goodWord w = true
  · exact h1 w (List.mem_filter.mpr ⟨hw, g⟩)
  · refine h3 w (h2 w (List.mem_filter.mpr ⟨hw, ?_⟩))
    show (!goodWord w) = true
    cases hgw : goodWord w
    · rfl
    · exact absurd hgw g
theorem vx_c {args : Array Value} {s : State} {w : Cond} {B : List Cond} (h : w.before args s = true) (t : ∀ w ∈ B, w.before args s = true) : ∀ w' ∈ w :: B, w'.before args s = true := fun w' h' => (List.mem_cons.mp h').elim (fun e => by rw [e]; exact h) (t w')
theorem vx_n {args : Array Value} {s : State} : ∀ w ∈ ([] : List Cond), w.before args s = true := fun _ h => nomatch h
theorem vx_own {args : Array Value} {s : State} {L : List Cond} (h1 : ∀ w ∈ L.filter vx_no, w.before args s = true)
    (hU : (Cond.isRef (.static Bundle.tN "UNASSIGNED_STACK" Bundle.steD)).before args s = true) (hN : (Cond.isRef (.static Bundle.tN "SUPPRESSED_SENTINEL" Bundle.listD)).before args s = true)
    (lU : (Cond.laysStatic Bundle.tN "UNASSIGNED_STACK" Bundle.steD).before args s = true) (lN : (Cond.laysStatic Bundle.tN "SUPPRESSED_SENTINEL" Bundle.listD).before args s = true) : ∀ w ∈ L, w.before args s = true := by
  intro w hw
  by_cases e1 : w = .isRef (.static Bundle.tN "UNASSIGNED_STACK" Bundle.steD)
  · rw [e1]; exact hU
  · by_cases e2 : w = .isRef (.static Bundle.tN "SUPPRESSED_SENTINEL" Bundle.listD)
    · rw [e2]; exact hN
    · by_cases e3 : w = .laysStatic Bundle.tN "UNASSIGNED_STACK" Bundle.steD
      · rw [e3]; exact lU
      · by_cases e4 : w = .laysStatic Bundle.tN "SUPPRESSED_SENTINEL" Bundle.listD
        · rw [e4]; exact lN
        · exact h1 w (List.mem_filter.mpr ⟨hw, by unfold vx_no; rw [decide_eq_true e1, decide_eq_true e2, decide_eq_true e3, decide_eq_true e4]; rfl⟩)
/-- where a static field lies, its class's statics cell in H -/
def vx_L (C n d : String) (A : Nat → Prop) (U : State) (H : Heap) : Prop := ∃ (c : ClassId) (k : Class) (i : Nat) (f : Field) (a : Nat) (cell : Cell), U.vm.findClass C = some c ∧ U.fieldFound? C n d = some (c, k, i, f) ∧ f.isStatic = true ∧ k.statics = some a ∧ H[a]? = some cell ∧ cell.vm.isStatics = true ∧ cell.cls = c ∧ f.slot < cell.slots.size ∧ k.staticTypes[f.slot]? = some f.type ∧ ¬ A a
theorem vx_L.moved {C n d : String} {A : Nat → Prop} {u U : State} {H : Heap} (hvm : u.vm.Alike U.vm) (h : vx_L C n d A u H) : vx_L C n d A U H := by
  obtain ⟨c, k, i, f, a, cell, h1, h2, h3, h4, h5, h6, h7, h8, h9, h10⟩ := h
  obtain ⟨k', hi', he⟩ := State.fieldFound?_setVm hvm h2
  exact ⟨c, k', i, f, a, cell, by rw [hvm.findClass]; exact h1, hi', h3, by rw [he]; exact h4, h5, h6, h7, h8, by rw [he]; exact h9, h10⟩
theorem vx_L.kept {C n d : String} {A : Nat → Prop} {U : State} {H H1 : Heap} (h : vx_L C n d A U H) (hq : ∀ a : Nat, a < H.size → ¬ A a → H1[a]? = H[a]?) : vx_L C n d A U H1 := by
  obtain ⟨c, k, i, f, a, cell, h1, h2, h3, h4, h5, h6, h7, h8, h9, h10⟩ := h
  exact ⟨c, k, i, f, a, cell, h1, h2, h3, h4, by rw [hq a (Array.getElem?_eq_some_iff.mp h5).1 h10]; exact h5, h6, h7, h8, h9, h10⟩
theorem vx_L.narrow {C n d : String} {A B : Nat → Prop} {U : State} {H : Heap} (h : vx_L C n d A U H) (hAB : ∀ q, B q → A q) : vx_L C n d B U H := by
  obtain ⟨c, k, i, f, a, cell, h1, h2, h3, h4, h5, h6, h7, h8, h9, h10⟩ := h
  exact ⟨c, k, i, f, a, cell, h1, h2, h3, h4, h5, h6, h7, h8, h9, fun z => h10 (hAB _ z)⟩
theorem vx_L.word {C n d : String} {A : Nat → Prop} {s : State} {args : Array Value} (h : vx_L C n d A s s.heap) : (Cond.laysStatic C n d).before args s = true := by
  obtain ⟨c, k, i, f, a, cell, h1, h2, h3, h4, h5, h6, h7, h8, h9, -⟩ := h
  show (Cond.laysStatic C n d).holds args s none s [] = true
  exact Cond.laysStatic_of h1 h2 h3 h4 h5 h6 h7 h8 h9
/-- .. and what it holds: null or some reference -/
def vx_Zq (C n d : String) (A : Nat → Prop) (U : State) (H : Heap) : Prop := va_Zq C n d A U H ∧ vx_L C n d A U H
theorem vx_Zq.moved {C n d : String} {A : Nat → Prop} {u U : State} {H : Heap} (hvm : u.vm.Alike U.vm) (h : vx_Zq C n d A u H) : vx_Zq C n d A U H := ⟨va_Zq.moved hvm h.1, vx_L.moved hvm h.2⟩
theorem vx_Zq.kept {C n d : String} {A : Nat → Prop} {U : State} {H H1 : Heap} (h : vx_Zq C n d A U H) (hq : ∀ a : Nat, a < H.size → ¬ A a → H1[a]? = H[a]?) : vx_Zq C n d A U H1 := ⟨va_Zq.kept h.1 hq, vx_L.kept h.2 hq⟩
theorem vx_Zq.narrow {C n d : String} {A B : Nat → Prop} {U : State} {H : Heap} (h : vx_Zq C n d A U H) (hAB : ∀ q, B q → A q) : vx_Zq C n d B U H := ⟨va_Zq.narrow h.1 hAB, vx_L.narrow h.2 hAB⟩
theorem vx_Zqof {args : Array Value} {s : State} {C n d : String} {A : Nat → Prop} (hl : (Cond.laysStatic C n d).before args s = true) (hini : (Cond.initialized C).before args s = true) (h : (Cond.isRef (.static C n d)).before args s = true) (hA : ∀ a : Nat, a < s.heap.size → ¬ A a) : vx_Zq C n d A s s.heap := by
  refine ⟨va_Zqof hl hini h hA, ?_⟩
  obtain ⟨c, k, i, f, a, cell, h1, h2, h3, h4, h5, h6, h7, h8, h9⟩ := Cond.laysStatic_spec hl
  exact ⟨c, k, i, f, a, cell, h1, h2, h3, h4, h5, h6, h7, h8, h9, hA a (Array.getElem?_eq_some_iff.mp h5).1⟩
theorem vx_isRef {C n d : String} {v : Value} {A : Nat → Prop} {s : State} {args : Array Value} (h : va_Z C n d v A s s.heap) (hv : v.isRef = true) : (Cond.isRef (.static C n d)).before args s = true := by
  obtain ⟨cf, kf, fi, f, a, cell, h1, h2, h3, h4, h5, h6, h7, -⟩ := h
  have he : (Term.static C n d).eval args s none [] s = some v := by
    simp [Term.eval, State.fieldNamed?, h1, h2, h4, h5, h6, h7]
  simp only [Cond.before, Cond.holds, Cond.value, he]
  cases v <;> simp_all [Value.isRef]
theorem vx_isRefq {C n d : String} {A : Nat → Prop} {s : State} {args : Array Value} (h : va_Zq C n d A s s.heap) : (Cond.isRef (.static C n d)).before args s = true := by
  rcases h with h | ⟨t, h⟩
  · exact vx_isRef h rfl
  · exact vx_isRef h rfl
/-- the same frame, seen from here: as if the method were called anew in this heap -/
theorem vx_rebase {T : State} (X : Stand p l e R s m args below meth c T locs cells slots) {R' : Room} (hf : R'.frames ≤ R.frames) (hl : R'.locals ≤ R.locals) (hc : cells + R'.cells ≤ R.cells) (hs : slots + R'.slots ≤ R.slots) :
    Stand p l e R' ((T.setVm s.vm).setFrames (.invoking m args :: below)) m args below meth c T [] 0 0 := by
  have htop : (T.setVm s.vm).topJava?.isSome := X.here.top
  have hF : ((T.setVm s.vm).setFrames (.invoking m args :: below)).frames = .invoking m args :: below := State.frames_setFrames _ (State.cur_lt_of_top htop)
  obtain ⟨g₀, hg0⟩ := Option.isSome_iff_exists.mp htop
  obtain ⟨r, hr⟩ := State.topJava?_eq_some.mp hg0
  have hl9 : e.platform.stackLimits (T.setVm s.vm).me = e.platform.stackLimits s.me := X.limits
  have hb9 : (T.setVm s.vm).me.stackBytes = s.me.stackBytes := X.bytes
  refine ⟨X.admits, X.cas, X.clock, hF, ?_, X.hears, X.method, X.code, X.here, X.tail, X.warmed, ?_, ?_, ?_⟩
  · have h := X.room
    have hU : ((T.setVm s.vm).setFrames (.invoking m args :: below)).localsInUse = s.localsInUse := by
      rw [State.localsInUse_invoking hF (meth := meth) (c := c) X.method X.code, State.localsInUse_invoking X.frames X.method X.code]
    simp only [State.hasRoom, Bool.and_eq_true, decide_eq_true_eq] at h ⊢
    obtain ⟨⟨⟨⟨h1, h2, h3, h4, h5, h6⟩, h7⟩, h8⟩, h9⟩ := h
    rw [X.frames, List.length_cons] at h2 h3
    have q1 := X.heapSize
    have q2 := X.used
    simp only [hF, hU, List.length_cons, State.stackLimits_setFrames, State.stackBytes_setFrames, hl9, hb9]
    refine ⟨⟨⟨⟨by omega, by omega, by omega, by omega, by omega, h6⟩, ?_⟩, ?_⟩, X.book⟩
    · show T.heap.size + R'.cells ≤ e.platform.maxCells
      omega
    · show T.slotsUsed + R'.slots ≤ e.platform.maxSlots
      omega
  · rw [State.stackLimits_setFrames]; rfl
  · rw [State.stackBytes_setFrames]; rfl
  · refine ⟨?_, Nat.le_refl _, Nat.le_refl _, ?_, ?_, fun a c9 h9 => ⟨c9, h9, rfl, rfl, fun _ _ => rfl⟩⟩
    · obtain ⟨t, ht, -⟩ := State.frames_cons hr
      show T.setVm s.vm = { ((T.setVm s.vm).setFrames (.invoking m args :: below)).setFrames (T.setVm s.vm).frames with heap := T.heap, slotsUsed := T.slotsUsed }
      rw [State.setFrames_setFrames, State.setFrames_self ht]
      rfl
    · show T.slotsUsed = T.slotsUsed + ((T.heap.toList.drop T.heap.size).map (·.slots.size)).sum
      rw [List.drop_eq_nil_of_le (Nat.le_of_eq Array.length_toList)]
      rfl
    · show ((T.heap.toList.drop T.heap.size).map (·.slots.size)).sum ≤ 0
      rw [List.drop_eq_nil_of_le (Nat.le_of_eq Array.length_toList)]
      exact Nat.le_refl _
/-- 'throw new E()': new; dup; invokespecial; athrow -/
theorem vx_throw0 {cc : ByteArray} {pc : Nat} (hexec : p.tables.exec = Jvm.exec) (hb : c.code = cc) (hl : l.stackTraces = false) {own cls : String} {names : List String} {ik ic mc ms : Nat} {A : Nat → Prop}
    (hown : s.vm.findClass own = some m.cls) (hcls : Bundle.fit cls = true) (hnames : ∀ n ∈ names, Bundle.fit n = true)
    (hk : (Cond.classLink own ik cls).before args s = true) (hini : (Cond.initialized cls).before args s = true) (hat : ∀ w ∈ vx_at0 own ic cls names, w.before args s = true)
    (hgood : ∀ w ∈ Cond.classLink own ik cls :: Cond.initialized cls :: vx_at0 own ic cls names, vx_ot w = true)
    (hU : vx_Zq Bundle.tN "UNASSIGNED_STACK" Bundle.steD A s s.heap) (hN : vx_Zq Bundle.tN "SUPPRESSED_SENTINEL" Bundle.listD A s s.heap) (hS : va_S A s.heap H locs) (hsize : ls.size = c.maxLocals)
    (d0 : decode cc pc = .ok (.new ik, 3)) (d3 : decode cc (pc + 3) = .ok (.dup, 1)) (d4 : decode cc (pc + 4) = .ok (.invokespecial ic, 3)) (d7 : decode cc (pc + 7) = .ok (.athrow, 1))
    (hout : ∀ x ∈ c.exceptionTable.toList, covers x (pc + 7) = false)
    (hRframes : names.length + 3 < R.frames) (hRlocals : (rest.map fun v => v.category).sum + (13 * (names.length + 1) + 42) ≤ R.locals) (hRcells : cells + 1 ≤ R.cells) (hRslots : slots + 6 ≤ R.slots) (hlocks : meth.locks = false)
    (hx : ∀ t : State, s.vm.Alike t.vm → H.size ≤ t.heap.size → (∀ q : Nat, q < H.size → t.heap[q]? = H[q]?) → XC cls s t)
    (hf : ∀ z ∈ locs, free z.base) (hc : cells + 1 ≤ mc) (hs : slots + 6 ≤ ms) :
    W p l e R s m args below meth c H locs cells slots (vx_MQ below Qc XC args s mc ms free) (F0 m pc ls rest) := by
  intro T hT X
  have htr : e.platform.stackTraces = false := (show e.platform.stackTraces = l.stackTraces by rw [X.admits.platform]).trans hl
  have Y := vx_rebase X (R' := { frames := R.frames, locals := R.locals, cells := 1, slots := 6 }) (Nat.le_refl _) (Nat.le_refl _) hRcells hRslots
  obtain ⟨s', hA⟩ : ∃ z, z = (T.setVm s.vm).setFrames (.invoking m args :: below) := ⟨_, rfl⟩
  rw [← hA] at Y
  have hvm : s'.vm = s.vm := by rw [hA]; rfl
  have hhp : s'.heap = H := by rw [hA]; exact hT
  have hW0 : s.WarmedH s'.vm := by rw [hvm]; exact State.WarmedH.refl s
  have hat' : ∀ w ∈ vx_at0 own ic cls names, w.before args s' = true := fun w hw => vx_ot_at hW0 hvm.symm (hgood w (List.mem_cons_of_mem _ (List.mem_cons_of_mem _ hw))) (hat w hw)
  have hk' : (Cond.classLink own ik cls).before args s' = true := vx_ot_at hW0 hvm.symm (hgood _ List.mem_cons_self) hk
  have hini' : (Cond.initialized cls).before args s' = true := vx_ot_at hW0 hvm.symm (hgood _ (List.mem_cons_of_mem _ List.mem_cons_self)) hini
  have hU' : vx_Zq Bundle.tN "UNASSIGNED_STACK" Bundle.steD A s' s'.heap := by rw [hhp]; exact vx_Zq.moved hW0.alike (hU.kept hS.2.1)
  have hN' : vx_Zq Bundle.tN "SUPPRESSED_SENTINEL" Bundle.listD A s' s'.heap := by rw [hhp]; exact vx_Zq.moved hW0.alike (hN.kept hS.2.1)
  have h : ∀ w ∈ Bundle.ownAtoms0 own ic cls names, w.before args s' = true := vx_own hat' (vx_isRefq hU'.1) (vx_isRefq hN'.1) hU'.2.word hN'.2.word
  have hown' : s'.vm.findClass own = some m.cls := by rw [hvm]; exact hown
  have hins : (Cond.instantiable cls 6).before args s' = true := h _ (by simp [Bundle.ownAtoms0])
  obtain ⟨vm₁, cX, kX, hfX, hkX, -, -, X₁, st1⟩ := Y.newCold hexec (own := own) (C := cls) (index := ik) (n := 6) hown' hk' hins hini'
    (g := F0 m pc ls rest) rfl (by rw [hb]; exact d0) (Nat.le_refl _) (Nat.le_refl _)
  generalize hT1 : (T.setVm vm₁).pushCell { cls := cX, slots := kX.instanceTypes.map defaultValue, vm := .none } = T1 at X₁ st1
  have hcat : (Value.ref T.heap.size).category = 1 := rfl
  have hcellA : T1.heap[T.heap.size]? = some (freshCell cX kX) := by rw [← hT1]; exact State.heap_pushCell_size _ _
  have d3' : decode c.code (pc + 3) = .ok (.dup, 1) := by rw [hb]; exact d3
  obtain ⟨U, hsteps, hrun, hend, hW, hsame, ce, hce, hO⟩ := X₁.ctorThrow0 hexec htr (own := own) (cls := cls) (names := names) (ic := ic) hown' hcls hnames h (fun x hx => nomatch hx) hfX hkX hcellA (by rw [hhp, hT]; exact Nat.le_refl _)
    (g := { method := m, pc := pc + 4, locals := ls, stack := .ref T.heap.size :: .ref T.heap.size :: rest, locked := none }) rfl hsize rfl rfl (rest := rest) rfl
    (by rw [hb]; exact d4) (by rw [hb]; exact d7) hout hRframes (by simp only [List.map_cons, List.sum_cons, hcat]; omega) hlocks
  obtain ⟨f1, f2⟩ := vx_frame hsame
  rw [hhp] at f1 f2
  have hWs : s.WarmedH U.vm := State.WarmedH.trans hW0 hW
  have hcl : s.vm.findClass cls = some ce.cls := by
    have h9 := hO.cls
    rw [hvm] at h9
    exact h9
  have hall : s.sameButNew ({ U with vm := s.vm } : State) locs mc ms := by
    subst hA
    obtain ⟨e1, e2⟩ := hsame
    rw [State.setFrames_setFrames] at e1
    have h2 : (T.setVm s.vm).sameButNew ({ U with vm := s.vm } : State) [] (0 + 1) (0 + 6) := ⟨e1, e2⟩
    have h3 := X.same.trans h2
    rw [List.append_nil] at h3
    exact h3.mono hc hs
  refine ⟨U, ?_, .threw T.heap.size, hrun, hend, Or.inr ⟨T.heap.size, rfl, cls, ce, locs, hx U hWs.alike f1 (fun q hq => f2 q hq (fun z hz => nomatch hz)), hce, hO.vm, hcl, hWs, hall, hf⟩⟩
  refine st1 _ ?_
  show Steps p.tables e below (T1.setTop { method := m, pc := pc + 3, locals := ls, stack := .ref T.heap.size :: rest, locked := none }) _
  jvm_step X₁.here [X₁.here.top, hexec, d3', Value.category]
  exact hsteps
/-- 'throw new E("text")': new; dup; ldc; invokespecial; athrow -/
theorem vx_throwS {cc : ByteArray} {pc : Nat} (hexec : p.tables.exec = Jvm.exec) (hb : c.code = cc) (hl : l.stackTraces = false) {own cls text : String} {names : List String} {ik is ic mc ms sa : Nat} {A : Nat → Prop}
    (hown : s.vm.findClass own = some m.cls) (hcls : Bundle.fit cls = true) (hnames : ∀ n ∈ names, Bundle.fit n = true)
    (hk : (Cond.classLink own ik cls).before args s = true) (hini : (Cond.initialized cls).before args s = true) (hstr : vk_R own is text sa s) (hat : ∀ w ∈ vx_atS own ic cls names, w.before args s = true)
    (hgood : ∀ w ∈ Cond.classLink own ik cls :: Cond.initialized cls :: vx_atS own ic cls names, vx_ot w = true)
    (hU : vx_Zq Bundle.tN "UNASSIGNED_STACK" Bundle.steD A s s.heap) (hN : vx_Zq Bundle.tN "SUPPRESSED_SENTINEL" Bundle.listD A s s.heap) (hS : va_S A s.heap H locs) (hsize : ls.size = c.maxLocals)
    (d0 : decode cc pc = .ok (.new ik, 3)) (d3 : decode cc (pc + 3) = .ok (.dup, 1)) (d4 : decode cc (pc + 4) = .ok (.ldc is, 2)) (d6 : decode cc (pc + 6) = .ok (.invokespecial ic, 3)) (d9 : decode cc (pc + 9) = .ok (.athrow, 1))
    (hout : ∀ x ∈ c.exceptionTable.toList, covers x (pc + 9) = false)
    (hRframes : names.length + 3 < R.frames) (hRlocals : (rest.map fun v => v.category).sum + (13 * (names.length + 1) + 43) ≤ R.locals) (hRcells : cells + 1 ≤ R.cells) (hRslots : slots + 6 ≤ R.slots) (hlocks : meth.locks = false)
    (hx : ∀ t : State, s.vm.Alike t.vm → H.size ≤ t.heap.size → (∀ q : Nat, q < H.size → t.heap[q]? = H[q]?) → XC cls s t)
    (hf : ∀ z ∈ locs, free z.base) (hc : cells + 1 ≤ mc) (hs : slots + 6 ≤ ms) :
    W p l e R s m args below meth c H locs cells slots (vx_MQ below Qc XC args s mc ms free) (F0 m pc ls rest) := by
  intro T hT X
  have htr : e.platform.stackTraces = false := (show e.platform.stackTraces = l.stackTraces by rw [X.admits.platform]).trans hl
  have Y := vx_rebase X (R' := { frames := R.frames, locals := R.locals, cells := 1, slots := 6 }) (Nat.le_refl _) (Nat.le_refl _) hRcells hRslots
  obtain ⟨s', hA⟩ : ∃ z, z = (T.setVm s.vm).setFrames (.invoking m args :: below) := ⟨_, rfl⟩
  rw [← hA] at Y
  have hvm : s'.vm = s.vm := by rw [hA]; rfl
  have hhp : s'.heap = H := by rw [hA]; exact hT
  have hW0 : s.WarmedH s'.vm := by rw [hvm]; exact State.WarmedH.refl s
  have hat' : ∀ w ∈ vx_atS own ic cls names, w.before args s' = true := fun w hw => vx_ot_at hW0 hvm.symm (hgood w (List.mem_cons_of_mem _ (List.mem_cons_of_mem _ hw))) (hat w hw)
  have hk' : (Cond.classLink own ik cls).before args s' = true := vx_ot_at hW0 hvm.symm (hgood _ List.mem_cons_self) hk
  have hini' : (Cond.initialized cls).before args s' = true := vx_ot_at hW0 hvm.symm (hgood _ (List.mem_cons_of_mem _ List.mem_cons_self)) hini
  have hU' : vx_Zq Bundle.tN "UNASSIGNED_STACK" Bundle.steD A s' s'.heap := by rw [hhp]; exact vx_Zq.moved hW0.alike (hU.kept hS.2.1)
  have hN' : vx_Zq Bundle.tN "SUPPRESSED_SENTINEL" Bundle.listD A s' s'.heap := by rw [hhp]; exact vx_Zq.moved hW0.alike (hN.kept hS.2.1)
  have h : ∀ w ∈ Bundle.ownAtoms own ic cls names, w.before args s' = true := vx_own hat' (vx_isRefq hU'.1) (vx_isRefq hN'.1) hU'.2.word hN'.2.word
  have hown' : s'.vm.findClass own = some m.cls := by rw [hvm]; exact hown
  have hins : (Cond.instantiable cls 6).before args s' = true := h _ (by simp [Bundle.ownAtoms])
  obtain ⟨vm₁, cX, kX, hfX, hkX, -, -, X₁, st1⟩ := Y.newCold hexec (own := own) (C := cls) (index := ik) (n := 6) hown' hk' hins hini'
    (g := F0 m pc ls rest) rfl (by rw [hb]; exact d0) (Nat.le_refl _) (Nat.le_refl _)
  generalize hT1 : (T.setVm vm₁).pushCell { cls := cX, slots := kX.instanceTypes.map defaultValue, vm := .none } = T1 at X₁ st1
  have hcat : (Value.ref T.heap.size).category = 1 := rfl
  have hcellA : T1.heap[T.heap.size]? = some (freshCell cX kX) := by rw [← hT1]; exact State.heap_pushCell_size _ _
  have d3' : decode c.code (pc + 3) = .ok (.dup, 1) := by rw [hb]; exact d3
  have d4' : decode c.code (pc + 4) = .ok (.ldc is, 2) := by rw [hb]; exact d4
  have hstr' : vk_R own is text sa s' := vk_R.warm hW0 hstr
  obtain ⟨U, hsteps, hrun, hend, hW, hsame, ce, hce, hO⟩ := X₁.ctorThrowS hexec htr (own := own) (cls := cls) (names := names) (ic := ic) hown' hcls hnames h (fun x hx => nomatch hx) hfX hkX hcellA (by rw [hhp, hT]; exact Nat.le_refl _) (msg := .ref sa) rfl
    (g := { method := m, pc := pc + 6, locals := ls, stack := .ref sa :: .ref T.heap.size :: .ref T.heap.size :: rest, locked := none }) rfl hsize rfl rfl (rest := rest) rfl
    (by rw [hb]; exact d6) (by rw [hb]; exact d9) hout hRframes (by simp only [List.map_cons, List.sum_cons, hcat]; omega) hlocks
  obtain ⟨f1, f2⟩ := vx_frame hsame
  rw [hhp] at f1 f2
  have hWs : s.WarmedH U.vm := State.WarmedH.trans hW0 hW
  have hcl : s.vm.findClass cls = some ce.cls := by
    have h9 := hO.cls
    rw [hvm] at h9
    exact h9
  have hall : s.sameButNew ({ U with vm := s.vm } : State) locs mc ms := by
    subst hA
    obtain ⟨e1, e2⟩ := hsame
    rw [State.setFrames_setFrames] at e1
    have h2 : (T.setVm s.vm).sameButNew ({ U with vm := s.vm } : State) [] (0 + 1) (0 + 6) := ⟨e1, e2⟩
    have h3 := X.same.trans h2
    rw [List.append_nil] at h3
    exact h3.mono hc hs
  refine ⟨U, ?_, .threw T.heap.size, hrun, hend, Or.inr ⟨T.heap.size, rfl, cls, ce, locs, hx U hWs.alike f1 (fun q hq => f2 q hq (fun z hz => nomatch hz)), hce, hO.vm, hcl, hWs, hall, hf⟩⟩
  refine st1 _ ?_
  show Steps p.tables e below (T1.setTop { method := m, pc := pc + 3, locals := ls, stack := .ref T.heap.size :: rest, locked := none }) _
  jvm_step X₁.here [X₁.here.top, hexec, d3', Value.category]
  exact X₁.ldcString hexec (own := own) (text := text) (index := is) (a := sa) hown' hstr'.1 hstr'.2
    (g := { method := m, pc := pc + 4, locals := ls, stack := .ref T.heap.size :: .ref T.heap.size :: rest, locked := none }) rfl d4' _ hsteps
/-- 'throw new E("text")', the text by a wide index -/
theorem vx_throwSW {cc : ByteArray} {pc : Nat} (hexec : p.tables.exec = Jvm.exec) (hb : c.code = cc) (hl : l.stackTraces = false) {own cls text : String} {names : List String} {ik is ic mc ms sa : Nat} {A : Nat → Prop}
    (hown : s.vm.findClass own = some m.cls) (hcls : Bundle.fit cls = true) (hnames : ∀ n ∈ names, Bundle.fit n = true)
    (hk : (Cond.classLink own ik cls).before args s = true) (hini : (Cond.initialized cls).before args s = true) (hstr : vk_R own is text sa s) (hat : ∀ w ∈ vx_atS own ic cls names, w.before args s = true)
    (hgood : ∀ w ∈ Cond.classLink own ik cls :: Cond.initialized cls :: vx_atS own ic cls names, vx_ot w = true)
    (hU : vx_Zq Bundle.tN "UNASSIGNED_STACK" Bundle.steD A s s.heap) (hN : vx_Zq Bundle.tN "SUPPRESSED_SENTINEL" Bundle.listD A s s.heap) (hS : va_S A s.heap H locs) (hsize : ls.size = c.maxLocals)
    (d0 : decode cc pc = .ok (.new ik, 3)) (d3 : decode cc (pc + 3) = .ok (.dup, 1)) (d4 : decode cc (pc + 4) = .ok (.ldc_w is, 3)) (d7 : decode cc (pc + 7) = .ok (.invokespecial ic, 3)) (d10 : decode cc (pc + 10) = .ok (.athrow, 1))
    (hout : ∀ x ∈ c.exceptionTable.toList, covers x (pc + 10) = false)
    (hRframes : names.length + 3 < R.frames) (hRlocals : (rest.map fun v => v.category).sum + (13 * (names.length + 1) + 43) ≤ R.locals) (hRcells : cells + 1 ≤ R.cells) (hRslots : slots + 6 ≤ R.slots) (hlocks : meth.locks = false)
    (hx : ∀ t : State, s.vm.Alike t.vm → H.size ≤ t.heap.size → (∀ q : Nat, q < H.size → t.heap[q]? = H[q]?) → XC cls s t)
    (hf : ∀ z ∈ locs, free z.base) (hc : cells + 1 ≤ mc) (hs : slots + 6 ≤ ms) :
    W p l e R s m args below meth c H locs cells slots (vx_MQ below Qc XC args s mc ms free) (F0 m pc ls rest) := by
  intro T hT X
  have htr : e.platform.stackTraces = false := (show e.platform.stackTraces = l.stackTraces by rw [X.admits.platform]).trans hl
  have Y := vx_rebase X (R' := { frames := R.frames, locals := R.locals, cells := 1, slots := 6 }) (Nat.le_refl _) (Nat.le_refl _) hRcells hRslots
  obtain ⟨s', hA⟩ : ∃ z, z = (T.setVm s.vm).setFrames (.invoking m args :: below) := ⟨_, rfl⟩
  rw [← hA] at Y
  have hvm : s'.vm = s.vm := by rw [hA]; rfl
  have hhp : s'.heap = H := by rw [hA]; exact hT
  have hW0 : s.WarmedH s'.vm := by rw [hvm]; exact State.WarmedH.refl s
  have hat' : ∀ w ∈ vx_atS own ic cls names, w.before args s' = true := fun w hw => vx_ot_at hW0 hvm.symm (hgood w (List.mem_cons_of_mem _ (List.mem_cons_of_mem _ hw))) (hat w hw)
  have hk' : (Cond.classLink own ik cls).before args s' = true := vx_ot_at hW0 hvm.symm (hgood _ List.mem_cons_self) hk
  have hini' : (Cond.initialized cls).before args s' = true := vx_ot_at hW0 hvm.symm (hgood _ (List.mem_cons_of_mem _ List.mem_cons_self)) hini
  have hU' : vx_Zq Bundle.tN "UNASSIGNED_STACK" Bundle.steD A s' s'.heap := by rw [hhp]; exact vx_Zq.moved hW0.alike (hU.kept hS.2.1)
  have hN' : vx_Zq Bundle.tN "SUPPRESSED_SENTINEL" Bundle.listD A s' s'.heap := by rw [hhp]; exact vx_Zq.moved hW0.alike (hN.kept hS.2.1)
  have h : ∀ w ∈ Bundle.ownAtoms own ic cls names, w.before args s' = true := vx_own hat' (vx_isRefq hU'.1) (vx_isRefq hN'.1) hU'.2.word hN'.2.word
  have hown' : s'.vm.findClass own = some m.cls := by rw [hvm]; exact hown
  have hins : (Cond.instantiable cls 6).before args s' = true := h _ (by simp [Bundle.ownAtoms])
  obtain ⟨vm₁, cX, kX, hfX, hkX, -, -, X₁, st1⟩ := Y.newCold hexec (own := own) (C := cls) (index := ik) (n := 6) hown' hk' hins hini'
    (g := F0 m pc ls rest) rfl (by rw [hb]; exact d0) (Nat.le_refl _) (Nat.le_refl _)
  generalize hT1 : (T.setVm vm₁).pushCell { cls := cX, slots := kX.instanceTypes.map defaultValue, vm := .none } = T1 at X₁ st1
  have hcat : (Value.ref T.heap.size).category = 1 := rfl
  have hcellA : T1.heap[T.heap.size]? = some (freshCell cX kX) := by rw [← hT1]; exact State.heap_pushCell_size _ _
  have d3' : decode c.code (pc + 3) = .ok (.dup, 1) := by rw [hb]; exact d3
  have d4' : decode c.code (pc + 4) = .ok (.ldc_w is, 3) := by rw [hb]; exact d4
  have hstr' : vk_R own is text sa s' := vk_R.warm hW0 hstr
  obtain ⟨U, hsteps, hrun, hend, hW, hsame, ce, hce, hO⟩ := X₁.ctorThrowS hexec htr (own := own) (cls := cls) (names := names) (ic := ic) hown' hcls hnames h (fun x hx => nomatch hx) hfX hkX hcellA (by rw [hhp, hT]; exact Nat.le_refl _) (msg := .ref sa) rfl
    (g := { method := m, pc := pc + 7, locals := ls, stack := .ref sa :: .ref T.heap.size :: .ref T.heap.size :: rest, locked := none }) rfl hsize rfl rfl (rest := rest) rfl
    (by rw [hb]; exact d7) (by rw [hb]; exact d10) hout hRframes (by simp only [List.map_cons, List.sum_cons, hcat]; omega) hlocks
  obtain ⟨f1, f2⟩ := vx_frame hsame
  rw [hhp] at f1 f2
  have hWs : s.WarmedH U.vm := State.WarmedH.trans hW0 hW
  have hcl : s.vm.findClass cls = some ce.cls := by
    have h9 := hO.cls
    rw [hvm] at h9
    exact h9
  have hall : s.sameButNew ({ U with vm := s.vm } : State) locs mc ms := by
    subst hA
    obtain ⟨e1, e2⟩ := hsame
    rw [State.setFrames_setFrames] at e1
    have h2 : (T.setVm s.vm).sameButNew ({ U with vm := s.vm } : State) [] (0 + 1) (0 + 6) := ⟨e1, e2⟩
    have h3 := X.same.trans h2
    rw [List.append_nil] at h3
    exact h3.mono hc hs
  refine ⟨U, ?_, .threw T.heap.size, hrun, hend, Or.inr ⟨T.heap.size, rfl, cls, ce, locs, hx U hWs.alike f1 (fun q hq => f2 q hq (fun z hz => nomatch hz)), hce, hO.vm, hcl, hWs, hall, hf⟩⟩
  refine st1 _ ?_
  show Steps p.tables e below (T1.setTop { method := m, pc := pc + 3, locals := ls, stack := .ref T.heap.size :: rest, locked := none }) _
  jvm_step X₁.here [X₁.here.top, hexec, d3', Value.category]
  exact X₁.ldcStringW hexec (own := own) (text := text) (index := is) (a := sa) hown' hstr'.1 hstr'.2
    (g := { method := m, pc := pc + 4, locals := ls, stack := .ref T.heap.size :: .ref T.heap.size :: rest, locked := none }) rfl d4' _ hsteps
end Ends
section Bodies
variable {l : Launch}
theorem vx_ofW {y : MethodName} {ws ws' : List Cond} {rm : Room} {Pc : Array Value → State → Prop} {Qc : Array Value → State → Outcome → State → Prop} {XC : String → State → State → Prop} {mc ms : Nat} {free : Addr → Prop} {cc : ByteArray} {maxL : Nat} {ret : Option FieldType}
    (hy : plainName y.cls = true) (hw : ws = Cond.code y cc maxL ret :: ws')
    (body : ∀ p e s m args below meth c s₁, BodyLoose p l y (headSpec ws rm) cc maxL ret e s m args below meth c s₁ → c.maxLocals = maxL → (∀ x ∈ c.exceptionTable.toList, False) → Pc args s →
      W p l e (headSpec ws rm).room s m args below meth c s.heap [] 0 0 (vx_MQ below Qc XC args s mc ms free) (entryFrame m args maxL)) : vx_Met l y ws rm Pc Qc XC mc ms free := by
  refine MetFree.of_bodyS (code := cc) (maxLocals := maxL) (ret := ret) hy ?_ ?_
  · intro args s m h hn
    obtain ⟨meth, c, h1, h2, h3, h4, h5, h6, -, -⟩ := Cond.code_spec hn (atoms_spec (ws := ws) h _ (by rw [hw]; exact List.mem_cons_self))
    exact ⟨meth, c, h1, h2, h3, h4, h5, h6⟩
  · intro p e s m args below meth c s₁ B hml hP _
    have hh0 : s₁.heap = s.heap := by rw [B.state]; rfl
    have ht : ∀ x ∈ c.exceptionTable.toList, False := by
      obtain ⟨meth9, c9, h1, h2, -, -, -, -, h7, -⟩ := Cond.code_spec B.named (atoms_spec (ws := ws) B.pre _ (by rw [hw]; exact List.mem_cons_self))
      cases Option.some.inj (h1.symm.trans B.method)
      cases Option.some.inj (h2.symm.trans (Stand.of_body B).code)
      intro x hx
      rw [Array.isEmpty_iff.mp h7] at hx
      cases hx
    obtain ⟨t, a1, o, b1, b2, b3⟩ := body p e s m args below meth c s₁ B hml ht hP s₁ hh0 (Stand.of_body B)
    exact ⟨t, o, a1, b1, b2, b3⟩
/-- the table of a body with handlers -/
theorem vx_table {p : Program} {x y : MethodName} {S : Spec} {cc bytes : ByteArray} {maxL maxL' : Nat} {ret ret' : Option FieldType} {e : Env} {s s₁ : State} {m : MethodId} {args : Array Value} {below : List Frame} {meth : Method} {c : Code} {hh : List (Nat × Nat × Nat × Nat)}
    (B : BodyLoose p l y S cc maxL ret e s m args below meth c s₁) (h : (Cond.codeWith y bytes maxL' ret' hh).before args s = true) : c.exceptionTable.toList = tableOf hh := by
  obtain ⟨m9, meth9, c9, hn9, h1, h2, -, -, h6, -⟩ := Cond.codeWith_spec h
  cases Option.some.inj (hn9.symm.trans B.named)
  cases Option.some.inj (h1.symm.trans B.method)
  cases Option.some.inj (h2.symm.trans (Stand.of_body B).code)
  rw [← h6, table_eq]
end Bodies
end VXA
/-! ===== END ===== -/
/-! ===== BEGIN a static call of a method with an exception table ===== -/
section VXS
variable {p : Program} {l : Launch} {e : Env} {R : Room} {s : State} {m : MethodId} {args : Array Value} {below : List Frame} {meth : Method} {c : Code} {T : State} {H : Heap} {locs : List Loc} {cells slots : Nat}
abbrev vx_CSW (R : Room) (s : State) (args : Array Value) (own : String) (index : Nat) (y : MethodName) (bytes : ByteArray) (maxL : Nat) (ret : Option FieldType) (hh : List (Nat × Nat × Nat × Nat)) (ws : List Cond) (rm : Room) (mc ms n : Nat) : Prop :=
  (rm.cells = mc ∧ rm.slots = ms ∧ rm.frames + 1 ≤ R.frames ∧ 8 + (maxL + 11) + rm.locals ≤ R.locals ∧ (∀ w ∈ ws, ∀ (a' : Array Value) (U : State), s.WarmedH U.vm → w.before a' U = true) ∧ Cond.codeWith y bytes maxL ret hh ∈ ws) ∧
  (Cond.codeWith y bytes maxL ret hh).before args s = true ∧ (Cond.initialized y.cls).before args s = true ∧ (y.cls ≠ "java/lang/invoke/MethodHandle" ∧ y.cls ≠ "java/lang/invoke/VarHandle") ∧
  (∀ sig, parseMethodDescriptor y.desc = some sig → n = sig.parameters.length) ∧ (Cond.methodLink own index y).before args s = true ∧ (Cond.static y).before args s = true
theorem vx_cwSW {own : String} {index maxL mc ms : Nat} {y : MethodName} {bytes : ByteArray} {ret : Option FieldType} {hh : List (Nat × Nat × Nat × Nat)} {Ts ws ws' : List Cond} {rm : Room} (n : Nat) (ht : ∀ w ∈ Ts, w.before args s = true) (hT : GoodIn Ts (va_wsS own index y ws)) (hw : ws = Cond.codeWith y bytes maxL ret hh :: ws') (hrc : rm.cells = mc) (hrs : rm.slots = ms)
    (hd : y.cls ≠ "java/lang/invoke/MethodHandle" ∧ y.cls ≠ "java/lang/invoke/VarHandle" ∧ (parseMethodDescriptor y.desc).map (fun d => d.parameters.length) = some n) (hR : rm.frames + 1 ≤ R.frames ∧ 8 + (maxL + 11) + rm.locals ≤ R.locals) :
    vx_CSW R s args own index y bytes maxL ret hh ws rm mc ms n := by
  have ok : ∀ w ∈ va_wsS own index y ws, w.before args s = true := fun w h => ht w (hT w h).1
  have hG : GoodIn Ts ws := fun w h => hT w (by unfold va_wsS; exact List.mem_append_right _ h)
  have hc : Cond.codeWith y bytes maxL ret hh ∈ ws := by rw [hw]; exact List.mem_cons_self
  refine ⟨⟨hrc, hrs, hR.1, hR.2, pay_in ht hG, hc⟩, ht _ (hG _ hc).1, ok _ (by simp [va_wsS]), ⟨hd.1, hd.2.1⟩, fun sig h => ?_, ok _ (by simp [va_wsS]), ok _ (by simp [va_wsS])⟩
  have h2 := hd.2.2
  rw [h] at h2
  exact (Option.some.inj h2).symm
theorem vx_callSW (X : Stand p l e R s m args below meth c T locs cells slots) (hexec : p.tables.exec = Jvm.exec) {own : String} {index : Nat} {y : MethodName} {bytes : ByteArray} {maxL : Nat} {ret : Option FieldType} {hh : List (Nat × Nat × Nat × Nat)}
    (hown : s.vm.findClass own = some m.cls) (hlink : (Cond.methodLink own index y).before args s = true) (hstat : (Cond.static y).before args s = true) (hinit : (Cond.initialized y.cls).before args s = true)
    (hcode : (Cond.codeWith y bytes maxL ret hh).before args s = true) (hy : y.cls ≠ "java/lang/invoke/MethodHandle" ∧ y.cls ≠ "java/lang/invoke/VarHandle")
    {W9 : Nat} {Pre : Pt → Array Value → Prop} {Post : Pt → Array Value → Option Value → Pt → Prop} (hK : Back l R p e below s args y 3 W9 Pre Post)
    {g : JFrame} (hg : g.method = m) (hsize : g.locals.size = c.maxLocals) {argsL rest : List Value} (hlen : ∀ sig, parseMethodDescriptor y.desc = some sig → argsL.length = sig.parameters.length)
    (hstack : g.stack = argsL.reverse ++ rest) (hW : 2 * g.monitorRoom + (rest.map fun v => v.category).sum ≤ W9) (hdg : decode c.code g.pc = .ok (.invokestatic index, 3))
    (hpre : ∀ vm₁, s.WarmedH vm₁ → Pre ⟨T.setVm vm₁, locs, cells, slots⟩ argsL.toArray) :
    ∃ (v : Option Value) (vm₁ : Vm) (B : Pt), s.WarmedH vm₁ ∧ Stand p l e R s m args below meth c B.U B.locs B.cells B.slots ∧ Post ⟨T.setVm vm₁, locs, cells, slots⟩ argsL.toArray v B ∧
      ∀ target, Steps p.tables e below (B.U.setTop { g with pc := g.pc + 3, stack := v.toList ++ rest }) target → Steps p.tables e below (T.setTop g) target := by
  obtain ⟨mk, methM, cM, hnamed, hmethM, -, -, -, -, -, -, hsigM⟩ := Cond.codeWith_spec hcode
  have hstatic : methM.isStatic = true := Cond.static_spec hnamed hmethM hstat
  obtain ⟨kP, hkP, -⟩ := className_of_methodNamed hnamed
  have hinitP : kP.init = .initialized := Cond.initialized_spec (findClass_of_methodNamed hnamed) hkP hinit
  obtain ⟨vm₁, X₁, hstep₁⟩ := X.invokestatic hexec hown hlink hnamed hmethM hstatic hkP hinitP hy (g := g) hg (argsL := argsL) (rest := rest) (hlen _ hsigM) hstack hdg
  obtain ⟨v, B, X', hpost, hsteps⟩ := hK m meth c ⟨T.setVm vm₁, locs, cells, slots⟩ { g with stack := rest } (.invokestatic index) mk argsL.toArray X₁ hg hsize hdg hW (X₁.named hnamed) (hpre vm₁ X₁.warmed)
  exact ⟨v, vm₁, B, X₁.warmed, X', hpost, fun target h => hstep₁ _ fun acts => by rw [doInvoke_state]; exact hsteps.trans h⟩
theorem vx_runSW {y : MethodName} {bytes cc : ByteArray} {maxL nL mc ms n index : Nat} {ret : Option FieldType} {hh : List (Nat × Nat × Nat × Nat)} {ws : List Cond} {rm : Room} {Pc : Array Value → State → Prop} {Qc : Array Value → State → Outcome → State → Prop} {free : Addr → Prop} {Ts : List Cond} {own : String} {As rest : List Value} {g : JFrame}
    (S : CallFix p m c cc nL s args Ts own) (hM : Met l y ws rm Pc Qc mc ms free) (cw : vx_CSW R s args own index y bytes maxL ret hh ws rm mc ms n) (hp : PreS s H Pc As)
    (hg : g.method = m) (hn : As.length = n) (hsize : g.locals.size = nL) (hstack : g.stack = As.reverse ++ rest) (hW : 2 * g.monitorRoom + (rest.map fun v => v.category).sum ≤ 8) (hdg : decode cc g.pc = .ok (.invokestatic index, 3)) (hf : cells + mc ≤ R.cells ∧ slots + ms ≤ R.slots) :
    va_Run p l e R s m args below meth c H locs cells slots mc ms g rest (Qc As.toArray) (free) := by
  obtain ⟨⟨hrc, hrs, hfr, hlo, hws, hcw⟩, hcode, hini, hy, hlen, hl, hstt⟩ := cw
  have hK : Back l R p e below s args y 3 8 (PreOf R mc ms Pc) (PostOf Qc mc ms free) := va_backW (hh := hh) (bytes := bytes) (maxL := maxL) (ret := ret) hM hp.1 hrc hrs hfr hlo hws hcw (fun a' U hW => word_at hW (Or.inl (by first | rfl | simp [Cond.onTables, Cond.keeps, Cond.steady])) hini)
  obtain ⟨hx, hb, hml, ho, -⟩ := S
  intro T hT X
  obtain ⟨v, vm₁, ⟨U', l2, c2, s2⟩, hW₁, X', ⟨g', mk, t, L, e1, e2, hq, h1, hL, h2, h3⟩, st⟩ := vx_callSW X hx (hh := hh) (bytes := bytes) (maxL := maxL) (ret := ret) ho hl hstt hini hcode hy hK hg (hsize.trans hml.symm) (argsL := As) (rest := rest) (fun sig h => hn.trans (hlen sig h)) hstack hW (by rw [hb]; exact hdg)
    (fun vm₁ hW₁ => ⟨hf.1, hf.2, hp.2 (T.setVm vm₁) hT hW₁⟩)
  dsimp only [Pt.U, Pt.locs, Pt.cells, Pt.slots] at X' e1 e2 h1 h2 h3 st
  subst h1; subst h2; subst h3
  exact ⟨v, (T.setVm vm₁).calling g' mk As.toArray, t, U', L, hT, X', hL, e1, e2, hq, st⟩
/-- not caught here, past rows that name other classes: it goes on to the caller -/
theorem vx_outP {p : Program} {l : Launch} {e : Env} {R : Room} {s : State} {m : MethodId} {args : Array Value} {below : List Frame} {meth : Method} {c : Code} {H : Heap} {locs : List Loc} {cells slots : Nat} {free : Addr → Prop} {ls : Array Slot} {rest : List Value} {Qc : Array Value → State → Outcome → State → Prop} {XC : String → State → State → Prop}
    {pc : Nat} {own E : String} {ce : Cell} {q : Addr} {mc ms : Nat} (hown : s.vm.findClass own = some m.cls) (hlocks : meth.locks = false)
    (hpass : ∀ z ∈ c.exceptionTable.toList, covers z pc = false ∨ (z.catchType ≠ 0 ∧ ∃ nm : String, (Cond.classLink own z.catchType nm).before args s = true ∧ va_Nc E nm s)) (hcell : H[q]? = some ce) (hv : ce.vm = .none) (hcl : s.vm.findClass E = some ce.cls)
    (hx : ∀ t : State, t.heap = H → s.vm.Alike t.vm → XC E s t) (hf : ∀ z ∈ locs, free z.base) (hc : cells ≤ mc) (hs : slots ≤ ms) :
    vx_W p l e R s m args below meth c H locs cells slots (vx_MQ below Qc XC args s mc ms free) (F0 m pc ls rest) q := by
  intro T hT X
  have hpl : e.platform.magicAccessors = ({} : Platform).magicAccessors := by rw [X.admits.platform]
  obtain ⟨vm', hW', X', st⟩ := X.outThrough hlocks q (g := F0 m pc ls rest) rfl rfl rfl (cell := ce) (by rw [hT]; exact hcell) (by rw [hv]; rfl)
    (by obtain ⟨k9, h9, -⟩ := Vm.findClass_spec hcl; exact ⟨k9, h9⟩) (fun z hz => by
      rcases hpass z hz with h | ⟨hz0, nm, hl1, hn1⟩
      · exact Or.inl h
      · obtain ⟨c6, hc6, hcl6⟩ := Cond.classLink_spec hown hl1 e.platform hpl
        obtain ⟨a8, b8, h1, h2, h3⟩ := hn1
        cases Option.some.inj (h1.symm.trans hcl)
        cases Option.some.inj (h2.symm.trans hc6)
        exact Or.inr ⟨hz0, _, hcl6, h3⟩)
  obtain ⟨g₀, hfr⟩ := X'.frames_eq
  have hcell9 : ((T.setVm vm').setFrames (.throwing q :: below)).heap[q]? = some ce := by
    show T.heap[q]? = some ce
    rw [hT]; exact hcell
  have hend : Ended ((T.setVm vm').setFrames (.throwing q :: below)) below (.threw q) := State.frames_setFrames _ (State.cur_lt_of_frames hfr)
  refine ⟨(T.setVm vm').setFrames (.throwing q :: below), ?_, .threw q, X'.here.running, hend, Or.inr ⟨q, rfl, E, ce, locs, hx _ hT (X'.ends _).1.alike, hcell9, hv, hcl, (X'.ends _).1, (X'.ends _).2.mono hc hs, hf⟩⟩
  rw [X.pushThrowing_eq]
  exact st
/-- a thing of a world lies in the heap -/
theorem vx_lt {D : va_G} {cl : List vw_C} {ws : va_W} {H1 : Heap} (h : va_P D cl ws H1) {k : Nat} {q : Nat × va_E} (hk : ws[k]? = some q) : q.1 < H1.size := (h k q hk).lt
end VXS
/-! ===== END ===== -/
/-! ===== BEGIN methods with a table of their own: called by a name, returning or throwing ===== -/
section VXH
/-! vx_backW, vx_callVX, vx_callSX, vx_callVW, vx_runVW, vx_runVX, vx_runSX, vx_ofWH follow the same proofs as their sisters above (Free/Laws.lean, Shelf42/LK1.lean); vx_outP calls Shelf42/NT130.lean (outThrough). -/
section
variable {l : Launch} {R : Room} {p : Program} {e : Env} {below : List Frame} {s : State} {sargs : Array Value} {y : MethodName} {len W9 : Nat}
theorem vx_backW {ws : List Cond} {rm : Room} {Pc : Array Value → State → Prop} {Qc : Array Value → State → Outcome → State → Prop} {XC : String → State → State → Prop} {mc ms : Nat} {free : Addr → Prop} {bytes : ByteArray} {maxL : Nat} {ret : Option FieldType} {hh : List (Nat × Nat × Nat × Nat)}
    (hM : vx_Met l y ws rm Pc Qc XC mc ms free) (hblind : FrameBlind Pc) (hrc : rm.cells = mc) (hrs : rm.slots = ms)
    (hframes : rm.frames + 1 ≤ R.frames) (hlocals : W9 + (maxL + 11) + rm.locals ≤ R.locals)
    (hws : ∀ w ∈ ws, ∀ a' U, s.WarmedH U.vm → w.before a' U = true) (hcode : Cond.codeWith y bytes maxL ret hh ∈ ws) (hinit : ∀ a' U, s.WarmedH U.vm → (Cond.initialized y.cls).before a' U = true) :
    vx_Back l R p e below s sargs y len W9 (PreOf R mc ms Pc) (PostOf Qc mc ms free) (vx_Post XC mc ms free) := by
  intro m meth c A g ig mk a X hg hsize hdg hW hn hp
  have h1 : (headSpec ws rm).pre.before a A.U = true := atoms_intro fun w hw => hws w hw _ _ X.warmed
  have h2 : (Cond.codeWith y bytes maxL ret hh).before a A.U = true := hws _ hcode _ _ X.warmed
  have h3 : (Cond.initialized y.cls).before a A.U = true := hinit _ _ X.warmed
  have h4 : A.cells + (headSpec ws rm).room.cells ≤ R.cells := by rw [show (headSpec ws rm).room.cells = mc from hrc]; exact hp.1
  have h5 : A.slots + (headSpec ws rm).room.slots ≤ R.slots := by rw [show (headSpec ws rm).room.slots = ms from hrs]; exact hp.2.1
  have hPc : Pc a (A.U.calling g mk a) := hblind _ _ _ _ hp.2.2
  obtain ⟨U, Ls, c0, s0⟩ := A
  dsimp only [Pt.U, Pt.locs, Pt.cells, Pt.slots] at h1 h2 h3 h4 h5 X hn hPc ⊢
  obtain ⟨m9, methY, cY, hn9, hmY, hcY, -, hlY, -⟩ := Cond.codeWith_spec h2
  cases Option.some.inj (hn9.symm.trans hn)
  obtain ⟨kY, hkY, -⟩ := className_of_methodNamed hn
  have hinitY : kY.init = .initialized := Cond.initialized_spec (findClass_of_methodNamed hn) hkY h3
  have h : At U g.method c below := by rw [hg]; exact X.here
  have hlocals9 : W9 + (maxL + 11) + (headSpec ws rm).room.locals ≤ R.locals := hlocals
  have happ : (headSpec ws rm).appliesLoose y e.platform (U.calling g mk a) = true :=
    Spec.appliesLoose_calling (g := g) h hdg hn hkY hinitY
      (X.room_calling (g := g) (R' := (headSpec ws rm).room) hsize hmY hcY hframes (by rw [hlY]; omega) h4 h5) h1
  obtain ⟨mid, hmid⟩ := h.above
  have hfr : (U.setTop g).frames = (.java g :: mid) ++ below := by rw [State.frames_setTop' g h.top, hmid]; rfl
  obtain ⟨o, s₂, hsteps, -, hend, hq⟩ := Steps.callFree hM p X.admits X.cas X.clock (acts := []) hfr happ hPc trivial
  have hq' : vx_Q Qc XC mc ms free a (U.calling g mk a) o s₂ := hq
  rw [State.frames_setTop' g h.top] at hend
  obtain ⟨g₀, hg0⟩ := Option.isSome_iff_exists.mp h.top
  obtain ⟨r, hr⟩ := State.topJava?_eq_some.mp hg0
  have hr' : (({ U with heap := s₂.heap, slotsUsed := s₂.slotsUsed } : State).setVm s₂.vm).frames = .java g₀ :: r := hr
  rcases hq' with ⟨hqc, L, hfe, hL⟩ | ⟨q, rfl, E, ce, L, hx, hce, hcv, hcl, hW₂, hsm, hL⟩
  · obtain ⟨⟨v, rfl⟩, hW₂, e2, q2, q3, q4, q5, q6⟩ := id hfe
    have e3 : s₂ = ({ (U.calling g mk a).setFrames s₂.frames with heap := s₂.heap, slotsUsed := s₂.slotsUsed } : State).setVm s₂.vm := by
      have : s₂ = ({ s₂ with vm := (U.calling g mk a).vm } : State).setVm s₂.vm := rfl
      rw [e2] at this
      exact this
    obtain ⟨c₂, i₂, len₂, hc₂, hd₂, hf₂⟩ := hend
    have hW' : U.WarmedH s₂.vm := hW₂
    have hcc : c₂ = c := by
      have h1 : s₂.code? g.method = U.code? g.method := by
        rw [State.code?_eq, State.code?_eq, hW'.alike.method?]
      exact Option.some.inj (hc₂.symm.trans (h1.trans h.code))
    subst hcc
    have hlen : len₂ = len := by rw [hdg] at hd₂; cases hd₂; rfl
    subst hlen
    have hs₂ : s₂ = (({ U with heap := s₂.heap, slotsUsed := s₂.slotsUsed } : State).setVm s₂.vm).setTop { g with pc := g.pc + len₂, stack := v.toList ++ g.stack } := by
      refine e3.trans ?_
      rw [hf₂, State.calling_eq h.top, State.setFrames_setFrames, State.setTop_of_frames _ hr', hr]
      rfl
    have hsame : U.sameButNew ({ U with heap := s₂.heap, slotsUsed := s₂.slotsUsed } : State) L mc ms := by
      refine ⟨?_, q2, q3, q4, q5, q6⟩
      obtain ⟨t, ht, -⟩ := State.frames_cons hr
      show ({ U with heap := s₂.heap, slotsUsed := s₂.slotsUsed } : State) = { U.setFrames U.frames with heap := s₂.heap, slotsUsed := s₂.slotsUsed }
      rw [State.setFrames_self ht]
    subst hg
    refine Or.inl ⟨v, ⟨(({ U with heap := s₂.heap, slotsUsed := s₂.slotsUsed } : State).setVm s₂.vm), Ls ++ L, c0 + mc, s0 + ms⟩,
      ⟨X.admits, X.cas, X.clock, X.frames, X.room, X.hears, X.method, X.code, (X.here.setHeapUsed s₂.heap s₂.slotsUsed).setVm hW'.alike, X.tail, State.WarmedH.trans X.warmed hW', X.limits, X.bytes, X.same.trans (hsame.setVm s.vm)⟩,
      ⟨g, mk, s₂, L, rfl, rfl, hqc, rfl, hL, rfl, rfl⟩, ?_⟩
    show Steps p.tables e below _ ((({ U with heap := s₂.heap, slotsUsed := s₂.slotsUsed } : State).setVm s₂.vm).setTop { g with pc := g.pc + len₂, stack := v.toList ++ g.stack })
    rw [← hs₂]
    exact hsteps
  · obtain ⟨e2, q2, q3, q4, q5, q6⟩ := id hsm
    have e3 : s₂ = ({ (U.calling g mk a).setFrames s₂.frames with heap := s₂.heap, slotsUsed := s₂.slotsUsed } : State).setVm s₂.vm := by
      have : s₂ = ({ s₂ with vm := (U.calling g mk a).vm } : State).setVm s₂.vm := rfl
      rw [e2] at this
      exact this
    have hf₂ : s₂.frames = .throwing q :: .java g :: U.frames.tail := hend
    have hW' : U.WarmedH s₂.vm := hW₂
    have hs₂ : s₂ = ((({ U with heap := s₂.heap, slotsUsed := s₂.slotsUsed } : State).setVm s₂.vm).setTop g).pushFrame (.throwing q) := by
      refine e3.trans ?_
      rw [hf₂, State.calling_eq h.top, State.setFrames_setFrames, State.pushFrame, State.frames_setTop _ hr', State.setTop_of_frames _ hr', State.setFrames_setFrames, hr]
      rfl
    have hsame : U.sameButNew ({ U with heap := s₂.heap, slotsUsed := s₂.slotsUsed } : State) L mc ms := by
      refine ⟨?_, q2, q3, q4, q5, q6⟩
      obtain ⟨t, ht, -⟩ := State.frames_cons hr
      show ({ U with heap := s₂.heap, slotsUsed := s₂.slotsUsed } : State) = { U.setFrames U.frames with heap := s₂.heap, slotsUsed := s₂.slotsUsed }
      rw [State.setFrames_self ht]
    subst hg
    refine Or.inr ⟨q, ⟨(({ U with heap := s₂.heap, slotsUsed := s₂.slotsUsed } : State).setVm s₂.vm), Ls ++ L, c0 + mc, s0 + ms⟩,
      ⟨X.admits, X.cas, X.clock, X.frames, X.room, X.hears, X.method, X.code, (X.here.setHeapUsed s₂.heap s₂.slotsUsed).setVm hW'.alike, X.tail, State.WarmedH.trans X.warmed hW', X.limits, X.bytes, X.same.trans (hsame.setVm s.vm)⟩,
      ⟨g, mk, s₂, L, E, ce, rfl, rfl, hx, hce, hcv, hcl, rfl, hL, rfl, rfl⟩, ?_⟩
    show Steps p.tables e below _ (((({ U with heap := s₂.heap, slotsUsed := s₂.slotsUsed } : State).setVm s₂.vm).setTop g).pushFrame (.throwing q))
    rw [← hs₂]
    exact hsteps
end
variable {p : Program} {l : Launch} {e : Env} {R : Room} {s : State} {m : MethodId} {args : Array Value} {below : List Frame} {meth : Method} {c : Code} {T : State} {H : Heap} {locs : List Loc} {cells slots : Nat}
theorem vx_callVX (X : Stand p l e R s m args below meth c T locs cells slots) (hexec : p.tables.exec = Jvm.exec) {own C : String} {index : Nat} {y : MethodName} {bytes : ByteArray} {maxL : Nat} {ret : Option FieldType} {hh : List (Nat × Nat × Nat × Nat)}
    (hown : s.vm.findClass own = some m.cls) (hlink : (Cond.methodLink own index y).before args s = true) (hinst : (Cond.instanceMethod y).before args s = true) (hsel : (Cond.selects C y y).before args s = true)
    (hcode : (Cond.codeWith y bytes maxL ret hh).before args s = true) (hy : y.cls ≠ "java/lang/invoke/MethodHandle" ∧ y.cls ≠ "java/lang/invoke/VarHandle")
    {W9 : Nat} {Pre : Pt → Array Value → Prop} {Post : Pt → Array Value → Option Value → Pt → Prop} {PostX : Pt → Array Value → Addr → Pt → Prop} (hK : vx_Back l R p e below s args y 3 W9 Pre Post PostX)
    {b : Addr} {cellB : Cell} (hcell : T.heap[b]? = some cellB) (hobj : cellB.vm.isStatics = false) (hcls : s.vm.findClass C = some cellB.cls)
    {g : JFrame} (hg : g.method = m) (hsize : g.locals.size = c.maxLocals) {argsL rest : List Value} (hlen : ∀ sig, parseMethodDescriptor y.desc = some sig → argsL.length = sig.parameters.length)
    (hstack : g.stack = argsL.reverse ++ .ref b :: rest) (hW : 2 * g.monitorRoom + (rest.map fun v => v.category).sum ≤ W9) (hdg : decode c.code g.pc = .ok (.invokevirtual index, 3))
    (hpre : ∀ vm₁, s.WarmedH vm₁ → Pre ⟨T.setVm vm₁, locs, cells, slots⟩ (Value.ref b :: argsL).toArray) :
    (∃ (v : Option Value) (vm₁ : Vm) (B : Pt), s.WarmedH vm₁ ∧ Stand p l e R s m args below meth c B.U B.locs B.cells B.slots ∧ Post ⟨T.setVm vm₁, locs, cells, slots⟩ (Value.ref b :: argsL).toArray v B ∧
      ∀ target, Steps p.tables e below (B.U.setTop { g with pc := g.pc + 3, stack := v.toList ++ rest }) target → Steps p.tables e below (T.setTop g) target) ∨
    (∃ (q : Addr) (vm₁ : Vm) (B : Pt), s.WarmedH vm₁ ∧ Stand p l e R s m args below meth c B.U B.locs B.cells B.slots ∧ PostX ⟨T.setVm vm₁, locs, cells, slots⟩ (Value.ref b :: argsL).toArray q B ∧
      Steps p.tables e below (T.setTop g) ((B.U.setTop { g with stack := rest }).pushFrame (.throwing q))) := by
  obtain ⟨mk, methM, hnamed, hmethM, hstM, habM⟩ := Cond.instanceMethod_spec hinst
  obtain ⟨m8, methM', cM, hn8, hmethM', -, -, -, -, -, -, hsigM⟩ := Cond.codeWith_spec hcode
  cases Option.some.inj (hn8.symm.trans hnamed)
  cases hmethM.symm.trans hmethM'
  obtain ⟨c2, r2, m2, q1, q2, q3, q4, kP, hkP, hkPi⟩ := Cond.selects_spec hsel
  cases hcls.symm.trans q1
  cases (State.methodFound?_of_named hnamed hy).symm.trans q2
  cases hnamed.symm.trans q3
  have hselP : selectMethod e.platform s.vm cellB.cls mk = .method mk := by rw [Launch.admits_selectMethod X.admits]; exact q4
  obtain ⟨vm₁, X₁, hstep₁⟩ := X.invokevirtual hexec hown hlink hnamed hmethM hstM hkP hkPi hy (a := b) (cell := cellB) hcell
    (fun z h => by rw [h] at hobj; cases hobj) hselP hmethM habM hkP hkPi (g := g) hg (argsL := argsL) (rest := rest) (hlen _ hsigM) hstack hdg
  rcases hK m meth c ⟨T.setVm vm₁, locs, cells, slots⟩ { g with stack := rest } (.invokevirtual index) mk (Value.ref b :: argsL).toArray X₁ hg hsize hdg hW (X₁.named hnamed) (hpre vm₁ X₁.warmed) with ⟨v, B, X', hpost, hsteps⟩ | ⟨q, B, X', hpost, hsteps⟩
  · exact Or.inl ⟨v, vm₁, B, X₁.warmed, X', hpost, fun target h => hstep₁ _ fun acts => by rw [doInvoke_state]; exact hsteps.trans h⟩
  · exact Or.inr ⟨q, vm₁, B, X₁.warmed, X', hpost, hstep₁ _ fun acts => by rw [doInvoke_state]; exact hsteps⟩
theorem vx_callSX (X : Stand p l e R s m args below meth c T locs cells slots) (hexec : p.tables.exec = Jvm.exec) {own : String} {index : Nat} {y : MethodName} {bytes : ByteArray} {maxL : Nat} {ret : Option FieldType} {hh : List (Nat × Nat × Nat × Nat)}
    (hown : s.vm.findClass own = some m.cls) (hlink : (Cond.methodLink own index y).before args s = true) (hstat : (Cond.static y).before args s = true) (hinit : (Cond.initialized y.cls).before args s = true)
    (hcode : (Cond.codeWith y bytes maxL ret hh).before args s = true) (hy : y.cls ≠ "java/lang/invoke/MethodHandle" ∧ y.cls ≠ "java/lang/invoke/VarHandle")
    {W9 : Nat} {Pre : Pt → Array Value → Prop} {Post : Pt → Array Value → Option Value → Pt → Prop} {PostX : Pt → Array Value → Addr → Pt → Prop} (hK : vx_Back l R p e below s args y 3 W9 Pre Post PostX)
    {g : JFrame} (hg : g.method = m) (hsize : g.locals.size = c.maxLocals) {argsL rest : List Value} (hlen : ∀ sig, parseMethodDescriptor y.desc = some sig → argsL.length = sig.parameters.length)
    (hstack : g.stack = argsL.reverse ++ rest) (hW : 2 * g.monitorRoom + (rest.map fun v => v.category).sum ≤ W9) (hdg : decode c.code g.pc = .ok (.invokestatic index, 3))
    (hpre : ∀ vm₁, s.WarmedH vm₁ → Pre ⟨T.setVm vm₁, locs, cells, slots⟩ argsL.toArray) :
    (∃ (v : Option Value) (vm₁ : Vm) (B : Pt), s.WarmedH vm₁ ∧ Stand p l e R s m args below meth c B.U B.locs B.cells B.slots ∧ Post ⟨T.setVm vm₁, locs, cells, slots⟩ argsL.toArray v B ∧
      ∀ target, Steps p.tables e below (B.U.setTop { g with pc := g.pc + 3, stack := v.toList ++ rest }) target → Steps p.tables e below (T.setTop g) target) ∨
    (∃ (q : Addr) (vm₁ : Vm) (B : Pt), s.WarmedH vm₁ ∧ Stand p l e R s m args below meth c B.U B.locs B.cells B.slots ∧ PostX ⟨T.setVm vm₁, locs, cells, slots⟩ argsL.toArray q B ∧
      Steps p.tables e below (T.setTop g) ((B.U.setTop { g with stack := rest }).pushFrame (.throwing q))) := by
  obtain ⟨mk, methM, cM, hnamed, hmethM, -, -, -, -, -, -, hsigM⟩ := Cond.codeWith_spec hcode
  have hstatic : methM.isStatic = true := Cond.static_spec hnamed hmethM hstat
  obtain ⟨kP, hkP, -⟩ := className_of_methodNamed hnamed
  have hinitP : kP.init = .initialized := Cond.initialized_spec (findClass_of_methodNamed hnamed) hkP hinit
  obtain ⟨vm₁, X₁, hstep₁⟩ := X.invokestatic hexec hown hlink hnamed hmethM hstatic hkP hinitP hy (g := g) hg (argsL := argsL) (rest := rest) (hlen _ hsigM) hstack hdg
  rcases hK m meth c ⟨T.setVm vm₁, locs, cells, slots⟩ { g with stack := rest } (.invokestatic index) mk argsL.toArray X₁ hg hsize hdg hW (X₁.named hnamed) (hpre vm₁ X₁.warmed) with ⟨v, B, X', hpost, hsteps⟩ | ⟨q, B, X', hpost, hsteps⟩
  · exact Or.inl ⟨v, vm₁, B, X₁.warmed, X', hpost, fun target h => hstep₁ _ fun acts => by rw [doInvoke_state]; exact hsteps.trans h⟩
  · exact Or.inr ⟨q, vm₁, B, X₁.warmed, X', hpost, hstep₁ _ fun acts => by rw [doInvoke_state]; exact hsteps⟩
theorem vx_callVW (X : Stand p l e R s m args below meth c T locs cells slots) (hexec : p.tables.exec = Jvm.exec) {own C : String} {index : Nat} {y : MethodName} {bytes : ByteArray} {maxL : Nat} {ret : Option FieldType} {hh : List (Nat × Nat × Nat × Nat)}
    (hown : s.vm.findClass own = some m.cls) (hlink : (Cond.methodLink own index y).before args s = true) (hinst : (Cond.instanceMethod y).before args s = true) (hsel : (Cond.selects C y y).before args s = true)
    (hcode : (Cond.codeWith y bytes maxL ret hh).before args s = true) (hy : y.cls ≠ "java/lang/invoke/MethodHandle" ∧ y.cls ≠ "java/lang/invoke/VarHandle")
    {W9 : Nat} {Pre : Pt → Array Value → Prop} {Post : Pt → Array Value → Option Value → Pt → Prop} (hK : Back l R p e below s args y 3 W9 Pre Post)
    {b : Addr} {cellB : Cell} (hcell : T.heap[b]? = some cellB) (hobj : cellB.vm.isStatics = false) (hcls : s.vm.findClass C = some cellB.cls)
    {g : JFrame} (hg : g.method = m) (hsize : g.locals.size = c.maxLocals) {argsL rest : List Value} (hlen : ∀ sig, parseMethodDescriptor y.desc = some sig → argsL.length = sig.parameters.length)
    (hstack : g.stack = argsL.reverse ++ .ref b :: rest) (hW : 2 * g.monitorRoom + (rest.map fun v => v.category).sum ≤ W9) (hdg : decode c.code g.pc = .ok (.invokevirtual index, 3))
    (hpre : ∀ vm₁, s.WarmedH vm₁ → Pre ⟨T.setVm vm₁, locs, cells, slots⟩ (Value.ref b :: argsL).toArray) :
    ∃ (v : Option Value) (vm₁ : Vm) (B : Pt), s.WarmedH vm₁ ∧ Stand p l e R s m args below meth c B.U B.locs B.cells B.slots ∧ Post ⟨T.setVm vm₁, locs, cells, slots⟩ (Value.ref b :: argsL).toArray v B ∧
      ∀ target, Steps p.tables e below (B.U.setTop { g with pc := g.pc + 3, stack := v.toList ++ rest }) target → Steps p.tables e below (T.setTop g) target := by
  obtain ⟨mk, methM, hnamed, hmethM, hstM, habM⟩ := Cond.instanceMethod_spec hinst
  obtain ⟨m8, methM', cM, hn8, hmethM', -, -, -, -, -, -, hsigM⟩ := Cond.codeWith_spec hcode
  cases Option.some.inj (hn8.symm.trans hnamed)
  cases hmethM.symm.trans hmethM'
  obtain ⟨c2, r2, m2, q1, q2, q3, q4, kP, hkP, hkPi⟩ := Cond.selects_spec hsel
  cases hcls.symm.trans q1
  cases (State.methodFound?_of_named hnamed hy).symm.trans q2
  cases hnamed.symm.trans q3
  have hselP : selectMethod e.platform s.vm cellB.cls mk = .method mk := by rw [Launch.admits_selectMethod X.admits]; exact q4
  obtain ⟨vm₁, X₁, hstep₁⟩ := X.invokevirtual hexec hown hlink hnamed hmethM hstM hkP hkPi hy (a := b) (cell := cellB) hcell
    (fun z h => by rw [h] at hobj; cases hobj) hselP hmethM habM hkP hkPi (g := g) hg (argsL := argsL) (rest := rest) (hlen _ hsigM) hstack hdg
  obtain ⟨v, B, X', hpost, hsteps⟩ := hK m meth c ⟨T.setVm vm₁, locs, cells, slots⟩ { g with stack := rest } (.invokevirtual index) mk (Value.ref b :: argsL).toArray X₁ hg hsize hdg hW (X₁.named hnamed) (hpre vm₁ X₁.warmed)
  exact ⟨v, vm₁, B, X₁.warmed, X', hpost, fun target h => hstep₁ _ fun acts => by rw [doInvoke_state]; exact hsteps.trans h⟩
abbrev vx_CVW (R : Room) (s : State) (args : Array Value) (own C : String) (index : Nat) (y : MethodName) (bytes : ByteArray) (maxL : Nat) (ret : Option FieldType) (hh : List (Nat × Nat × Nat × Nat)) (ws : List Cond) (rm : Room) (mc ms n : Nat) : Prop :=
  (rm.cells = mc ∧ rm.slots = ms ∧ rm.frames + 1 ≤ R.frames ∧ 8 + (maxL + 11) + rm.locals ≤ R.locals ∧ (∀ w ∈ ws, ∀ (a' : Array Value) (U : State), s.WarmedH U.vm → w.before a' U = true) ∧ Cond.codeWith y bytes maxL ret hh ∈ ws) ∧
  (Cond.codeWith y bytes maxL ret hh).before args s = true ∧ (Cond.initialized y.cls).before args s = true ∧ (y.cls ≠ "java/lang/invoke/MethodHandle" ∧ y.cls ≠ "java/lang/invoke/VarHandle") ∧
  (∀ sig, parseMethodDescriptor y.desc = some sig → n = sig.parameters.length) ∧ (Cond.methodLink own index y).before args s = true ∧ (Cond.instanceMethod y).before args s = true ∧ (Cond.selects C y y).before args s = true
theorem vx_cwVW {own C : String} {index maxL mc ms : Nat} {y : MethodName} {bytes : ByteArray} {ret : Option FieldType} {hh : List (Nat × Nat × Nat × Nat)} {Ts ws ws' : List Cond} {rm : Room} (n : Nat) (ht : ∀ w ∈ Ts, w.before args s = true) (hT : GoodIn Ts (wsV own index C y ws)) (hw : ws = Cond.codeWith y bytes maxL ret hh :: ws') (hrc : rm.cells = mc) (hrs : rm.slots = ms)
    (hd : y.cls = C ∧ y.cls ≠ "java/lang/invoke/MethodHandle" ∧ y.cls ≠ "java/lang/invoke/VarHandle" ∧ (parseMethodDescriptor y.desc).map (fun d => d.parameters.length) = some n) (hR : rm.frames + 1 ≤ R.frames ∧ 8 + (maxL + 11) + rm.locals ≤ R.locals) :
    vx_CVW R s args own C index y bytes maxL ret hh ws rm mc ms n := by
  obtain ⟨hC, hd⟩ := hd
  subst hC
  have ok : ∀ w ∈ wsV own index y.cls y ws, w.before args s = true := fun w h => ht w (hT w h).1
  have hG : GoodIn Ts ws := fun w h => hT w (by unfold wsV; exact List.mem_append_right _ h)
  have hc : Cond.codeWith y bytes maxL ret hh ∈ ws := by rw [hw]; exact List.mem_cons_self
  refine ⟨⟨hrc, hrs, hR.1, hR.2, pay_in ht hG, hc⟩, ht _ (hG _ hc).1, ok _ (by simp [wsV]), ⟨hd.1, hd.2.1⟩, fun sig h => ?_, ok _ (by simp [wsV]), ok _ (by simp [wsV]), ok _ (by simp [wsV])⟩
  have h2 := hd.2.2
  rw [h] at h2
  exact (Option.some.inj h2).symm
theorem vx_runVW {y : MethodName} {bytes cc : ByteArray} {maxL nL mc ms n index : Nat} {ret : Option FieldType} {hh : List (Nat × Nat × Nat × Nat)} {ws : List Cond} {rm : Room} {Pc : Array Value → State → Prop} {Qc : Array Value → State → Outcome → State → Prop} {free : Addr → Prop} {Ts : List Cond} {own C : String} {b : Addr} {As rest : List Value} {g : JFrame}
    (S : CallFix p m c cc nL s args Ts own) (hM : Met l y ws rm Pc Qc mc ms free) (cw : vx_CVW R s args own C index y bytes maxL ret hh ws rm mc ms n) (hp : PreV s H C b Pc As)
    (hg : g.method = m) (hn : As.length = n) (hsize : g.locals.size = nL) (hstack : g.stack = As.reverse ++ .ref b :: rest) (hW : 2 * g.monitorRoom + (rest.map fun v => v.category).sum ≤ 8) (hdg : decode cc g.pc = .ok (.invokevirtual index, 3)) (hf : cells + mc ≤ R.cells ∧ slots + ms ≤ R.slots) :
    va_Run p l e R s m args below meth c H locs cells slots mc ms g rest (Qc (Value.ref b :: As).toArray) free := by
  obtain ⟨⟨hrc, hrs, hfr, hlo, hws, hcw⟩, hcode, hini, hy, hlen, hl, hin, hse⟩ := cw
  have hK : Back l R p e below s args y 3 8 (PreOf R mc ms Pc) (PostOf Qc mc ms free) := va_backW (hh := hh) (bytes := bytes) (maxL := maxL) (ret := ret) hM hp.1 hrc hrs hfr hlo hws hcw (fun a' U hW => word_at hW (Or.inl (by first | rfl | simp [Cond.onTables, Cond.keeps, Cond.steady])) hini)
  obtain ⟨hx, hb, hml, ho, -⟩ := S
  obtain ⟨-, ⟨cellB, hcB, hoB, hclB⟩, hPc⟩ := hp
  intro T hT X
  obtain ⟨v, vm₁, ⟨U', l2, c2, s2⟩, hW₁, X', ⟨g', mk, t, L, e1, e2, hq, h1, hL, h2, h3⟩, st⟩ := vx_callVW X hx (C := C) (hh := hh) (bytes := bytes) (maxL := maxL) (ret := ret) ho hl hin hse hcode hy hK (by rw [hT]; exact hcB) hoB hclB hg (hsize.trans hml.symm) (argsL := As) (rest := rest) (fun sig h => hn.trans (hlen sig h)) hstack hW (by rw [hb]; exact hdg)
    (fun vm₁ hW₁ => ⟨hf.1, hf.2, hPc (T.setVm vm₁) hT hW₁⟩)
  dsimp only [Pt.U, Pt.locs, Pt.cells, Pt.slots] at X' e1 e2 h1 h2 h3 st
  subst h1; subst h2; subst h3
  exact ⟨v, (T.setVm vm₁).calling g' mk (Value.ref b :: As).toArray, t, U', L, hT, X', hL, e1, e2, hq, st⟩
section
variable {y : MethodName} {bytes cc : ByteArray} {maxL nL mc ms n index : Nat} {ret : Option FieldType} {ws : List Cond} {rm : Room} {Pc : Array Value → State → Prop} {Qc : Array Value → State → Outcome → State → Prop} {XC : String → State → State → Prop} {free : Addr → Prop} {Ts : List Cond} {own C : String} {b : Addr} {As rest : List Value} {g : JFrame}
theorem vx_runVX {hh : List (Nat × Nat × Nat × Nat)} (S : CallFix p m c cc nL s args Ts own) (hM : vx_Met l y ws rm Pc Qc XC mc ms free) (cw : vx_CVW R s args own C index y bytes maxL ret hh ws rm mc ms n) (hp : PreV s H C b Pc As)
    (hg : g.method = m) (hn : As.length = n) (hsize : g.locals.size = nL) (hstack : g.stack = As.reverse ++ .ref b :: rest) (hW : 2 * g.monitorRoom + (rest.map fun v => v.category).sum ≤ 8) (hdg : decode cc g.pc = .ok (.invokevirtual index, 3)) (hf : cells + mc ≤ R.cells ∧ slots + ms ≤ R.slots) :
    vx_Run p l e R s m args below meth c H locs cells slots mc ms g rest (Qc (Value.ref b :: As).toArray) XC free := by
  obtain ⟨⟨hrc, hrs, hfr, hlo, hws, hcw⟩, hcode, hini, hy, hlen, hl, hin, hse⟩ := cw
  have hK : vx_Back l R p e below s args y 3 8 (PreOf R mc ms Pc) (PostOf Qc mc ms free) (vx_Post XC mc ms free) := vx_backW (hh := hh) (bytes := bytes) (maxL := maxL) (ret := ret) hM hp.1 hrc hrs hfr hlo hws hcw (fun a' U hW => word_at hW (Or.inl (by first | rfl | simp [Cond.onTables, Cond.keeps, Cond.steady])) hini)
  obtain ⟨hx, hb, hml, ho, -⟩ := S
  obtain ⟨-, ⟨cellB, hcB, hoB, hclB⟩, hPc⟩ := hp
  intro T hT X
  rcases vx_callVX X hx (C := C) (hh := hh) (bytes := bytes) (maxL := maxL) (ret := ret) ho hl hin hse hcode hy hK (by rw [hT]; exact hcB) hoB hclB hg (hsize.trans hml.symm) (argsL := As) (rest := rest) (fun sig h => hn.trans (hlen sig h)) hstack hW (by rw [hb]; exact hdg)
    (fun vm₁ hW₁ => ⟨hf.1, hf.2, hPc (T.setVm vm₁) hT hW₁⟩) with ⟨v, vm₁, ⟨U', l2, c2, s2⟩, hW₁, X', ⟨g', mk, t, L, e1, e2, hq, h1, hL, h2, h3⟩, st⟩ | ⟨q, vm₁, ⟨U', l2, c2, s2⟩, hW₁, X', ⟨g', mk, t, L, E, ce, e1, e2, hq, hce, hcv, hcl, h1, hL, h2, h3⟩, st⟩
  · dsimp only [Pt.U, Pt.locs, Pt.cells, Pt.slots] at X' e1 e2 h1 h2 h3 st
    subst h1; subst h2; subst h3
    exact Or.inl ⟨v, (T.setVm vm₁).calling g' mk (Value.ref b :: As).toArray, t, U', L, hT, X', hL, e1, e2, hq, st⟩
  · dsimp only [Pt.U, Pt.locs, Pt.cells, Pt.slots] at X' e1 e2 h1 h2 h3 st hcl
    subst h1; subst h2; subst h3
    exact Or.inr ⟨q, (T.setVm vm₁).calling g' mk (Value.ref b :: As).toArray, t, U', L, E, ce, hT, X', hL, e1, e2, hq, hce, hcv, vx_cls hW₁ hcl, st⟩
theorem vx_runSX {hh : List (Nat × Nat × Nat × Nat)} (S : CallFix p m c cc nL s args Ts own) (hM : vx_Met l y ws rm Pc Qc XC mc ms free) (cw : vx_CSW R s args own index y bytes maxL ret hh ws rm mc ms n) (hp : PreS s H Pc As)
    (hg : g.method = m) (hn : As.length = n) (hsize : g.locals.size = nL) (hstack : g.stack = As.reverse ++ rest) (hW : 2 * g.monitorRoom + (rest.map fun v => v.category).sum ≤ 8) (hdg : decode cc g.pc = .ok (.invokestatic index, 3)) (hf : cells + mc ≤ R.cells ∧ slots + ms ≤ R.slots) :
    vx_Run p l e R s m args below meth c H locs cells slots mc ms g rest (Qc As.toArray) XC free := by
  obtain ⟨⟨hrc, hrs, hfr, hlo, hws, hcw⟩, hcode, hini, hy, hlen, hl, hstt⟩ := cw
  have hK : vx_Back l R p e below s args y 3 8 (PreOf R mc ms Pc) (PostOf Qc mc ms free) (vx_Post XC mc ms free) := vx_backW (hh := hh) (bytes := bytes) (maxL := maxL) (ret := ret) hM hp.1 hrc hrs hfr hlo hws hcw (fun a' U hW => word_at hW (Or.inl (by first | rfl | simp [Cond.onTables, Cond.keeps, Cond.steady])) hini)
  obtain ⟨hx, hb, hml, ho, -⟩ := S
  intro T hT X
  rcases vx_callSX X hx (hh := hh) (bytes := bytes) (maxL := maxL) (ret := ret) ho hl hstt hini hcode hy hK hg (hsize.trans hml.symm) (argsL := As) (rest := rest) (fun sig h => hn.trans (hlen sig h)) hstack hW (by rw [hb]; exact hdg)
    (fun vm₁ hW₁ => ⟨hf.1, hf.2, hp.2 (T.setVm vm₁) hT hW₁⟩) with ⟨v, vm₁, ⟨U', l2, c2, s2⟩, hW₁, X', ⟨g', mk, t, L, e1, e2, hq, h1, hL, h2, h3⟩, st⟩ | ⟨q, vm₁, ⟨U', l2, c2, s2⟩, hW₁, X', ⟨g', mk, t, L, E, ce, e1, e2, hq, hce, hcv, hcl, h1, hL, h2, h3⟩, st⟩
  · dsimp only [Pt.U, Pt.locs, Pt.cells, Pt.slots] at X' e1 e2 h1 h2 h3 st
    subst h1; subst h2; subst h3
    exact Or.inl ⟨v, (T.setVm vm₁).calling g' mk As.toArray, t, U', L, hT, X', hL, e1, e2, hq, st⟩
  · dsimp only [Pt.U, Pt.locs, Pt.cells, Pt.slots] at X' e1 e2 h1 h2 h3 st hcl
    subst h1; subst h2; subst h3
    exact Or.inr ⟨q, (T.setVm vm₁).calling g' mk As.toArray, t, U', L, E, ce, hT, X', hL, e1, e2, hq, hce, hcv, vx_cls hW₁ hcl, st⟩
end
end VXH
theorem vx_ofWH {l : Launch} {y : MethodName} {ws ws' : List Cond} {rm : Room} {Pc : Array Value → State → Prop} {Qc : Array Value → State → Outcome → State → Prop} {XC : String → State → State → Prop} {mc ms : Nat} {free : Addr → Prop} {cc : ByteArray} {maxL : Nat} {ret : Option FieldType} {hh : List (Nat × Nat × Nat × Nat)}
    (hy : plainName y.cls = true) (hw : ws = Cond.codeWith y cc maxL ret hh :: ws')
    (body : ∀ p e s m args below meth c s₁, BodyLoose p l y (headSpec ws rm) cc maxL ret e s m args below meth c s₁ → c.maxLocals = maxL → Pc args s →
      W p l e (headSpec ws rm).room s m args below meth c s.heap [] 0 0 (vx_MQ below Qc XC args s mc ms free) (entryFrame m args maxL)) : vx_Met l y ws rm Pc Qc XC mc ms free := by
  refine MetFree.of_bodyS (code := cc) (maxLocals := maxL) (ret := ret) hy ?_ ?_
  · intro args s m h hn
    obtain ⟨m9, meth, c, hn9, h1, h2, h3, h4, -, h5, h6, -⟩ := Cond.codeWith_spec (atoms_spec (ws := ws) h _ (by rw [hw]; exact List.mem_cons_self))
    cases hn.symm.trans hn9
    exact ⟨meth, c, h1, h2, h3, h4, h5, h6⟩
  · intro p e s m args below meth c s₁ B hml hP _
    have hh0 : s₁.heap = s.heap := by rw [B.state]; rfl
    obtain ⟨t, a1, o, b1, b2, b3⟩ := body p e s m args below meth c s₁ B hml hP s₁ hh0 (Stand.of_body B)
    exact ⟨t, o, a1, b1, b2, b3⟩
/-! ===== END ===== -/
end
section
/-! names of this claim, laid by a program out of the Statement's rows and javap's listing -/
def R_S : String := "ShiftSignatures"
def R_M : String := "ShiftSignatures$Modulus"
def R_C : String := "ShiftSignatures$Circuit"
def R_D : String := "ShiftSignatures$Differences"
def R_O : String := "ShiftSignaturesModel"
def R_L : String := "ShiftSignaturesLaw"
def R_JI : String := "java/lang/Integer"
def R_JL : String := "java/lang/Long"
def F_S : u_T := fun k => match k with
  | 0 => ("ShiftSignatures", "modulus", "LShiftSignatures$Modulus;", true)
  | 1 => ("ShiftSignatures", "circuit", "LShiftSignatures$Circuit;", true)
  | 2 => ("ShiftSignatures", "differences", "LShiftSignatures$Differences;", true)
  | 3 => ("ShiftSignatures", "masks", "[J", true)
  | _ => ("ShiftSignatures", "register", "J", false)
def t_S : Nat → FieldType := fun k => match k with
  | 0 => (.object "ShiftSignatures$Modulus")
  | 1 => (.object "ShiftSignatures$Circuit")
  | 2 => (.object "ShiftSignatures$Differences")
  | 3 => (.array .long)
  | _ => .long
theorem n_S : ∀ a, a < 5 → ∀ b, b < 5 → a ≠ b → (F_S a).2.1 ≠ (F_S b).2.1 := by decide +kernel
theorem t_S_ok : ∀ k, k < 5 → parseFieldDescriptor (F_S k).2.2.1 = some (t_S k) := by decide +kernel
def F_M : u_T := fun k => match k with
  | 0 => ("ShiftSignatures$Modulus", "p", "J", false)
  | 1 => ("ShiftSignatures$Modulus", "degree", "I", false)
  | _ => ("ShiftSignatures$Modulus", "x", "J", false)
def t_M : Nat → FieldType := fun k => match k with
  | 0 => .long
  | 1 => .int
  | _ => .long
theorem n_M : ∀ a, a < 3 → ∀ b, b < 3 → a ≠ b → (F_M a).2.1 ≠ (F_M b).2.1 := by decide +kernel
theorem t_M_ok : ∀ k, k < 3 → parseFieldDescriptor (F_M k).2.2.1 = some (t_M k) := by decide +kernel
def F_C : u_T := fun k => match k with
  | 0 => ("ShiftSignatures$Circuit", "kinds", "[I", true)
  | 1 => ("ShiftSignatures$Circuit", "lefts", "[I", true)
  | 2 => ("ShiftSignatures$Circuit", "rights", "[I", true)
  | 3 => ("ShiftSignatures$Circuit", "outputLines", "[I", true)
  | 4 => ("ShiftSignatures$Circuit", "values", "[J", true)
  | 5 => ("ShiftSignatures$Circuit", "channelCount", "I", false)
  | 6 => ("ShiftSignatures$Circuit", "gateCount", "I", false)
  | _ => ("ShiftSignatures$Circuit", "outputCount", "I", false)
def t_C : Nat → FieldType := fun k => match k with
  | 0 => (.array .int)
  | 1 => (.array .int)
  | 2 => (.array .int)
  | 3 => (.array .int)
  | 4 => (.array .long)
  | 5 => .int
  | 6 => .int
  | _ => .int
theorem n_C : ∀ a, a < 8 → ∀ b, b < 8 → a ≠ b → (F_C a).2.1 ≠ (F_C b).2.1 := by decide +kernel
theorem t_C_ok : ∀ k, k < 8 → parseFieldDescriptor (F_C k).2.2.1 = some (t_C k) := by decide +kernel
def F_D : u_T := fun k => match k with
  | 0 => ("ShiftSignatures$Differences", "rows", "[J", true)
  | _ => ("ShiftSignatures$Differences", "seen", "J", false)
def t_D : Nat → FieldType := fun k => match k with
  | 0 => (.array .long)
  | _ => .long
theorem n_D : ∀ a, a < 2 → ∀ b, b < 2 → a ≠ b → (F_D a).2.1 ≠ (F_D b).2.1 := by decide +kernel
theorem t_D_ok : ∀ k, k < 2 → parseFieldDescriptor (F_D k).2.2.1 = some (t_D k) := by decide +kernel
def F_O : u_T := fun k => match k with
  | 0 => ("ShiftSignaturesModel", "fault", "I", false)
  | 1 => ("ShiftSignaturesModel", "poly", "J", false)
  | 2 => ("ShiftSignaturesModel", "degree", "I", false)
  | 3 => ("ShiftSignaturesModel", "register", "J", false)
  | 4 => ("ShiftSignaturesModel", "irreducible", "I", false)
  | 5 => ("ShiftSignaturesModel", "order", "J", false)
  | 6 => ("ShiftSignaturesModel", "channels", "I", false)
  | 7 => ("ShiftSignaturesModel", "masks", "[J", true)
  | 8 => ("ShiftSignaturesModel", "gates", "I", false)
  | 9 => ("ShiftSignaturesModel", "kinds", "[I", true)
  | 10 => ("ShiftSignaturesModel", "ones", "[I", true)
  | 11 => ("ShiftSignaturesModel", "others", "[I", true)
  | 12 => ("ShiftSignaturesModel", "outputs", "I", false)
  | 13 => ("ShiftSignaturesModel", "outs", "[I", true)
  | 14 => ("ShiftSignaturesModel", "lines", "[I", true)
  | 15 => ("ShiftSignaturesModel", "patterns", "[I", true)
  | _ => ("ShiftSignaturesModel", "answers", "[I", true)
def t_O : Nat → FieldType := fun k => match k with
  | 0 => .int
  | 1 => .long
  | 2 => .int
  | 3 => .long
  | 4 => .int
  | 5 => .long
  | 6 => .int
  | 7 => (.array .long)
  | 8 => .int
  | 9 => (.array .int)
  | 10 => (.array .int)
  | 11 => (.array .int)
  | 12 => .int
  | 13 => (.array .int)
  | 14 => (.array .int)
  | 15 => (.array .int)
  | _ => (.array .int)
theorem n_O : ∀ a, a < 17 → ∀ b, b < 17 → a ≠ b → (F_O a).2.1 ≠ (F_O b).2.1 := by decide +kernel
theorem t_O_ok : ∀ k, k < 17 → parseFieldDescriptor (F_O k).2.2.1 = some (t_O k) := by decide +kernel
abbrev classes : List vw_C := [(R_S, F_S, 5), (R_M, F_M, 3), (R_C, F_C, 8), (R_D, F_D, 2), (R_O, F_O, 17)]
def gw : List Cond := lw_tbl.filter goodWord
theorem gw_in {w : Cond} (h : w ∈ gw) : GoodIn gw (w :: gw) := fun v hv => by
  rcases List.mem_cons.mp hv with rfl | hv
  · exact ⟨h, good_of_word (List.mem_filter.mp h).2⟩
  · exact ⟨hv, good_of_word (List.mem_filter.mp hv).2⟩
def nw_l : List Cond := [(Jvm.Cond.fieldLinkNest "ShiftSignatures$Differences" (45 : Nat) "ShiftSignatures$Modulus" "p" "J" "ShiftSignatures"), (Jvm.Cond.fieldLinkNest "ShiftSignatures$Differences" (40 : Nat) "ShiftSignatures$Modulus" "degree" "I" "ShiftSignatures"), (Jvm.Cond.fieldLinkNest "ShiftSignatures" (81 : Nat) "ShiftSignatures$Modulus" "degree" "I" "ShiftSignatures"), (Jvm.Cond.fieldLinkNest "ShiftSignatures" (94 : Nat) "ShiftSignatures$Modulus" "x" "J" "ShiftSignatures"), (Jvm.Cond.fieldLinkNest "ShiftSignatures" (97 : Nat) "ShiftSignatures$Circuit" "channelCount" "I" "ShiftSignatures"), (Jvm.Cond.fieldLinkNest "ShiftSignatures" (113 : Nat) "ShiftSignatures$Circuit" "gateCount" "I" "ShiftSignatures"), (Jvm.Cond.fieldLinkNest "ShiftSignatures$Differences" (29 : Nat) "ShiftSignatures$Circuit" "outputCount" "I" "ShiftSignatures"), (Jvm.Cond.fieldLinkNest "ShiftSignatures" (122 : Nat) "ShiftSignatures$Circuit" "outputCount" "I" "ShiftSignatures"), (Jvm.Cond.fieldLinkNest "ShiftSignatures" (156 : Nat) "ShiftSignatures$Differences" "seen" "J" "ShiftSignatures"), (Jvm.Cond.methodLinkNest "ShiftSignatures" (11 : Nat) ({ cls := "ShiftSignatures$Modulus", name := "<init>", desc := "()V" } : Jvm.MethodName) "ShiftSignatures"), (Jvm.Cond.methodLinkNest "ShiftSignatures" (18 : Nat) ({ cls := "ShiftSignatures$Circuit", name := "<init>", desc := "()V" } : Jvm.MethodName) "ShiftSignatures"), (Jvm.Cond.methodLinkNest "ShiftSignatures" (25 : Nat) ({ cls := "ShiftSignatures$Differences", name := "<init>", desc := "()V" } : Jvm.MethodName) "ShiftSignatures"), (Jvm.Cond.methodLinkNest "ShiftSignatures" (70 : Nat) ({ cls := "ShiftSignatures$Modulus", name := "reduced", desc := "(J)J" } : Jvm.MethodName) "ShiftSignatures"), (Jvm.Cond.methodLinkNest "ShiftSignatures" (74 : Nat) ({ cls := "ShiftSignatures$Modulus", name := "isIrreducible", desc := "()Z" } : Jvm.MethodName) "ShiftSignatures"), (Jvm.Cond.methodLinkNest "ShiftSignatures" (78 : Nat) ({ cls := "ShiftSignatures$Modulus", name := "isPrimitive", desc := "()Z" } : Jvm.MethodName) "ShiftSignatures"), (Jvm.Cond.methodLinkNest "ShiftSignatures" (87 : Nat) ({ cls := "ShiftSignatures$Modulus", name := "multipleOfOrder", desc := "()J" } : Jvm.MethodName) "ShiftSignatures"), (Jvm.Cond.methodLinkNest "ShiftSignatures" (91 : Nat) ({ cls := "ShiftSignatures$Modulus", name := "orderWithin", desc := "(J)J" } : Jvm.MethodName) "ShiftSignatures"), (Jvm.Cond.methodLinkNest "ShiftSignatures" (38 : Nat) ({ cls := "ShiftSignatures$Modulus", name := "degreeOf", desc := "(J)I" } : Jvm.MethodName) "ShiftSignatures"), (Jvm.Cond.methodLinkNest "ShiftSignatures" (49 : Nat) ({ cls := "ShiftSignatures$Modulus", name := "become", desc := "(J)V" } : Jvm.MethodName) "ShiftSignatures"), (Jvm.Cond.methodLinkNest "ShiftSignatures" (53 : Nat) ({ cls := "ShiftSignatures$Circuit", name := "restart", desc := "(I)V" } : Jvm.MethodName) "ShiftSignatures"), (Jvm.Cond.methodLinkNest "ShiftSignatures" (173 : Nat) ({ cls := "ShiftSignatures$Modulus", name := "hasResidue", desc := "(J)Z" } : Jvm.MethodName) "ShiftSignatures"), (Jvm.Cond.methodLinkNest "ShiftSignatures" (60 : Nat) ({ cls := "ShiftSignatures$Modulus", name := "product", desc := "(JJ)J" } : Jvm.MethodName) "ShiftSignatures"), (Jvm.Cond.methodLinkNest "ShiftSignatures" (67 : Nat) ({ cls := "ShiftSignatures$Modulus", name := "raised", desc := "(JJ)J" } : Jvm.MethodName) "ShiftSignatures"), (Jvm.Cond.methodLinkNest "ShiftSignatures" (183 : Nat) ({ cls := "ShiftSignatures$Circuit", name := "countLines", desc := "()I" } : Jvm.MethodName) "ShiftSignatures"), (Jvm.Cond.methodLinkNest "ShiftSignatures" (118 : Nat) ({ cls := "ShiftSignatures$Circuit", name := "addGate", desc := "(III)I" } : Jvm.MethodName) "ShiftSignatures"), (Jvm.Cond.methodLinkNest "ShiftSignatures" (127 : Nat) ({ cls := "ShiftSignatures$Circuit", name := "addOutput", desc := "(I)I" } : Jvm.MethodName) "ShiftSignatures"), (Jvm.Cond.methodLinkNest "ShiftSignatures" (149 : Nat) ({ cls := "ShiftSignatures$Circuit", name := "countFaults", desc := "()I" } : Jvm.MethodName) "ShiftSignatures"), (Jvm.Cond.methodLinkNest "ShiftSignatures" (134 : Nat) ({ cls := "ShiftSignatures$Circuit", name := "answerTo", desc := "(II)I" } : Jvm.MethodName) "ShiftSignatures"), (Jvm.Cond.methodLinkNest "ShiftSignatures" (141 : Nat) ({ cls := "ShiftSignatures$Modulus", name := "stepped", desc := "(J)J" } : Jvm.MethodName) "ShiftSignatures"), (Jvm.Cond.methodLinkNest "ShiftSignatures" (190 : Nat) ({ cls := "ShiftSignatures$Differences", name := "clear", desc := "()V" } : Jvm.MethodName) "ShiftSignatures"), (Jvm.Cond.methodLinkNest "ShiftSignatures" (193 : Nat) ({ cls := "ShiftSignatures$Differences", name := "timesX", desc := "()V" } : Jvm.MethodName) "ShiftSignatures"), (Jvm.Cond.methodLinkNest "ShiftSignatures" (196 : Nat) ({ cls := "ShiftSignatures$Differences", name := "addAnswers", desc := "(LShiftSignatures$Circuit;I)V" } : Jvm.MethodName) "ShiftSignatures"), (Jvm.Cond.methodLinkNest "ShiftSignatures$Differences" (19 : Nat) ({ cls := "ShiftSignatures$Circuit", name := "answerTo", desc := "(II)I" } : Jvm.MethodName) "ShiftSignatures"), (Jvm.Cond.methodLinkNest "ShiftSignatures$Differences" (25 : Nat) ({ cls := "ShiftSignatures$Circuit", name := "settle", desc := "(IZ)V" } : Jvm.MethodName) "ShiftSignatures"), (Jvm.Cond.methodLinkNest "ShiftSignatures$Differences" (33 : Nat) ({ cls := "ShiftSignatures$Circuit", name := "valuesOfOutput", desc := "(I)J" } : Jvm.MethodName) "ShiftSignatures"), (Jvm.Cond.methodLinkNest "ShiftSignatures$Differences" (37 : Nat) ({ cls := "ShiftSignatures$Circuit", name := "spread", desc := "(I)J" } : Jvm.MethodName) "ShiftSignatures"), (Jvm.Cond.methodLinkNest "ShiftSignatures" (200 : Nat) ({ cls := "ShiftSignatures$Differences", name := "reduce", desc := "(LShiftSignatures$Modulus;)V" } : Jvm.MethodName) "ShiftSignatures"), (Jvm.Cond.methodLinkNest "ShiftSignatures" (164 : Nat) ({ cls := "ShiftSignatures$Differences", name := "found", desc := "()J" } : Jvm.MethodName) "ShiftSignatures")]
theorem kw_0 : (Jvm.Cond.initialized "ShiftSignaturesLaw") ∈ gw := List.mem_filter.mpr ⟨List.mem_append_right _ (List.mem_append_left _ (List.mem_of_getElem? (i := 0) rfl)), by decide +kernel⟩
theorem kw_1 : (Jvm.Cond.initialized "ShiftSignatures") ∈ gw := List.mem_filter.mpr ⟨List.mem_append_right _ (List.mem_append_left _ (List.mem_of_getElem? (i := 1) rfl)), by decide +kernel⟩
theorem kw_2 : (Jvm.Cond.initialized "ShiftSignatures$Modulus") ∈ gw := List.mem_filter.mpr ⟨List.mem_append_right _ (List.mem_append_left _ (List.mem_of_getElem? (i := 2) rfl)), by decide +kernel⟩
theorem kw_3 : (Jvm.Cond.initialized "ShiftSignatures$Circuit") ∈ gw := List.mem_filter.mpr ⟨List.mem_append_right _ (List.mem_append_left _ (List.mem_of_getElem? (i := 3) rfl)), by decide +kernel⟩
theorem kw_4 : (Jvm.Cond.initialized "ShiftSignatures$Differences") ∈ gw := List.mem_filter.mpr ⟨List.mem_append_right _ (List.mem_append_left _ (List.mem_of_getElem? (i := 4) rfl)), by decide +kernel⟩
theorem kw_5 : (Jvm.Cond.initialized "ShiftSignaturesModel") ∈ gw := List.mem_filter.mpr ⟨List.mem_append_right _ (List.mem_append_left _ (List.mem_of_getElem? (i := 5) rfl)), by decide +kernel⟩
theorem kw_6 : (Jvm.Cond.initialized "java/lang/Long") ∈ gw := List.mem_filter.mpr ⟨List.mem_append_right _ (List.mem_append_left _ (List.mem_of_getElem? (i := 6) rfl)), by decide +kernel⟩
theorem kw_7 : (Jvm.Cond.initialized "java/lang/Integer") ∈ gw := List.mem_filter.mpr ⟨List.mem_append_right _ (List.mem_append_left _ (List.mem_of_getElem? (i := 7) rfl)), by decide +kernel⟩
theorem kw_8 : (Jvm.Cond.initialized "java/lang/Throwable") ∈ gw := List.mem_filter.mpr ⟨List.mem_append_right _ (List.mem_append_left _ (List.mem_of_getElem? (i := 8) rfl)), by decide +kernel⟩
theorem kw_9 : (Jvm.Cond.initialized "java/lang/Exception") ∈ gw := List.mem_filter.mpr ⟨List.mem_append_right _ (List.mem_append_left _ (List.mem_of_getElem? (i := 9) rfl)), by decide +kernel⟩
theorem kw_10 : (Jvm.Cond.initialized "java/lang/RuntimeException") ∈ gw := List.mem_filter.mpr ⟨List.mem_append_right _ (List.mem_append_left _ (List.mem_of_getElem? (i := 10) rfl)), by decide +kernel⟩
theorem kw_11 : (Jvm.Cond.initialized "java/lang/IllegalArgumentException") ∈ gw := List.mem_filter.mpr ⟨List.mem_append_right _ (List.mem_append_left _ (List.mem_of_getElem? (i := 11) rfl)), by decide +kernel⟩
theorem kw_12 : (Jvm.Cond.initialized "java/lang/IllegalStateException") ∈ gw := List.mem_filter.mpr ⟨List.mem_append_right _ (List.mem_append_left _ (List.mem_of_getElem? (i := 12) rfl)), by decide +kernel⟩
theorem kw_13 : (Jvm.Cond.initialized "java/lang/IndexOutOfBoundsException") ∈ gw := List.mem_filter.mpr ⟨List.mem_append_right _ (List.mem_append_left _ (List.mem_of_getElem? (i := 13) rfl)), by decide +kernel⟩
theorem kw_14 : (Jvm.Cond.classLink "ShiftSignaturesLaw" (8 : Nat) "ShiftSignatures") ∈ gw := List.mem_filter.mpr ⟨List.mem_append_right _ (List.mem_append_left _ (List.mem_of_getElem? (i := 14) rfl)), by decide +kernel⟩
theorem kw_22 : (Jvm.Cond.classLink "ShiftSignatures" (9 : Nat) "ShiftSignatures$Modulus") ∈ gw := List.mem_filter.mpr ⟨List.mem_append_right _ (List.mem_append_left _ (List.mem_of_getElem? (i := 22) rfl)), by decide +kernel⟩
theorem kw_43 : (Jvm.Cond.classLink "ShiftSignatures" (16 : Nat) "ShiftSignatures$Circuit") ∈ gw := List.mem_filter.mpr ⟨List.mem_append_right _ (List.mem_append_left _ (List.mem_of_getElem? (i := 43) rfl)), by decide +kernel⟩
theorem kw_80 : (Jvm.Cond.classLink "ShiftSignatures" (23 : Nat) "ShiftSignatures$Differences") ∈ gw := List.mem_filter.mpr ⟨List.mem_append_right _ (List.mem_append_left _ (List.mem_of_getElem? (i := 80) rfl)), by decide +kernel⟩
theorem kw_206 : (Jvm.Cond.classLink "ShiftSignaturesLaw" (13 : Nat) "java/lang/IllegalArgumentException") ∈ gw := List.mem_filter.mpr ⟨List.mem_append_right _ (List.mem_append_left _ (List.mem_of_getElem? (i := 206) rfl)), by decide +kernel⟩
theorem kw_212 : (Jvm.Cond.classLink "ShiftSignatures" (42 : Nat) "java/lang/IllegalArgumentException") ∈ gw := List.mem_filter.mpr ⟨List.mem_append_right _ (List.mem_append_left _ (List.mem_of_getElem? (i := 212) rfl)), by decide +kernel⟩
theorem kw_337 : (Jvm.Cond.classLink "ShiftSignaturesLaw" (32 : Nat) "java/lang/IllegalStateException") ∈ gw := List.mem_filter.mpr ⟨List.mem_append_right _ (List.mem_append_right _ (List.mem_append_left _ (List.mem_of_getElem? (i := 97) rfl))), by decide +kernel⟩
theorem kw_342 : (Jvm.Cond.classLink "ShiftSignatures" (100 : Nat) "java/lang/IllegalStateException") ∈ gw := List.mem_filter.mpr ⟨List.mem_append_right _ (List.mem_append_right _ (List.mem_append_left _ (List.mem_of_getElem? (i := 102) rfl))), by decide +kernel⟩
theorem kw_361 : (Jvm.Cond.classLink "ShiftSignaturesLaw" (38 : Nat) "java/lang/IndexOutOfBoundsException") ∈ gw := List.mem_filter.mpr ⟨List.mem_append_right _ (List.mem_append_right _ (List.mem_append_left _ (List.mem_of_getElem? (i := 121) rfl))), by decide +kernel⟩
theorem kw_375 : (Jvm.Cond.classLink "ShiftSignatures" (144 : Nat) "java/lang/IndexOutOfBoundsException") ∈ gw := List.mem_filter.mpr ⟨List.mem_append_right _ (List.mem_append_right _ (List.mem_append_left _ (List.mem_of_getElem? (i := 135) rfl))), by decide +kernel⟩
theorem kw_521 : (Jvm.Cond.classLink "ShiftSignaturesLaw" (59 : Nat) "ShiftSignaturesModel") ∈ gw := List.mem_filter.mpr ⟨List.mem_append_right _ (List.mem_append_right _ (List.mem_append_right _ (List.mem_append_left _ (List.mem_of_getElem? (i := 41) rfl)))), by decide +kernel⟩
theorem kw_15 : (Jvm.Cond.instantiable "ShiftSignatures" (5 : Nat)) ∈ gw := List.mem_filter.mpr ⟨List.mem_append_right _ (List.mem_append_left _ (List.mem_of_getElem? (i := 15) rfl)), by decide +kernel⟩
theorem kw_23 : (Jvm.Cond.instantiable "ShiftSignatures$Modulus" (3 : Nat)) ∈ gw := List.mem_filter.mpr ⟨List.mem_append_right _ (List.mem_append_left _ (List.mem_of_getElem? (i := 23) rfl)), by decide +kernel⟩
theorem kw_44 : (Jvm.Cond.instantiable "ShiftSignatures$Circuit" (8 : Nat)) ∈ gw := List.mem_filter.mpr ⟨List.mem_append_right _ (List.mem_append_left _ (List.mem_of_getElem? (i := 44) rfl)), by decide +kernel⟩
theorem kw_81 : (Jvm.Cond.instantiable "ShiftSignatures$Differences" (2 : Nat)) ∈ gw := List.mem_filter.mpr ⟨List.mem_append_right _ (List.mem_append_left _ (List.mem_of_getElem? (i := 81) rfl)), by decide +kernel⟩
theorem kw_213 : (Jvm.Cond.instantiable "java/lang/IllegalArgumentException" (6 : Nat)) ∈ gw := List.mem_filter.mpr ⟨List.mem_append_right _ (List.mem_append_left _ (List.mem_of_getElem? (i := 213) rfl)), by decide +kernel⟩
theorem kw_251 : (Jvm.Cond.instantiable "java/lang/Throwable" (6 : Nat)) ∈ gw := List.mem_filter.mpr ⟨List.mem_append_right _ (List.mem_append_right _ (List.mem_append_left _ (List.mem_of_getElem? (i := 11) rfl))), by decide +kernel⟩
theorem kw_343 : (Jvm.Cond.instantiable "java/lang/IllegalStateException" (6 : Nat)) ∈ gw := List.mem_filter.mpr ⟨List.mem_append_right _ (List.mem_append_right _ (List.mem_append_left _ (List.mem_of_getElem? (i := 103) rfl))), by decide +kernel⟩
theorem kw_376 : (Jvm.Cond.instantiable "java/lang/IndexOutOfBoundsException" (6 : Nat)) ∈ gw := List.mem_filter.mpr ⟨List.mem_append_right _ (List.mem_append_right _ (List.mem_append_left _ (List.mem_of_getElem? (i := 136) rfl))), by decide +kernel⟩
theorem kw_522 : (Jvm.Cond.instantiable "ShiftSignaturesModel" (17 : Nat)) ∈ gw := List.mem_filter.mpr ⟨List.mem_append_right _ (List.mem_append_right _ (List.mem_append_right _ (List.mem_append_left _ (List.mem_of_getElem? (i := 42) rfl)))), by decide +kernel⟩
theorem kw_16 : (Jvm.Cond.methodLink "ShiftSignaturesLaw" (58 : Nat) ({ cls := "ShiftSignatures", name := "<init>", desc := "()V" } : Jvm.MethodName)) ∈ gw := List.mem_filter.mpr ⟨List.mem_append_right _ (List.mem_append_left _ (List.mem_of_getElem? (i := 16) rfl)), by decide +kernel⟩
theorem kw_19 : (Jvm.Cond.methodLink "ShiftSignatures" (3 : Nat) ({ cls := "java/lang/Object", name := "<init>", desc := "()V" } : Jvm.MethodName)) ∈ gw := List.mem_filter.mpr ⟨List.mem_append_right _ (List.mem_append_left _ (List.mem_of_getElem? (i := 19) rfl)), by decide +kernel⟩
theorem kw_27 : (Jvm.Cond.methodLink "ShiftSignatures$Modulus" (3 : Nat) ({ cls := "java/lang/Object", name := "<init>", desc := "()V" } : Jvm.MethodName)) ∈ gw := List.mem_filter.mpr ⟨List.mem_append_right _ (List.mem_append_left _ (List.mem_of_getElem? (i := 27) rfl)), by decide +kernel⟩
theorem kw_48 : (Jvm.Cond.methodLink "ShiftSignatures$Circuit" (3 : Nat) ({ cls := "java/lang/Object", name := "<init>", desc := "()V" } : Jvm.MethodName)) ∈ gw := List.mem_filter.mpr ⟨List.mem_append_right _ (List.mem_append_left _ (List.mem_of_getElem? (i := 48) rfl)), by decide +kernel⟩
theorem kw_85 : (Jvm.Cond.methodLink "ShiftSignatures$Differences" (3 : Nat) ({ cls := "java/lang/Object", name := "<init>", desc := "()V" } : Jvm.MethodName)) ∈ gw := List.mem_filter.mpr ⟨List.mem_append_right _ (List.mem_append_left _ (List.mem_of_getElem? (i := 85) rfl)), by decide +kernel⟩
theorem kw_110 : (Jvm.Cond.methodLink "ShiftSignaturesLaw" (81 : Nat) ({ cls := "ShiftSignatures", name := "residue", desc := "(J)J" } : Jvm.MethodName)) ∈ gw := List.mem_filter.mpr ⟨List.mem_append_right _ (List.mem_append_left _ (List.mem_of_getElem? (i := 110) rfl)), by decide +kernel⟩
theorem kw_118 : (Jvm.Cond.methodLink "ShiftSignatures$Modulus" (34 : Nat) ({ cls := "ShiftSignatures$Modulus", name := "remainder", desc := "(JJ)J" } : Jvm.MethodName)) ∈ gw := List.mem_filter.mpr ⟨List.mem_append_right _ (List.mem_append_left _ (List.mem_of_getElem? (i := 118) rfl)), by decide +kernel⟩
theorem kw_121 : (Jvm.Cond.methodLink "ShiftSignatures$Modulus" (24 : Nat) ({ cls := "ShiftSignatures$Modulus", name := "degreeOf", desc := "(J)I" } : Jvm.MethodName)) ∈ gw := List.mem_filter.mpr ⟨List.mem_append_right _ (List.mem_append_left _ (List.mem_of_getElem? (i := 121) rfl)), by decide +kernel⟩
theorem kw_124 : (Jvm.Cond.methodLink "ShiftSignatures$Modulus" (65 : Nat) ({ cls := "java/lang/Long", name := "numberOfLeadingZeros", desc := "(J)I" } : Jvm.MethodName)) ∈ gw := List.mem_filter.mpr ⟨List.mem_append_right _ (List.mem_append_left _ (List.mem_of_getElem? (i := 124) rfl)), by decide +kernel⟩
theorem kw_127 : (Jvm.Cond.methodLink "java/lang/Long" (308 : Nat) ({ cls := "java/lang/Integer", name := "numberOfLeadingZeros", desc := "(I)I" } : Jvm.MethodName)) ∈ gw := List.mem_filter.mpr ⟨List.mem_append_right _ (List.mem_append_left _ (List.mem_of_getElem? (i := 127) rfl)), by decide +kernel⟩
theorem kw_131 : (Jvm.Cond.methodLink "ShiftSignaturesLaw" (85 : Nat) ({ cls := "ShiftSignatures", name := "irreducible", desc := "()Z" } : Jvm.MethodName)) ∈ gw := List.mem_filter.mpr ⟨List.mem_append_right _ (List.mem_append_left _ (List.mem_of_getElem? (i := 131) rfl)), by decide +kernel⟩
theorem kw_139 : (Jvm.Cond.methodLink "ShiftSignatures$Modulus" (41 : Nat) ({ cls := "ShiftSignatures$Modulus", name := "product", desc := "(JJ)J" } : Jvm.MethodName)) ∈ gw := List.mem_filter.mpr ⟨List.mem_append_right _ (List.mem_append_left _ (List.mem_of_getElem? (i := 139) rfl)), by decide +kernel⟩
theorem kw_143 : (Jvm.Cond.methodLink "ShiftSignatures$Modulus" (38 : Nat) ({ cls := "ShiftSignatures$Modulus", name := "stepped", desc := "(J)J" } : Jvm.MethodName)) ∈ gw := List.mem_filter.mpr ⟨List.mem_append_right _ (List.mem_append_left _ (List.mem_of_getElem? (i := 143) rfl)), by decide +kernel⟩
theorem kw_147 : (Jvm.Cond.methodLink "ShiftSignatures$Modulus" (44 : Nat) ({ cls := "ShiftSignatures$Modulus", name := "commonDivisor", desc := "(JJ)J" } : Jvm.MethodName)) ∈ gw := List.mem_filter.mpr ⟨List.mem_append_right _ (List.mem_append_left _ (List.mem_of_getElem? (i := 147) rfl)), by decide +kernel⟩
theorem kw_150 : (Jvm.Cond.methodLink "ShiftSignaturesLaw" (90 : Nat) ({ cls := "ShiftSignatures", name := "primitive", desc := "()Z" } : Jvm.MethodName)) ∈ gw := List.mem_filter.mpr ⟨List.mem_append_right _ (List.mem_append_left _ (List.mem_of_getElem? (i := 150) rfl)), by decide +kernel⟩
theorem kw_158 : (Jvm.Cond.methodLink "ShiftSignatures$Modulus" (47 : Nat) ({ cls := "ShiftSignatures$Modulus", name := "raised", desc := "(JJ)J" } : Jvm.MethodName)) ∈ gw := List.mem_filter.mpr ⟨List.mem_append_right _ (List.mem_append_left _ (List.mem_of_getElem? (i := 158) rfl)), by decide +kernel⟩
theorem kw_162 : (Jvm.Cond.methodLink "ShiftSignatures$Modulus" (50 : Nat) ({ cls := "ShiftSignatures$Modulus", name := "orderWithin", desc := "(J)J" } : Jvm.MethodName)) ∈ gw := List.mem_filter.mpr ⟨List.mem_append_right _ (List.mem_append_left _ (List.mem_of_getElem? (i := 162) rfl)), by decide +kernel⟩
theorem kw_168 : (Jvm.Cond.methodLink "ShiftSignatures$Modulus" (62 : Nat) ({ cls := "ShiftSignatures$Modulus", name := "withoutNeedless", desc := "(JJ)J" } : Jvm.MethodName)) ∈ gw := List.mem_filter.mpr ⟨List.mem_append_right _ (List.mem_append_left _ (List.mem_of_getElem? (i := 168) rfl)), by decide +kernel⟩
theorem kw_172 : (Jvm.Cond.methodLink "ShiftSignaturesLaw" (94 : Nat) ({ cls := "ShiftSignatures", name := "order", desc := "()J" } : Jvm.MethodName)) ∈ gw := List.mem_filter.mpr ⟨List.mem_append_right _ (List.mem_append_left _ (List.mem_of_getElem? (i := 172) rfl)), by decide +kernel⟩
theorem kw_182 : (Jvm.Cond.methodLink "ShiftSignatures$Modulus" (55 : Nat) ({ cls := "ShiftSignatures$Modulus", name := "without", desc := "(JJ)J" } : Jvm.MethodName)) ∈ gw := List.mem_filter.mpr ⟨List.mem_append_right _ (List.mem_append_left _ (List.mem_of_getElem? (i := 182) rfl)), by decide +kernel⟩
theorem kw_185 : (Jvm.Cond.methodLink "ShiftSignatures$Modulus" (70 : Nat) ({ cls := "ShiftSignatures$Modulus", name := "quotient", desc := "(JJ)J" } : Jvm.MethodName)) ∈ gw := List.mem_filter.mpr ⟨List.mem_append_right _ (List.mem_append_left _ (List.mem_of_getElem? (i := 185) rfl)), by decide +kernel⟩
theorem kw_189 : (Jvm.Cond.methodLink "ShiftSignaturesLaw" (108 : Nat) ({ cls := "ShiftSignatures", name := "pattern", desc := "()I" } : Jvm.MethodName)) ∈ gw := List.mem_filter.mpr ⟨List.mem_append_right _ (List.mem_append_left _ (List.mem_of_getElem? (i := 189) rfl)), by decide +kernel⟩
theorem kw_193 : (Jvm.Cond.methodLink "ShiftSignatures" (105 : Nat) ({ cls := "ShiftSignatures", name := "patternOf", desc := "(J)I" } : Jvm.MethodName)) ∈ gw := List.mem_filter.mpr ⟨List.mem_append_right _ (List.mem_append_left _ (List.mem_of_getElem? (i := 193) rfl)), by decide +kernel⟩
theorem kw_197 : (Jvm.Cond.methodLink "ShiftSignatures" (159 : Nat) ({ cls := "java/lang/Long", name := "bitCount", desc := "(J)I" } : Jvm.MethodName)) ∈ gw := List.mem_filter.mpr ⟨List.mem_append_right _ (List.mem_append_left _ (List.mem_of_getElem? (i := 197) rfl)), by decide +kernel⟩
theorem kw_203 : (Jvm.Cond.methodLink "ShiftSignaturesLaw" (64 : Nat) ({ cls := "ShiftSignaturesLaw", name := "polynomial", desc := "(LShiftSignatures;J[J)I" } : Jvm.MethodName)) ∈ gw := List.mem_filter.mpr ⟨List.mem_append_right _ (List.mem_append_left _ (List.mem_of_getElem? (i := 203) rfl)), by decide +kernel⟩
theorem kw_207 : (Jvm.Cond.methodLink "ShiftSignaturesLaw" (7 : Nat) ({ cls := "ShiftSignatures", name := "polynomial", desc := "(J)I" } : Jvm.MethodName)) ∈ gw := List.mem_filter.mpr ⟨List.mem_append_right _ (List.mem_append_left _ (List.mem_of_getElem? (i := 207) rfl)), by decide +kernel⟩
theorem kw_237 : (Jvm.Cond.methodLink "java/lang/Throwable" (1 : Nat) ({ cls := "java/lang/Object", name := "<init>", desc := "()V" } : Jvm.MethodName)) ∈ gw := List.mem_filter.mpr ⟨List.mem_append_right _ (List.mem_append_left _ (List.mem_of_getElem? (i := 237) rfl)), by decide +kernel⟩
theorem kw_242 : (Jvm.Cond.methodLink "java/lang/Throwable" (27 : Nat) ({ cls := "java/lang/Throwable", name := "fillInStackTrace", desc := "()Ljava/lang/Throwable;" } : Jvm.MethodName)) ∈ gw := List.mem_filter.mpr ⟨List.mem_append_right _ (List.mem_append_right _ (List.mem_append_left _ (List.mem_of_getElem? (i := 2) rfl))), by decide +kernel⟩
theorem kw_248 : (Jvm.Cond.methodLink "java/lang/Throwable" (202 : Nat) ({ cls := "java/lang/Throwable", name := "fillInStackTrace", desc := "(I)Ljava/lang/Throwable;" } : Jvm.MethodName)) ∈ gw := List.mem_filter.mpr ⟨List.mem_append_right _ (List.mem_append_right _ (List.mem_append_left _ (List.mem_of_getElem? (i := 8) rfl))), by decide +kernel⟩
theorem kw_254 : (Jvm.Cond.methodLink "ShiftSignatures" (46 : Nat) ({ cls := "java/lang/IllegalArgumentException", name := "<init>", desc := "(Ljava/lang/String;)V" } : Jvm.MethodName)) ∈ gw := List.mem_filter.mpr ⟨List.mem_append_right _ (List.mem_append_right _ (List.mem_append_left _ (List.mem_of_getElem? (i := 14) rfl))), by decide +kernel⟩
theorem kw_257 : (Jvm.Cond.methodLink "java/lang/IllegalArgumentException" (7 : Nat) ({ cls := "java/lang/RuntimeException", name := "<init>", desc := "(Ljava/lang/String;)V" } : Jvm.MethodName)) ∈ gw := List.mem_filter.mpr ⟨List.mem_append_right _ (List.mem_append_right _ (List.mem_append_left _ (List.mem_of_getElem? (i := 17) rfl))), by decide +kernel⟩
theorem kw_260 : (Jvm.Cond.methodLink "java/lang/RuntimeException" (7 : Nat) ({ cls := "java/lang/Exception", name := "<init>", desc := "(Ljava/lang/String;)V" } : Jvm.MethodName)) ∈ gw := List.mem_filter.mpr ⟨List.mem_append_right _ (List.mem_append_right _ (List.mem_append_left _ (List.mem_of_getElem? (i := 20) rfl))), by decide +kernel⟩
theorem kw_263 : (Jvm.Cond.methodLink "java/lang/Exception" (7 : Nat) ({ cls := "java/lang/Throwable", name := "<init>", desc := "(Ljava/lang/String;)V" } : Jvm.MethodName)) ∈ gw := List.mem_filter.mpr ⟨List.mem_append_right _ (List.mem_append_right _ (List.mem_append_left _ (List.mem_of_getElem? (i := 23) rfl))), by decide +kernel⟩
theorem kw_285 : (Jvm.Cond.methodLink "ShiftSignatures$Modulus" (30 : Nat) ({ cls := "ShiftSignatures$Modulus", name := "reduced", desc := "(J)J" } : Jvm.MethodName)) ∈ gw := List.mem_filter.mpr ⟨List.mem_append_right _ (List.mem_append_right _ (List.mem_append_left _ (List.mem_of_getElem? (i := 45) rfl))), by decide +kernel⟩
theorem kw_290 : (Jvm.Cond.methodLink "ShiftSignaturesLaw" (74 : Nat) ({ cls := "ShiftSignaturesLaw", name := "times", desc := "(LShiftSignatures;JJ[J)I" } : Jvm.MethodName)) ∈ gw := List.mem_filter.mpr ⟨List.mem_append_right _ (List.mem_append_right _ (List.mem_append_left _ (List.mem_of_getElem? (i := 50) rfl))), by decide +kernel⟩
theorem kw_293 : (Jvm.Cond.methodLink "ShiftSignaturesLaw" (15 : Nat) ({ cls := "ShiftSignatures", name := "times", desc := "(JJ)J" } : Jvm.MethodName)) ∈ gw := List.mem_filter.mpr ⟨List.mem_append_right _ (List.mem_append_right _ (List.mem_append_left _ (List.mem_of_getElem? (i := 53) rfl))), by decide +kernel⟩
theorem kw_297 : (Jvm.Cond.methodLink "ShiftSignatures" (57 : Nat) ({ cls := "ShiftSignatures", name := "requireResidue", desc := "(J)V" } : Jvm.MethodName)) ∈ gw := List.mem_filter.mpr ⟨List.mem_append_right _ (List.mem_append_right _ (List.mem_append_left _ (List.mem_of_getElem? (i := 57) rfl))), by decide +kernel⟩
theorem kw_307 : (Jvm.Cond.methodLink "ShiftSignaturesLaw" (78 : Nat) ({ cls := "ShiftSignaturesLaw", name := "power", desc := "(LShiftSignatures;JJ[J)I" } : Jvm.MethodName)) ∈ gw := List.mem_filter.mpr ⟨List.mem_append_right _ (List.mem_append_right _ (List.mem_append_left _ (List.mem_of_getElem? (i := 67) rfl))), by decide +kernel⟩
theorem kw_310 : (Jvm.Cond.methodLink "ShiftSignaturesLaw" (19 : Nat) ({ cls := "ShiftSignatures", name := "power", desc := "(JJ)J" } : Jvm.MethodName)) ∈ gw := List.mem_filter.mpr ⟨List.mem_append_right _ (List.mem_append_right _ (List.mem_append_left _ (List.mem_of_getElem? (i := 70) rfl))), by decide +kernel⟩
theorem kw_314 : (Jvm.Cond.methodLink "ShiftSignatures" (64 : Nat) ({ cls := "ShiftSignatures", name := "requireNotNegative", desc := "(J)V" } : Jvm.MethodName)) ∈ gw := List.mem_filter.mpr ⟨List.mem_append_right _ (List.mem_append_right _ (List.mem_append_left _ (List.mem_of_getElem? (i := 74) rfl))), by decide +kernel⟩
theorem kw_320 : (Jvm.Cond.methodLink "ShiftSignaturesLaw" (99 : Nat) ({ cls := "ShiftSignaturesLaw", name := "load", desc := "(LShiftSignatures;J[J)I" } : Jvm.MethodName)) ∈ gw := List.mem_filter.mpr ⟨List.mem_append_right _ (List.mem_append_right _ (List.mem_append_left _ (List.mem_of_getElem? (i := 80) rfl))), by decide +kernel⟩
theorem kw_323 : (Jvm.Cond.methodLink "ShiftSignaturesLaw" (22 : Nat) ({ cls := "ShiftSignatures", name := "load", desc := "(J)J" } : Jvm.MethodName)) ∈ gw := List.mem_filter.mpr ⟨List.mem_append_right _ (List.mem_append_right _ (List.mem_append_left _ (List.mem_of_getElem? (i := 83) rfl))), by decide +kernel⟩
theorem kw_327 : (Jvm.Cond.methodLink "ShiftSignaturesLaw" (102 : Nat) ({ cls := "ShiftSignaturesLaw", name := "steps", desc := "(LShiftSignatures;J[J)I" } : Jvm.MethodName)) ∈ gw := List.mem_filter.mpr ⟨List.mem_append_right _ (List.mem_append_right _ (List.mem_append_left _ (List.mem_of_getElem? (i := 87) rfl))), by decide +kernel⟩
theorem kw_330 : (Jvm.Cond.methodLink "ShiftSignaturesLaw" (26 : Nat) ({ cls := "ShiftSignatures", name := "steps", desc := "(J)J" } : Jvm.MethodName)) ∈ gw := List.mem_filter.mpr ⟨List.mem_append_right _ (List.mem_append_right _ (List.mem_append_left _ (List.mem_of_getElem? (i := 90) rfl))), by decide +kernel⟩
theorem kw_334 : (Jvm.Cond.methodLink "ShiftSignaturesLaw" (105 : Nat) ({ cls := "ShiftSignaturesLaw", name := "channel", desc := "(LShiftSignatures;J[J)I" } : Jvm.MethodName)) ∈ gw := List.mem_filter.mpr ⟨List.mem_append_right _ (List.mem_append_right _ (List.mem_append_left _ (List.mem_of_getElem? (i := 94) rfl))), by decide +kernel⟩
theorem kw_338 : (Jvm.Cond.methodLink "ShiftSignaturesLaw" (29 : Nat) ({ cls := "ShiftSignatures", name := "channel", desc := "(J)I" } : Jvm.MethodName)) ∈ gw := List.mem_filter.mpr ⟨List.mem_append_right _ (List.mem_append_right _ (List.mem_append_left _ (List.mem_of_getElem? (i := 98) rfl))), by decide +kernel⟩
theorem kw_352 : (Jvm.Cond.methodLink "ShiftSignatures" (104 : Nat) ({ cls := "java/lang/IllegalStateException", name := "<init>", desc := "(Ljava/lang/String;)V" } : Jvm.MethodName)) ∈ gw := List.mem_filter.mpr ⟨List.mem_append_right _ (List.mem_append_right _ (List.mem_append_left _ (List.mem_of_getElem? (i := 112) rfl))), by decide +kernel⟩
theorem kw_355 : (Jvm.Cond.methodLink "java/lang/IllegalStateException" (7 : Nat) ({ cls := "java/lang/RuntimeException", name := "<init>", desc := "(Ljava/lang/String;)V" } : Jvm.MethodName)) ∈ gw := List.mem_filter.mpr ⟨List.mem_append_right _ (List.mem_append_right _ (List.mem_append_left _ (List.mem_of_getElem? (i := 115) rfl))), by decide +kernel⟩
theorem kw_358 : (Jvm.Cond.methodLink "ShiftSignaturesLaw" (112 : Nat) ({ cls := "ShiftSignaturesLaw", name := "gate", desc := "(LShiftSignatures;III[J)I" } : Jvm.MethodName)) ∈ gw := List.mem_filter.mpr ⟨List.mem_append_right _ (List.mem_append_right _ (List.mem_append_left _ (List.mem_of_getElem? (i := 118) rfl))), by decide +kernel⟩
theorem kw_362 : (Jvm.Cond.methodLink "ShiftSignaturesLaw" (34 : Nat) ({ cls := "ShiftSignatures", name := "gate", desc := "(III)I" } : Jvm.MethodName)) ∈ gw := List.mem_filter.mpr ⟨List.mem_append_right _ (List.mem_append_right _ (List.mem_append_left _ (List.mem_of_getElem? (i := 122) rfl))), by decide +kernel⟩
theorem kw_367 : (Jvm.Cond.methodLink "ShiftSignatures" (110 : Nat) ({ cls := "ShiftSignatures", name := "requireLine", desc := "(I)V" } : Jvm.MethodName)) ∈ gw := List.mem_filter.mpr ⟨List.mem_append_right _ (List.mem_append_right _ (List.mem_append_left _ (List.mem_of_getElem? (i := 127) rfl))), by decide +kernel⟩
theorem kw_385 : (Jvm.Cond.methodLink "ShiftSignatures" (148 : Nat) ({ cls := "java/lang/IndexOutOfBoundsException", name := "<init>", desc := "(Ljava/lang/String;)V" } : Jvm.MethodName)) ∈ gw := List.mem_filter.mpr ⟨List.mem_append_right _ (List.mem_append_right _ (List.mem_append_left _ (List.mem_of_getElem? (i := 145) rfl))), by decide +kernel⟩
theorem kw_388 : (Jvm.Cond.methodLink "java/lang/IndexOutOfBoundsException" (7 : Nat) ({ cls := "java/lang/RuntimeException", name := "<init>", desc := "(Ljava/lang/String;)V" } : Jvm.MethodName)) ∈ gw := List.mem_filter.mpr ⟨List.mem_append_right _ (List.mem_append_right _ (List.mem_append_left _ (List.mem_of_getElem? (i := 148) rfl))), by decide +kernel⟩
theorem kw_396 : (Jvm.Cond.methodLink "ShiftSignatures$Circuit" (38 : Nat) ({ cls := "ShiftSignatures$Circuit", name := "countLines", desc := "()I" } : Jvm.MethodName)) ∈ gw := List.mem_filter.mpr ⟨List.mem_append_right _ (List.mem_append_right _ (List.mem_append_left _ (List.mem_of_getElem? (i := 156) rfl))), by decide +kernel⟩
theorem kw_397 : (Jvm.Cond.methodLink "ShiftSignaturesLaw" (116 : Nat) ({ cls := "ShiftSignaturesLaw", name := "output", desc := "(LShiftSignatures;I[J)I" } : Jvm.MethodName)) ∈ gw := List.mem_filter.mpr ⟨List.mem_append_right _ (List.mem_append_right _ (List.mem_append_left _ (List.mem_of_getElem? (i := 157) rfl))), by decide +kernel⟩
theorem kw_400 : (Jvm.Cond.methodLink "ShiftSignaturesLaw" (40 : Nat) ({ cls := "ShiftSignatures", name := "output", desc := "(I)I" } : Jvm.MethodName)) ∈ gw := List.mem_filter.mpr ⟨List.mem_append_right _ (List.mem_append_right _ (List.mem_append_left _ (List.mem_of_getElem? (i := 160) rfl))), by decide +kernel⟩
theorem kw_409 : (Jvm.Cond.methodLink "ShiftSignaturesLaw" (120 : Nat) ({ cls := "ShiftSignaturesLaw", name := "answer", desc := "(LShiftSignatures;II[J)I" } : Jvm.MethodName)) ∈ gw := List.mem_filter.mpr ⟨List.mem_append_right _ (List.mem_append_right _ (List.mem_append_left _ (List.mem_of_getElem? (i := 169) rfl))), by decide +kernel⟩
theorem kw_412 : (Jvm.Cond.methodLink "ShiftSignaturesLaw" (44 : Nat) ({ cls := "ShiftSignatures", name := "answer", desc := "(II)I" } : Jvm.MethodName)) ∈ gw := List.mem_filter.mpr ⟨List.mem_append_right _ (List.mem_append_right _ (List.mem_append_left _ (List.mem_of_getElem? (i := 172) rfl))), by decide +kernel⟩
theorem kw_416 : (Jvm.Cond.methodLink "ShiftSignatures" (131 : Nat) ({ cls := "ShiftSignatures", name := "requireFaultOrNone", desc := "(I)V" } : Jvm.MethodName)) ∈ gw := List.mem_filter.mpr ⟨List.mem_append_right _ (List.mem_append_right _ (List.mem_append_left _ (List.mem_of_getElem? (i := 176) rfl))), by decide +kernel⟩
theorem kw_420 : (Jvm.Cond.methodLink "ShiftSignatures" (170 : Nat) ({ cls := "ShiftSignatures", name := "requireFault", desc := "(I)V" } : Jvm.MethodName)) ∈ gw := List.mem_filter.mpr ⟨List.mem_append_right _ (List.mem_append_right _ (List.mem_append_left _ (List.mem_of_getElem? (i := 180) rfl))), by decide +kernel⟩
theorem kw_433 : (Jvm.Cond.methodLink "ShiftSignatures$Circuit" (42 : Nat) ({ cls := "ShiftSignatures$Circuit", name := "settle", desc := "(IZ)V" } : Jvm.MethodName)) ∈ gw := List.mem_filter.mpr ⟨List.mem_append_right _ (List.mem_append_right _ (List.mem_append_left _ (List.mem_of_getElem? (i := 193) rfl))), by decide +kernel⟩
theorem kw_437 : (Jvm.Cond.methodLink "ShiftSignatures$Circuit" (50 : Nat) ({ cls := "ShiftSignatures$Circuit", name := "spread", desc := "(I)J" } : Jvm.MethodName)) ∈ gw := List.mem_filter.mpr ⟨List.mem_append_right _ (List.mem_append_right _ (List.mem_append_left _ (List.mem_of_getElem? (i := 197) rfl))), by decide +kernel⟩
theorem kw_440 : (Jvm.Cond.methodLink "ShiftSignatures$Circuit" (53 : Nat) ({ cls := "ShiftSignatures$Circuit", name := "valuesOfGate", desc := "(I)J" } : Jvm.MethodName)) ∈ gw := List.mem_filter.mpr ⟨List.mem_append_right _ (List.mem_append_right _ (List.mem_append_left _ (List.mem_of_getElem? (i := 200) rfl))), by decide +kernel⟩
theorem kw_445 : (Jvm.Cond.methodLink "ShiftSignatures$Circuit" (56 : Nat) ({ cls := "ShiftSignatures$Circuit", name := "withStuck", desc := "(JI)J" } : Jvm.MethodName)) ∈ gw := List.mem_filter.mpr ⟨List.mem_append_right _ (List.mem_append_right _ (List.mem_append_left _ (List.mem_of_getElem? (i := 205) rfl))), by decide +kernel⟩
theorem kw_448 : (Jvm.Cond.methodLink "ShiftSignatures$Circuit" (46 : Nat) ({ cls := "ShiftSignatures$Circuit", name := "valuesOfOutput", desc := "(I)J" } : Jvm.MethodName)) ∈ gw := List.mem_filter.mpr ⟨List.mem_append_right _ (List.mem_append_right _ (List.mem_append_left _ (List.mem_of_getElem? (i := 208) rfl))), by decide +kernel⟩
theorem kw_452 : (Jvm.Cond.methodLink "ShiftSignaturesLaw" (124 : Nat) ({ cls := "ShiftSignaturesLaw", name := "session", desc := "(LShiftSignatures;II[J)I" } : Jvm.MethodName)) ∈ gw := List.mem_filter.mpr ⟨List.mem_append_right _ (List.mem_append_right _ (List.mem_append_left _ (List.mem_of_getElem? (i := 212) rfl))), by decide +kernel⟩
theorem kw_455 : (Jvm.Cond.methodLink "ShiftSignaturesLaw" (48 : Nat) ({ cls := "ShiftSignatures", name := "session", desc := "(II)J" } : Jvm.MethodName)) ∈ gw := List.mem_filter.mpr ⟨List.mem_append_right _ (List.mem_append_right _ (List.mem_append_left _ (List.mem_of_getElem? (i := 215) rfl))), by decide +kernel⟩
theorem kw_459 : (Jvm.Cond.methodLink "ShiftSignatures" (138 : Nat) ({ cls := "ShiftSignatures", name := "requirePatterns", desc := "(I)V" } : Jvm.MethodName)) ∈ gw := List.mem_filter.mpr ⟨List.mem_append_right _ (List.mem_append_right _ (List.mem_append_left _ (List.mem_of_getElem? (i := 219) rfl))), by decide +kernel⟩
theorem kw_465 : (Jvm.Cond.methodLink "ShiftSignaturesLaw" (127 : Nat) ({ cls := "ShiftSignaturesLaw", name := "faults", desc := "(LShiftSignatures;II[J)I" } : Jvm.MethodName)) ∈ gw := List.mem_filter.mpr ⟨List.mem_append_right _ (List.mem_append_right _ (List.mem_append_left _ (List.mem_of_getElem? (i := 225) rfl))), by decide +kernel⟩
theorem kw_468 : (Jvm.Cond.methodLink "ShiftSignaturesLaw" (52 : Nat) ({ cls := "ShiftSignatures", name := "faults", desc := "(II)I" } : Jvm.MethodName)) ∈ gw := List.mem_filter.mpr ⟨List.mem_append_right _ (List.mem_append_right _ (List.mem_append_left _ (List.mem_of_getElem? (i := 228) rfl))), by decide +kernel⟩
theorem kw_473 : (Jvm.Cond.methodLink "ShiftSignatures" (153 : Nat) ({ cls := "ShiftSignatures", name := "compareAllFaults", desc := "(I)V" } : Jvm.MethodName)) ∈ gw := List.mem_filter.mpr ⟨List.mem_append_right _ (List.mem_append_right _ (List.mem_append_left _ (List.mem_of_getElem? (i := 233) rfl))), by decide +kernel⟩
theorem kw_497 : (Jvm.Cond.methodLink "ShiftSignatures$Differences" (48 : Nat) ({ cls := "ShiftSignatures$Differences", name := "subtract", desc := "(JJI)V" } : Jvm.MethodName)) ∈ gw := List.mem_filter.mpr ⟨List.mem_append_right _ (List.mem_append_right _ (List.mem_append_right _ (List.mem_append_left _ (List.mem_of_getElem? (i := 17) rfl)))), by decide +kernel⟩
theorem kw_505 : (Jvm.Cond.methodLink "ShiftSignatures" (167 : Nat) ({ cls := "ShiftSignatures", name := "lowestBit", desc := "(J)I" } : Jvm.MethodName)) ∈ gw := List.mem_filter.mpr ⟨List.mem_append_right _ (List.mem_append_right _ (List.mem_append_right _ (List.mem_append_left _ (List.mem_of_getElem? (i := 25) rfl)))), by decide +kernel⟩
theorem kw_508 : (Jvm.Cond.methodLink "ShiftSignatures" (204 : Nat) ({ cls := "java/lang/Long", name := "numberOfTrailingZeros", desc := "(J)I" } : Jvm.MethodName)) ∈ gw := List.mem_filter.mpr ⟨List.mem_append_right _ (List.mem_append_right _ (List.mem_append_right _ (List.mem_append_left _ (List.mem_of_getElem? (i := 28) rfl)))), by decide +kernel⟩
theorem kw_511 : (Jvm.Cond.methodLink "java/lang/Long" (311 : Nat) ({ cls := "java/lang/Integer", name := "numberOfTrailingZeros", desc := "(I)I" } : Jvm.MethodName)) ∈ gw := List.mem_filter.mpr ⟨List.mem_append_right _ (List.mem_append_right _ (List.mem_append_right _ (List.mem_append_left _ (List.mem_of_getElem? (i := 31) rfl)))), by decide +kernel⟩
theorem kw_514 : (Jvm.Cond.methodLink "ShiftSignaturesLaw" (130 : Nat) ({ cls := "ShiftSignaturesLaw", name := "first", desc := "(LShiftSignatures;II[J)I" } : Jvm.MethodName)) ∈ gw := List.mem_filter.mpr ⟨List.mem_append_right _ (List.mem_append_right _ (List.mem_append_right _ (List.mem_append_left _ (List.mem_of_getElem? (i := 34) rfl)))), by decide +kernel⟩
theorem kw_517 : (Jvm.Cond.methodLink "ShiftSignaturesLaw" (55 : Nat) ({ cls := "ShiftSignatures", name := "first", desc := "(II)I" } : Jvm.MethodName)) ∈ gw := List.mem_filter.mpr ⟨List.mem_append_right _ (List.mem_append_right _ (List.mem_append_right _ (List.mem_append_left _ (List.mem_of_getElem? (i := 37) rfl)))), by decide +kernel⟩
theorem kw_523 : (Jvm.Cond.methodLink "ShiftSignaturesLaw" (61 : Nat) ({ cls := "ShiftSignaturesModel", name := "<init>", desc := "()V" } : Jvm.MethodName)) ∈ gw := List.mem_filter.mpr ⟨List.mem_append_right _ (List.mem_append_right _ (List.mem_append_right _ (List.mem_append_left _ (List.mem_of_getElem? (i := 43) rfl)))), by decide +kernel⟩
theorem kw_526 : (Jvm.Cond.methodLink "ShiftSignaturesModel" (1 : Nat) ({ cls := "java/lang/Object", name := "<init>", desc := "()V" } : Jvm.MethodName)) ∈ gw := List.mem_filter.mpr ⟨List.mem_append_right _ (List.mem_append_right _ (List.mem_append_right _ (List.mem_append_left _ (List.mem_of_getElem? (i := 46) rfl)))), by decide +kernel⟩
theorem kw_580 : (Jvm.Cond.methodLink "ShiftSignaturesLaw" (70 : Nat) ({ cls := "ShiftSignaturesModel", name := "thrown", desc := "()I" } : Jvm.MethodName)) ∈ gw := List.mem_filter.mpr ⟨List.mem_append_right _ (List.mem_append_right _ (List.mem_append_right _ (List.mem_append_left _ (List.mem_of_getElem? (i := 100) rfl)))), by decide +kernel⟩
theorem kw_584 : (Jvm.Cond.methodLink "ShiftSignaturesLaw" (69 : Nat) ({ cls := "ShiftSignaturesModel", name := "polynomial", desc := "(J)I" } : Jvm.MethodName)) ∈ gw := List.mem_filter.mpr ⟨List.mem_append_right _ (List.mem_append_right _ (List.mem_append_right _ (List.mem_append_left _ (List.mem_of_getElem? (i := 104) rfl)))), by decide +kernel⟩
theorem kw_588 : (Jvm.Cond.methodLink "ShiftSignaturesModel" (57 : Nat) ({ cls := "ShiftSignaturesModel", name := "refused", desc := "(I)Z" } : Jvm.MethodName)) ∈ gw := List.mem_filter.mpr ⟨List.mem_append_right _ (List.mem_append_right _ (List.mem_append_right _ (List.mem_append_left _ (List.mem_of_getElem? (i := 108) rfl)))), by decide +kernel⟩
theorem kw_592 : (Jvm.Cond.methodLink "ShiftSignaturesModel" (70 : Nat) ({ cls := "ShiftSignaturesModel", name := "clearCircuit", desc := "()V" } : Jvm.MethodName)) ∈ gw := List.mem_filter.mpr ⟨List.mem_append_right _ (List.mem_append_right _ (List.mem_append_right _ (List.mem_append_left _ (List.mem_of_getElem? (i := 112) rfl)))), by decide +kernel⟩
theorem kw_596 : (Jvm.Cond.methodLink "ShiftSignaturesLaw" (77 : Nat) ({ cls := "ShiftSignaturesModel", name := "times", desc := "(JJ)J" } : Jvm.MethodName)) ∈ gw := List.mem_filter.mpr ⟨List.mem_append_right _ (List.mem_append_right _ (List.mem_append_right _ (List.mem_append_left _ (List.mem_of_getElem? (i := 116) rfl)))), by decide +kernel⟩
theorem kw_600 : (Jvm.Cond.methodLink "ShiftSignaturesModel" (90 : Nat) ({ cls := "ShiftSignaturesModel", name := "isResidue", desc := "(J)Z" } : Jvm.MethodName)) ∈ gw := List.mem_filter.mpr ⟨List.mem_append_right _ (List.mem_append_right _ (List.mem_append_right _ (List.mem_append_left _ (List.mem_of_getElem? (i := 120) rfl)))), by decide +kernel⟩
theorem kw_604 : (Jvm.Cond.methodLink "ShiftSignaturesModel" (82 : Nat) ({ cls := "ShiftSignaturesModel", name := "product", desc := "(JJ)J" } : Jvm.MethodName)) ∈ gw := List.mem_filter.mpr ⟨List.mem_append_right _ (List.mem_append_right _ (List.mem_append_right _ (List.mem_append_left _ (List.mem_of_getElem? (i := 124) rfl)))), by decide +kernel⟩
theorem kw_608 : (Jvm.Cond.methodLink "ShiftSignaturesModel" (75 : Nat) ({ cls := "ShiftSignaturesModel", name := "step", desc := "(J)J" } : Jvm.MethodName)) ∈ gw := List.mem_filter.mpr ⟨List.mem_append_right _ (List.mem_append_right _ (List.mem_append_right _ (List.mem_append_left _ (List.mem_of_getElem? (i := 128) rfl)))), by decide +kernel⟩
theorem kw_613 : (Jvm.Cond.methodLink "ShiftSignaturesLaw" (80 : Nat) ({ cls := "ShiftSignaturesModel", name := "power", desc := "(JJ)J" } : Jvm.MethodName)) ∈ gw := List.mem_filter.mpr ⟨List.mem_append_right _ (List.mem_append_right _ (List.mem_append_right _ (List.mem_append_left _ (List.mem_of_getElem? (i := 133) rfl)))), by decide +kernel⟩
theorem kw_617 : (Jvm.Cond.methodLink "ShiftSignaturesModel" (94 : Nat) ({ cls := "ShiftSignaturesModel", name := "raised", desc := "(JJ)J" } : Jvm.MethodName)) ∈ gw := List.mem_filter.mpr ⟨List.mem_append_right _ (List.mem_append_right _ (List.mem_append_right _ (List.mem_append_left _ (List.mem_of_getElem? (i := 137) rfl)))), by decide +kernel⟩
theorem kw_621 : (Jvm.Cond.methodLink "ShiftSignaturesModel" (79 : Nat) ({ cls := "ShiftSignaturesModel", name := "reduced", desc := "(J)J" } : Jvm.MethodName)) ∈ gw := List.mem_filter.mpr ⟨List.mem_append_right _ (List.mem_append_right _ (List.mem_append_right _ (List.mem_append_left _ (List.mem_of_getElem? (i := 141) rfl)))), by decide +kernel⟩
theorem kw_625 : (Jvm.Cond.methodLink "ShiftSignaturesModel" (86 : Nat) ({ cls := "ShiftSignaturesModel", name := "left", desc := "(JJI)J" } : Jvm.MethodName)) ∈ gw := List.mem_filter.mpr ⟨List.mem_append_right _ (List.mem_append_right _ (List.mem_append_right _ (List.mem_append_left _ (List.mem_of_getElem? (i := 145) rfl)))), by decide +kernel⟩
theorem kw_628 : (Jvm.Cond.methodLink "ShiftSignaturesLaw" (84 : Nat) ({ cls := "ShiftSignaturesModel", name := "residue", desc := "(J)J" } : Jvm.MethodName)) ∈ gw := List.mem_filter.mpr ⟨List.mem_append_right _ (List.mem_append_right _ (List.mem_append_right _ (List.mem_append_left _ (List.mem_of_getElem? (i := 148) rfl)))), by decide +kernel⟩
theorem kw_632 : (Jvm.Cond.methodLink "ShiftSignaturesLaw" (89 : Nat) ({ cls := "ShiftSignaturesModel", name := "irreducible", desc := "()Z" } : Jvm.MethodName)) ∈ gw := List.mem_filter.mpr ⟨List.mem_append_right _ (List.mem_append_right _ (List.mem_append_right _ (List.mem_append_left _ (List.mem_of_getElem? (i := 152) rfl)))), by decide +kernel⟩
theorem kw_636 : (Jvm.Cond.methodLink "ShiftSignaturesModel" (97 : Nat) ({ cls := "ShiftSignaturesModel", name := "isProduct", desc := "()Z" } : Jvm.MethodName)) ∈ gw := List.mem_filter.mpr ⟨List.mem_append_right _ (List.mem_append_right _ (List.mem_append_right _ (List.mem_append_left _ (List.mem_of_getElem? (i := 156) rfl)))), by decide +kernel⟩
theorem kw_640 : (Jvm.Cond.methodLink "ShiftSignaturesLaw" (93 : Nat) ({ cls := "ShiftSignaturesModel", name := "primitive", desc := "()Z" } : Jvm.MethodName)) ∈ gw := List.mem_filter.mpr ⟨List.mem_append_right _ (List.mem_append_right _ (List.mem_append_right _ (List.mem_append_left _ (List.mem_of_getElem? (i := 160) rfl)))), by decide +kernel⟩
theorem kw_644 : (Jvm.Cond.methodLink "ShiftSignaturesLaw" (98 : Nat) ({ cls := "ShiftSignaturesModel", name := "order", desc := "()J" } : Jvm.MethodName)) ∈ gw := List.mem_filter.mpr ⟨List.mem_append_right _ (List.mem_append_right _ (List.mem_append_right _ (List.mem_append_left _ (List.mem_of_getElem? (i := 164) rfl)))), by decide +kernel⟩
theorem kw_649 : (Jvm.Cond.methodLink "ShiftSignaturesLaw" (101 : Nat) ({ cls := "ShiftSignaturesModel", name := "load", desc := "(J)J" } : Jvm.MethodName)) ∈ gw := List.mem_filter.mpr ⟨List.mem_append_right _ (List.mem_append_right _ (List.mem_append_right _ (List.mem_append_left _ (List.mem_of_getElem? (i := 169) rfl)))), by decide +kernel⟩
theorem kw_653 : (Jvm.Cond.methodLink "ShiftSignaturesLaw" (104 : Nat) ({ cls := "ShiftSignaturesModel", name := "steps", desc := "(J)J" } : Jvm.MethodName)) ∈ gw := List.mem_filter.mpr ⟨List.mem_append_right _ (List.mem_append_right _ (List.mem_append_right _ (List.mem_append_left _ (List.mem_of_getElem? (i := 173) rfl)))), by decide +kernel⟩
theorem kw_657 : (Jvm.Cond.methodLink "ShiftSignaturesLaw" (107 : Nat) ({ cls := "ShiftSignaturesModel", name := "channel", desc := "(J)I" } : Jvm.MethodName)) ∈ gw := List.mem_filter.mpr ⟨List.mem_append_right _ (List.mem_append_right _ (List.mem_append_right _ (List.mem_append_left _ (List.mem_of_getElem? (i := 177) rfl)))), by decide +kernel⟩
theorem kw_661 : (Jvm.Cond.methodLink "ShiftSignaturesLaw" (111 : Nat) ({ cls := "ShiftSignaturesModel", name := "pattern", desc := "()I" } : Jvm.MethodName)) ∈ gw := List.mem_filter.mpr ⟨List.mem_append_right _ (List.mem_append_right _ (List.mem_append_right _ (List.mem_append_left _ (List.mem_of_getElem? (i := 181) rfl)))), by decide +kernel⟩
theorem kw_665 : (Jvm.Cond.methodLink "ShiftSignaturesModel" (103 : Nat) ({ cls := "ShiftSignaturesModel", name := "patternOf", desc := "(J)I" } : Jvm.MethodName)) ∈ gw := List.mem_filter.mpr ⟨List.mem_append_right _ (List.mem_append_right _ (List.mem_append_right _ (List.mem_append_left _ (List.mem_of_getElem? (i := 185) rfl)))), by decide +kernel⟩
theorem kw_669 : (Jvm.Cond.methodLink "ShiftSignaturesLaw" (115 : Nat) ({ cls := "ShiftSignaturesModel", name := "gate", desc := "(III)I" } : Jvm.MethodName)) ∈ gw := List.mem_filter.mpr ⟨List.mem_append_right _ (List.mem_append_right _ (List.mem_append_right _ (List.mem_append_left _ (List.mem_of_getElem? (i := 189) rfl)))), by decide +kernel⟩
theorem kw_673 : (Jvm.Cond.methodLink "ShiftSignaturesModel" (107 : Nat) ({ cls := "ShiftSignaturesModel", name := "isLine", desc := "(I)Z" } : Jvm.MethodName)) ∈ gw := List.mem_filter.mpr ⟨List.mem_append_right _ (List.mem_append_right _ (List.mem_append_right _ (List.mem_append_left _ (List.mem_of_getElem? (i := 193) rfl)))), by decide +kernel⟩
theorem kw_677 : (Jvm.Cond.methodLink "ShiftSignaturesLaw" (119 : Nat) ({ cls := "ShiftSignaturesModel", name := "output", desc := "(I)I" } : Jvm.MethodName)) ∈ gw := List.mem_filter.mpr ⟨List.mem_append_right _ (List.mem_append_right _ (List.mem_append_right _ (List.mem_append_left _ (List.mem_of_getElem? (i := 197) rfl)))), by decide +kernel⟩
theorem kw_681 : (Jvm.Cond.methodLink "ShiftSignaturesLaw" (123 : Nat) ({ cls := "ShiftSignaturesModel", name := "answer", desc := "(II)I" } : Jvm.MethodName)) ∈ gw := List.mem_filter.mpr ⟨List.mem_append_right _ (List.mem_append_right _ (List.mem_append_right _ (List.mem_append_left _ (List.mem_of_getElem? (i := 201) rfl)))), by decide +kernel⟩
theorem kw_685 : (Jvm.Cond.methodLink "ShiftSignaturesModel" (114 : Nat) ({ cls := "ShiftSignaturesModel", name := "isFault", desc := "(I)Z" } : Jvm.MethodName)) ∈ gw := List.mem_filter.mpr ⟨List.mem_append_right _ (List.mem_append_right _ (List.mem_append_right _ (List.mem_append_left _ (List.mem_of_getElem? (i := 205) rfl)))), by decide +kernel⟩
theorem kw_689 : (Jvm.Cond.methodLink "ShiftSignaturesModel" (117 : Nat) ({ cls := "ShiftSignaturesModel", name := "answerTo", desc := "(II)I" } : Jvm.MethodName)) ∈ gw := List.mem_filter.mpr ⟨List.mem_append_right _ (List.mem_append_right _ (List.mem_append_right _ (List.mem_append_left _ (List.mem_of_getElem? (i := 209) rfl)))), by decide +kernel⟩
theorem kw_693 : (Jvm.Cond.methodLink "ShiftSignaturesModel" (110 : Nat) ({ cls := "ShiftSignaturesModel", name := "worth", desc := "(III)I" } : Jvm.MethodName)) ∈ gw := List.mem_filter.mpr ⟨List.mem_append_right _ (List.mem_append_right _ (List.mem_append_right _ (List.mem_append_left _ (List.mem_of_getElem? (i := 213) rfl)))), by decide +kernel⟩
theorem kw_696 : (Jvm.Cond.methodLink "ShiftSignaturesLaw" (126 : Nat) ({ cls := "ShiftSignaturesModel", name := "session", desc := "(II)J" } : Jvm.MethodName)) ∈ gw := List.mem_filter.mpr ⟨List.mem_append_right _ (List.mem_append_right _ (List.mem_append_right _ (List.mem_append_left _ (List.mem_of_getElem? (i := 216) rfl)))), by decide +kernel⟩
theorem kw_700 : (Jvm.Cond.methodLink "ShiftSignaturesModel" (121 : Nat) ({ cls := "ShiftSignaturesModel", name := "isCount", desc := "(I)Z" } : Jvm.MethodName)) ∈ gw := List.mem_filter.mpr ⟨List.mem_append_right _ (List.mem_append_right _ (List.mem_append_right _ (List.mem_append_left _ (List.mem_of_getElem? (i := 220) rfl)))), by decide +kernel⟩
theorem kw_703 : (Jvm.Cond.methodLink "ShiftSignaturesModel" (124 : Nat) ({ cls := "ShiftSignaturesModel", name := "prepare", desc := "(I)V" } : Jvm.MethodName)) ∈ gw := List.mem_filter.mpr ⟨List.mem_append_right _ (List.mem_append_right _ (List.mem_append_right _ (List.mem_append_left _ (List.mem_of_getElem? (i := 223) rfl)))), by decide +kernel⟩
theorem kw_707 : (Jvm.Cond.methodLink "ShiftSignaturesModel" (128 : Nat) ({ cls := "ShiftSignaturesModel", name := "signature", desc := "(II)J" } : Jvm.MethodName)) ∈ gw := List.mem_filter.mpr ⟨List.mem_append_right _ (List.mem_append_right _ (List.mem_append_right _ (List.mem_append_left _ (List.mem_of_getElem? (i := 227) rfl)))), by decide +kernel⟩
theorem kw_711 : (Jvm.Cond.methodLink "ShiftSignaturesLaw" (129 : Nat) ({ cls := "ShiftSignaturesModel", name := "faults", desc := "(II)I" } : Jvm.MethodName)) ∈ gw := List.mem_filter.mpr ⟨List.mem_append_right _ (List.mem_append_right _ (List.mem_append_right _ (List.mem_append_left _ (List.mem_of_getElem? (i := 231) rfl)))), by decide +kernel⟩
theorem kw_715 : (Jvm.Cond.methodLink "ShiftSignaturesModel" (132 : Nat) ({ cls := "ShiftSignaturesModel", name := "firstSeen", desc := "(II)I" } : Jvm.MethodName)) ∈ gw := List.mem_filter.mpr ⟨List.mem_append_right _ (List.mem_append_right _ (List.mem_append_right _ (List.mem_append_left _ (List.mem_of_getElem? (i := 235) rfl)))), by decide +kernel⟩
theorem kw_719 : (Jvm.Cond.methodLink "ShiftSignaturesLaw" (132 : Nat) ({ cls := "ShiftSignaturesModel", name := "first", desc := "(II)I" } : Jvm.MethodName)) ∈ gw := List.mem_filter.mpr ⟨List.mem_append_right _ (List.mem_append_right _ (List.mem_append_right _ (List.mem_append_left _ (List.mem_of_getElem? (i := 239) rfl)))), by decide +kernel⟩
theorem kw_17 : (Jvm.Cond.instanceMethod ({ cls := "ShiftSignatures", name := "<init>", desc := "()V" } : Jvm.MethodName)) ∈ gw := List.mem_filter.mpr ⟨List.mem_append_right _ (List.mem_append_left _ (List.mem_of_getElem? (i := 17) rfl)), by decide +kernel⟩
theorem kw_20 : (Jvm.Cond.instanceMethod ({ cls := "java/lang/Object", name := "<init>", desc := "()V" } : Jvm.MethodName)) ∈ gw := List.mem_filter.mpr ⟨List.mem_append_right _ (List.mem_append_left _ (List.mem_of_getElem? (i := 20) rfl)), by decide +kernel⟩
theorem kw_25 : (Jvm.Cond.instanceMethod ({ cls := "ShiftSignatures$Modulus", name := "<init>", desc := "()V" } : Jvm.MethodName)) ∈ gw := List.mem_filter.mpr ⟨List.mem_append_right _ (List.mem_append_left _ (List.mem_of_getElem? (i := 25) rfl)), by decide +kernel⟩
theorem kw_46 : (Jvm.Cond.instanceMethod ({ cls := "ShiftSignatures$Circuit", name := "<init>", desc := "()V" } : Jvm.MethodName)) ∈ gw := List.mem_filter.mpr ⟨List.mem_append_right _ (List.mem_append_left _ (List.mem_of_getElem? (i := 46) rfl)), by decide +kernel⟩
theorem kw_83 : (Jvm.Cond.instanceMethod ({ cls := "ShiftSignatures$Differences", name := "<init>", desc := "()V" } : Jvm.MethodName)) ∈ gw := List.mem_filter.mpr ⟨List.mem_append_right _ (List.mem_append_left _ (List.mem_of_getElem? (i := 83) rfl)), by decide +kernel⟩
theorem kw_111 : (Jvm.Cond.instanceMethod ({ cls := "ShiftSignatures", name := "residue", desc := "(J)J" } : Jvm.MethodName)) ∈ gw := List.mem_filter.mpr ⟨List.mem_append_right _ (List.mem_append_left _ (List.mem_of_getElem? (i := 111) rfl)), by decide +kernel⟩
theorem kw_116 : (Jvm.Cond.instanceMethod ({ cls := "ShiftSignatures$Modulus", name := "reduced", desc := "(J)J" } : Jvm.MethodName)) ∈ gw := List.mem_filter.mpr ⟨List.mem_append_right _ (List.mem_append_left _ (List.mem_of_getElem? (i := 116) rfl)), by decide +kernel⟩
theorem kw_132 : (Jvm.Cond.instanceMethod ({ cls := "ShiftSignatures", name := "irreducible", desc := "()Z" } : Jvm.MethodName)) ∈ gw := List.mem_filter.mpr ⟨List.mem_append_right _ (List.mem_append_left _ (List.mem_of_getElem? (i := 132) rfl)), by decide +kernel⟩
theorem kw_137 : (Jvm.Cond.instanceMethod ({ cls := "ShiftSignatures$Modulus", name := "isIrreducible", desc := "()Z" } : Jvm.MethodName)) ∈ gw := List.mem_filter.mpr ⟨List.mem_append_right _ (List.mem_append_left _ (List.mem_of_getElem? (i := 137) rfl)), by decide +kernel⟩
theorem kw_141 : (Jvm.Cond.instanceMethod ({ cls := "ShiftSignatures$Modulus", name := "product", desc := "(JJ)J" } : Jvm.MethodName)) ∈ gw := List.mem_filter.mpr ⟨List.mem_append_right _ (List.mem_append_left _ (List.mem_of_getElem? (i := 141) rfl)), by decide +kernel⟩
theorem kw_145 : (Jvm.Cond.instanceMethod ({ cls := "ShiftSignatures$Modulus", name := "stepped", desc := "(J)J" } : Jvm.MethodName)) ∈ gw := List.mem_filter.mpr ⟨List.mem_append_right _ (List.mem_append_left _ (List.mem_of_getElem? (i := 145) rfl)), by decide +kernel⟩
theorem kw_151 : (Jvm.Cond.instanceMethod ({ cls := "ShiftSignatures", name := "primitive", desc := "()Z" } : Jvm.MethodName)) ∈ gw := List.mem_filter.mpr ⟨List.mem_append_right _ (List.mem_append_left _ (List.mem_of_getElem? (i := 151) rfl)), by decide +kernel⟩
theorem kw_156 : (Jvm.Cond.instanceMethod ({ cls := "ShiftSignatures$Modulus", name := "isPrimitive", desc := "()Z" } : Jvm.MethodName)) ∈ gw := List.mem_filter.mpr ⟨List.mem_append_right _ (List.mem_append_left _ (List.mem_of_getElem? (i := 156) rfl)), by decide +kernel⟩
theorem kw_160 : (Jvm.Cond.instanceMethod ({ cls := "ShiftSignatures$Modulus", name := "raised", desc := "(JJ)J" } : Jvm.MethodName)) ∈ gw := List.mem_filter.mpr ⟨List.mem_append_right _ (List.mem_append_left _ (List.mem_of_getElem? (i := 160) rfl)), by decide +kernel⟩
theorem kw_164 : (Jvm.Cond.instanceMethod ({ cls := "ShiftSignatures$Modulus", name := "orderWithin", desc := "(J)J" } : Jvm.MethodName)) ∈ gw := List.mem_filter.mpr ⟨List.mem_append_right _ (List.mem_append_left _ (List.mem_of_getElem? (i := 164) rfl)), by decide +kernel⟩
theorem kw_170 : (Jvm.Cond.instanceMethod ({ cls := "ShiftSignatures$Modulus", name := "withoutNeedless", desc := "(JJ)J" } : Jvm.MethodName)) ∈ gw := List.mem_filter.mpr ⟨List.mem_append_right _ (List.mem_append_left _ (List.mem_of_getElem? (i := 170) rfl)), by decide +kernel⟩
theorem kw_173 : (Jvm.Cond.instanceMethod ({ cls := "ShiftSignatures", name := "order", desc := "()J" } : Jvm.MethodName)) ∈ gw := List.mem_filter.mpr ⟨List.mem_append_right _ (List.mem_append_left _ (List.mem_of_getElem? (i := 173) rfl)), by decide +kernel⟩
theorem kw_179 : (Jvm.Cond.instanceMethod ({ cls := "ShiftSignatures$Modulus", name := "multipleOfOrder", desc := "()J" } : Jvm.MethodName)) ∈ gw := List.mem_filter.mpr ⟨List.mem_append_right _ (List.mem_append_left _ (List.mem_of_getElem? (i := 179) rfl)), by decide +kernel⟩
theorem kw_190 : (Jvm.Cond.instanceMethod ({ cls := "ShiftSignatures", name := "pattern", desc := "()I" } : Jvm.MethodName)) ∈ gw := List.mem_filter.mpr ⟨List.mem_append_right _ (List.mem_append_left _ (List.mem_of_getElem? (i := 190) rfl)), by decide +kernel⟩
theorem kw_195 : (Jvm.Cond.instanceMethod ({ cls := "ShiftSignatures", name := "patternOf", desc := "(J)I" } : Jvm.MethodName)) ∈ gw := List.mem_filter.mpr ⟨List.mem_append_right _ (List.mem_append_left _ (List.mem_of_getElem? (i := 195) rfl)), by decide +kernel⟩
theorem kw_208 : (Jvm.Cond.instanceMethod ({ cls := "ShiftSignatures", name := "polynomial", desc := "(J)I" } : Jvm.MethodName)) ∈ gw := List.mem_filter.mpr ⟨List.mem_append_right _ (List.mem_append_left _ (List.mem_of_getElem? (i := 208) rfl)), by decide +kernel⟩
theorem kw_235 : (Jvm.Cond.instanceMethod ({ cls := "java/lang/Throwable", name := "<init>", desc := "()V" } : Jvm.MethodName)) ∈ gw := List.mem_filter.mpr ⟨List.mem_append_right _ (List.mem_append_left _ (List.mem_of_getElem? (i := 235) rfl)), by decide +kernel⟩
theorem kw_243 : (Jvm.Cond.instanceMethod ({ cls := "java/lang/Throwable", name := "fillInStackTrace", desc := "()Ljava/lang/Throwable;" } : Jvm.MethodName)) ∈ gw := List.mem_filter.mpr ⟨List.mem_append_right _ (List.mem_append_right _ (List.mem_append_left _ (List.mem_of_getElem? (i := 3) rfl))), by decide +kernel⟩
theorem kw_250 : (Jvm.Cond.instanceMethod ({ cls := "java/lang/Throwable", name := "fillInStackTrace", desc := "(I)Ljava/lang/Throwable;" } : Jvm.MethodName)) ∈ gw := List.mem_filter.mpr ⟨List.mem_append_right _ (List.mem_append_right _ (List.mem_append_left _ (List.mem_of_getElem? (i := 10) rfl))), by decide +kernel⟩
theorem kw_255 : (Jvm.Cond.instanceMethod ({ cls := "java/lang/IllegalArgumentException", name := "<init>", desc := "(Ljava/lang/String;)V" } : Jvm.MethodName)) ∈ gw := List.mem_filter.mpr ⟨List.mem_append_right _ (List.mem_append_right _ (List.mem_append_left _ (List.mem_of_getElem? (i := 15) rfl))), by decide +kernel⟩
theorem kw_258 : (Jvm.Cond.instanceMethod ({ cls := "java/lang/RuntimeException", name := "<init>", desc := "(Ljava/lang/String;)V" } : Jvm.MethodName)) ∈ gw := List.mem_filter.mpr ⟨List.mem_append_right _ (List.mem_append_right _ (List.mem_append_left _ (List.mem_of_getElem? (i := 18) rfl))), by decide +kernel⟩
theorem kw_261 : (Jvm.Cond.instanceMethod ({ cls := "java/lang/Exception", name := "<init>", desc := "(Ljava/lang/String;)V" } : Jvm.MethodName)) ∈ gw := List.mem_filter.mpr ⟨List.mem_append_right _ (List.mem_append_right _ (List.mem_append_left _ (List.mem_of_getElem? (i := 21) rfl))), by decide +kernel⟩
theorem kw_264 : (Jvm.Cond.instanceMethod ({ cls := "java/lang/Throwable", name := "<init>", desc := "(Ljava/lang/String;)V" } : Jvm.MethodName)) ∈ gw := List.mem_filter.mpr ⟨List.mem_append_right _ (List.mem_append_right _ (List.mem_append_left _ (List.mem_of_getElem? (i := 24) rfl))), by decide +kernel⟩
theorem kw_282 : (Jvm.Cond.instanceMethod ({ cls := "ShiftSignatures$Modulus", name := "become", desc := "(J)V" } : Jvm.MethodName)) ∈ gw := List.mem_filter.mpr ⟨List.mem_append_right _ (List.mem_append_right _ (List.mem_append_left _ (List.mem_of_getElem? (i := 42) rfl))), by decide +kernel⟩
theorem kw_288 : (Jvm.Cond.instanceMethod ({ cls := "ShiftSignatures$Circuit", name := "restart", desc := "(I)V" } : Jvm.MethodName)) ∈ gw := List.mem_filter.mpr ⟨List.mem_append_right _ (List.mem_append_right _ (List.mem_append_left _ (List.mem_of_getElem? (i := 48) rfl))), by decide +kernel⟩
theorem kw_294 : (Jvm.Cond.instanceMethod ({ cls := "ShiftSignatures", name := "times", desc := "(JJ)J" } : Jvm.MethodName)) ∈ gw := List.mem_filter.mpr ⟨List.mem_append_right _ (List.mem_append_right _ (List.mem_append_left _ (List.mem_of_getElem? (i := 54) rfl))), by decide +kernel⟩
theorem kw_299 : (Jvm.Cond.instanceMethod ({ cls := "ShiftSignatures", name := "requireResidue", desc := "(J)V" } : Jvm.MethodName)) ∈ gw := List.mem_filter.mpr ⟨List.mem_append_right _ (List.mem_append_right _ (List.mem_append_left _ (List.mem_of_getElem? (i := 59) rfl))), by decide +kernel⟩
theorem kw_303 : (Jvm.Cond.instanceMethod ({ cls := "ShiftSignatures$Modulus", name := "hasResidue", desc := "(J)Z" } : Jvm.MethodName)) ∈ gw := List.mem_filter.mpr ⟨List.mem_append_right _ (List.mem_append_right _ (List.mem_append_left _ (List.mem_of_getElem? (i := 63) rfl))), by decide +kernel⟩
theorem kw_311 : (Jvm.Cond.instanceMethod ({ cls := "ShiftSignatures", name := "power", desc := "(JJ)J" } : Jvm.MethodName)) ∈ gw := List.mem_filter.mpr ⟨List.mem_append_right _ (List.mem_append_right _ (List.mem_append_left _ (List.mem_of_getElem? (i := 71) rfl))), by decide +kernel⟩
theorem kw_316 : (Jvm.Cond.instanceMethod ({ cls := "ShiftSignatures", name := "requireNotNegative", desc := "(J)V" } : Jvm.MethodName)) ∈ gw := List.mem_filter.mpr ⟨List.mem_append_right _ (List.mem_append_right _ (List.mem_append_left _ (List.mem_of_getElem? (i := 76) rfl))), by decide +kernel⟩
theorem kw_324 : (Jvm.Cond.instanceMethod ({ cls := "ShiftSignatures", name := "load", desc := "(J)J" } : Jvm.MethodName)) ∈ gw := List.mem_filter.mpr ⟨List.mem_append_right _ (List.mem_append_right _ (List.mem_append_left _ (List.mem_of_getElem? (i := 84) rfl))), by decide +kernel⟩
theorem kw_331 : (Jvm.Cond.instanceMethod ({ cls := "ShiftSignatures", name := "steps", desc := "(J)J" } : Jvm.MethodName)) ∈ gw := List.mem_filter.mpr ⟨List.mem_append_right _ (List.mem_append_right _ (List.mem_append_left _ (List.mem_of_getElem? (i := 91) rfl))), by decide +kernel⟩
theorem kw_339 : (Jvm.Cond.instanceMethod ({ cls := "ShiftSignatures", name := "channel", desc := "(J)I" } : Jvm.MethodName)) ∈ gw := List.mem_filter.mpr ⟨List.mem_append_right _ (List.mem_append_right _ (List.mem_append_left _ (List.mem_of_getElem? (i := 99) rfl))), by decide +kernel⟩
theorem kw_353 : (Jvm.Cond.instanceMethod ({ cls := "java/lang/IllegalStateException", name := "<init>", desc := "(Ljava/lang/String;)V" } : Jvm.MethodName)) ∈ gw := List.mem_filter.mpr ⟨List.mem_append_right _ (List.mem_append_right _ (List.mem_append_left _ (List.mem_of_getElem? (i := 113) rfl))), by decide +kernel⟩
theorem kw_363 : (Jvm.Cond.instanceMethod ({ cls := "ShiftSignatures", name := "gate", desc := "(III)I" } : Jvm.MethodName)) ∈ gw := List.mem_filter.mpr ⟨List.mem_append_right _ (List.mem_append_right _ (List.mem_append_left _ (List.mem_of_getElem? (i := 123) rfl))), by decide +kernel⟩
theorem kw_369 : (Jvm.Cond.instanceMethod ({ cls := "ShiftSignatures", name := "requireLine", desc := "(I)V" } : Jvm.MethodName)) ∈ gw := List.mem_filter.mpr ⟨List.mem_append_right _ (List.mem_append_right _ (List.mem_append_left _ (List.mem_of_getElem? (i := 129) rfl))), by decide +kernel⟩
theorem kw_373 : (Jvm.Cond.instanceMethod ({ cls := "ShiftSignatures$Circuit", name := "countLines", desc := "()I" } : Jvm.MethodName)) ∈ gw := List.mem_filter.mpr ⟨List.mem_append_right _ (List.mem_append_right _ (List.mem_append_left _ (List.mem_of_getElem? (i := 133) rfl))), by decide +kernel⟩
theorem kw_386 : (Jvm.Cond.instanceMethod ({ cls := "java/lang/IndexOutOfBoundsException", name := "<init>", desc := "(Ljava/lang/String;)V" } : Jvm.MethodName)) ∈ gw := List.mem_filter.mpr ⟨List.mem_append_right _ (List.mem_append_right _ (List.mem_append_left _ (List.mem_of_getElem? (i := 146) rfl))), by decide +kernel⟩
theorem kw_394 : (Jvm.Cond.instanceMethod ({ cls := "ShiftSignatures$Circuit", name := "addGate", desc := "(III)I" } : Jvm.MethodName)) ∈ gw := List.mem_filter.mpr ⟨List.mem_append_right _ (List.mem_append_right _ (List.mem_append_left _ (List.mem_of_getElem? (i := 154) rfl))), by decide +kernel⟩
theorem kw_401 : (Jvm.Cond.instanceMethod ({ cls := "ShiftSignatures", name := "output", desc := "(I)I" } : Jvm.MethodName)) ∈ gw := List.mem_filter.mpr ⟨List.mem_append_right _ (List.mem_append_right _ (List.mem_append_left _ (List.mem_of_getElem? (i := 161) rfl))), by decide +kernel⟩
theorem kw_407 : (Jvm.Cond.instanceMethod ({ cls := "ShiftSignatures$Circuit", name := "addOutput", desc := "(I)I" } : Jvm.MethodName)) ∈ gw := List.mem_filter.mpr ⟨List.mem_append_right _ (List.mem_append_right _ (List.mem_append_left _ (List.mem_of_getElem? (i := 167) rfl))), by decide +kernel⟩
theorem kw_413 : (Jvm.Cond.instanceMethod ({ cls := "ShiftSignatures", name := "answer", desc := "(II)I" } : Jvm.MethodName)) ∈ gw := List.mem_filter.mpr ⟨List.mem_append_right _ (List.mem_append_right _ (List.mem_append_left _ (List.mem_of_getElem? (i := 173) rfl))), by decide +kernel⟩
theorem kw_418 : (Jvm.Cond.instanceMethod ({ cls := "ShiftSignatures", name := "requireFaultOrNone", desc := "(I)V" } : Jvm.MethodName)) ∈ gw := List.mem_filter.mpr ⟨List.mem_append_right _ (List.mem_append_right _ (List.mem_append_left _ (List.mem_of_getElem? (i := 178) rfl))), by decide +kernel⟩
theorem kw_422 : (Jvm.Cond.instanceMethod ({ cls := "ShiftSignatures", name := "requireFault", desc := "(I)V" } : Jvm.MethodName)) ∈ gw := List.mem_filter.mpr ⟨List.mem_append_right _ (List.mem_append_right _ (List.mem_append_left _ (List.mem_of_getElem? (i := 182) rfl))), by decide +kernel⟩
theorem kw_426 : (Jvm.Cond.instanceMethod ({ cls := "ShiftSignatures$Circuit", name := "countFaults", desc := "()I" } : Jvm.MethodName)) ∈ gw := List.mem_filter.mpr ⟨List.mem_append_right _ (List.mem_append_right _ (List.mem_append_left _ (List.mem_of_getElem? (i := 186) rfl))), by decide +kernel⟩
theorem kw_431 : (Jvm.Cond.instanceMethod ({ cls := "ShiftSignatures$Circuit", name := "answerTo", desc := "(II)I" } : Jvm.MethodName)) ∈ gw := List.mem_filter.mpr ⟨List.mem_append_right _ (List.mem_append_right _ (List.mem_append_left _ (List.mem_of_getElem? (i := 191) rfl))), by decide +kernel⟩
theorem kw_435 : (Jvm.Cond.instanceMethod ({ cls := "ShiftSignatures$Circuit", name := "settle", desc := "(IZ)V" } : Jvm.MethodName)) ∈ gw := List.mem_filter.mpr ⟨List.mem_append_right _ (List.mem_append_right _ (List.mem_append_left _ (List.mem_of_getElem? (i := 195) rfl))), by decide +kernel⟩
theorem kw_442 : (Jvm.Cond.instanceMethod ({ cls := "ShiftSignatures$Circuit", name := "valuesOfGate", desc := "(I)J" } : Jvm.MethodName)) ∈ gw := List.mem_filter.mpr ⟨List.mem_append_right _ (List.mem_append_right _ (List.mem_append_left _ (List.mem_of_getElem? (i := 202) rfl))), by decide +kernel⟩
theorem kw_450 : (Jvm.Cond.instanceMethod ({ cls := "ShiftSignatures$Circuit", name := "valuesOfOutput", desc := "(I)J" } : Jvm.MethodName)) ∈ gw := List.mem_filter.mpr ⟨List.mem_append_right _ (List.mem_append_right _ (List.mem_append_left _ (List.mem_of_getElem? (i := 210) rfl))), by decide +kernel⟩
theorem kw_456 : (Jvm.Cond.instanceMethod ({ cls := "ShiftSignatures", name := "session", desc := "(II)J" } : Jvm.MethodName)) ∈ gw := List.mem_filter.mpr ⟨List.mem_append_right _ (List.mem_append_right _ (List.mem_append_left _ (List.mem_of_getElem? (i := 216) rfl))), by decide +kernel⟩
theorem kw_461 : (Jvm.Cond.instanceMethod ({ cls := "ShiftSignatures", name := "requirePatterns", desc := "(I)V" } : Jvm.MethodName)) ∈ gw := List.mem_filter.mpr ⟨List.mem_append_right _ (List.mem_append_right _ (List.mem_append_left _ (List.mem_of_getElem? (i := 221) rfl))), by decide +kernel⟩
theorem kw_469 : (Jvm.Cond.instanceMethod ({ cls := "ShiftSignatures", name := "faults", desc := "(II)I" } : Jvm.MethodName)) ∈ gw := List.mem_filter.mpr ⟨List.mem_append_right _ (List.mem_append_right _ (List.mem_append_left _ (List.mem_of_getElem? (i := 229) rfl))), by decide +kernel⟩
theorem kw_475 : (Jvm.Cond.instanceMethod ({ cls := "ShiftSignatures", name := "compareAllFaults", desc := "(I)V" } : Jvm.MethodName)) ∈ gw := List.mem_filter.mpr ⟨List.mem_append_right _ (List.mem_append_right _ (List.mem_append_left _ (List.mem_of_getElem? (i := 235) rfl))), by decide +kernel⟩
theorem kw_479 : (Jvm.Cond.instanceMethod ({ cls := "ShiftSignatures$Differences", name := "clear", desc := "()V" } : Jvm.MethodName)) ∈ gw := List.mem_filter.mpr ⟨List.mem_append_right _ (List.mem_append_right _ (List.mem_append_left _ (List.mem_of_getElem? (i := 239) rfl))), by decide +kernel⟩
theorem kw_483 : (Jvm.Cond.instanceMethod ({ cls := "ShiftSignatures$Differences", name := "timesX", desc := "()V" } : Jvm.MethodName)) ∈ gw := List.mem_filter.mpr ⟨List.mem_append_right _ (List.mem_append_right _ (List.mem_append_right _ (List.mem_append_left _ (List.mem_of_getElem? (i := 3) rfl)))), by decide +kernel⟩
theorem kw_487 : (Jvm.Cond.instanceMethod ({ cls := "ShiftSignatures$Differences", name := "addAnswers", desc := "(LShiftSignatures$Circuit;I)V" } : Jvm.MethodName)) ∈ gw := List.mem_filter.mpr ⟨List.mem_append_right _ (List.mem_append_right _ (List.mem_append_right _ (List.mem_append_left _ (List.mem_of_getElem? (i := 7) rfl)))), by decide +kernel⟩
theorem kw_495 : (Jvm.Cond.instanceMethod ({ cls := "ShiftSignatures$Differences", name := "reduce", desc := "(LShiftSignatures$Modulus;)V" } : Jvm.MethodName)) ∈ gw := List.mem_filter.mpr ⟨List.mem_append_right _ (List.mem_append_right _ (List.mem_append_right _ (List.mem_append_left _ (List.mem_of_getElem? (i := 15) rfl)))), by decide +kernel⟩
theorem kw_499 : (Jvm.Cond.instanceMethod ({ cls := "ShiftSignatures$Differences", name := "subtract", desc := "(JJI)V" } : Jvm.MethodName)) ∈ gw := List.mem_filter.mpr ⟨List.mem_append_right _ (List.mem_append_right _ (List.mem_append_right _ (List.mem_append_left _ (List.mem_of_getElem? (i := 19) rfl)))), by decide +kernel⟩
theorem kw_503 : (Jvm.Cond.instanceMethod ({ cls := "ShiftSignatures$Differences", name := "found", desc := "()J" } : Jvm.MethodName)) ∈ gw := List.mem_filter.mpr ⟨List.mem_append_right _ (List.mem_append_right _ (List.mem_append_right _ (List.mem_append_left _ (List.mem_of_getElem? (i := 23) rfl)))), by decide +kernel⟩
theorem kw_518 : (Jvm.Cond.instanceMethod ({ cls := "ShiftSignatures", name := "first", desc := "(II)I" } : Jvm.MethodName)) ∈ gw := List.mem_filter.mpr ⟨List.mem_append_right _ (List.mem_append_right _ (List.mem_append_right _ (List.mem_append_left _ (List.mem_of_getElem? (i := 38) rfl)))), by decide +kernel⟩
theorem kw_524 : (Jvm.Cond.instanceMethod ({ cls := "ShiftSignaturesModel", name := "<init>", desc := "()V" } : Jvm.MethodName)) ∈ gw := List.mem_filter.mpr ⟨List.mem_append_right _ (List.mem_append_right _ (List.mem_append_right _ (List.mem_append_left _ (List.mem_of_getElem? (i := 44) rfl)))), by decide +kernel⟩
theorem kw_581 : (Jvm.Cond.instanceMethod ({ cls := "ShiftSignaturesModel", name := "thrown", desc := "()I" } : Jvm.MethodName)) ∈ gw := List.mem_filter.mpr ⟨List.mem_append_right _ (List.mem_append_right _ (List.mem_append_right _ (List.mem_append_left _ (List.mem_of_getElem? (i := 101) rfl)))), by decide +kernel⟩
theorem kw_585 : (Jvm.Cond.instanceMethod ({ cls := "ShiftSignaturesModel", name := "polynomial", desc := "(J)I" } : Jvm.MethodName)) ∈ gw := List.mem_filter.mpr ⟨List.mem_append_right _ (List.mem_append_right _ (List.mem_append_right _ (List.mem_append_left _ (List.mem_of_getElem? (i := 105) rfl)))), by decide +kernel⟩
theorem kw_590 : (Jvm.Cond.instanceMethod ({ cls := "ShiftSignaturesModel", name := "refused", desc := "(I)Z" } : Jvm.MethodName)) ∈ gw := List.mem_filter.mpr ⟨List.mem_append_right _ (List.mem_append_right _ (List.mem_append_right _ (List.mem_append_left _ (List.mem_of_getElem? (i := 110) rfl)))), by decide +kernel⟩
theorem kw_594 : (Jvm.Cond.instanceMethod ({ cls := "ShiftSignaturesModel", name := "clearCircuit", desc := "()V" } : Jvm.MethodName)) ∈ gw := List.mem_filter.mpr ⟨List.mem_append_right _ (List.mem_append_right _ (List.mem_append_right _ (List.mem_append_left _ (List.mem_of_getElem? (i := 114) rfl)))), by decide +kernel⟩
theorem kw_597 : (Jvm.Cond.instanceMethod ({ cls := "ShiftSignaturesModel", name := "times", desc := "(JJ)J" } : Jvm.MethodName)) ∈ gw := List.mem_filter.mpr ⟨List.mem_append_right _ (List.mem_append_right _ (List.mem_append_right _ (List.mem_append_left _ (List.mem_of_getElem? (i := 117) rfl)))), by decide +kernel⟩
theorem kw_602 : (Jvm.Cond.instanceMethod ({ cls := "ShiftSignaturesModel", name := "isResidue", desc := "(J)Z" } : Jvm.MethodName)) ∈ gw := List.mem_filter.mpr ⟨List.mem_append_right _ (List.mem_append_right _ (List.mem_append_right _ (List.mem_append_left _ (List.mem_of_getElem? (i := 122) rfl)))), by decide +kernel⟩
theorem kw_606 : (Jvm.Cond.instanceMethod ({ cls := "ShiftSignaturesModel", name := "product", desc := "(JJ)J" } : Jvm.MethodName)) ∈ gw := List.mem_filter.mpr ⟨List.mem_append_right _ (List.mem_append_right _ (List.mem_append_right _ (List.mem_append_left _ (List.mem_of_getElem? (i := 126) rfl)))), by decide +kernel⟩
theorem kw_610 : (Jvm.Cond.instanceMethod ({ cls := "ShiftSignaturesModel", name := "step", desc := "(J)J" } : Jvm.MethodName)) ∈ gw := List.mem_filter.mpr ⟨List.mem_append_right _ (List.mem_append_right _ (List.mem_append_right _ (List.mem_append_left _ (List.mem_of_getElem? (i := 130) rfl)))), by decide +kernel⟩
theorem kw_614 : (Jvm.Cond.instanceMethod ({ cls := "ShiftSignaturesModel", name := "power", desc := "(JJ)J" } : Jvm.MethodName)) ∈ gw := List.mem_filter.mpr ⟨List.mem_append_right _ (List.mem_append_right _ (List.mem_append_right _ (List.mem_append_left _ (List.mem_of_getElem? (i := 134) rfl)))), by decide +kernel⟩
theorem kw_619 : (Jvm.Cond.instanceMethod ({ cls := "ShiftSignaturesModel", name := "raised", desc := "(JJ)J" } : Jvm.MethodName)) ∈ gw := List.mem_filter.mpr ⟨List.mem_append_right _ (List.mem_append_right _ (List.mem_append_right _ (List.mem_append_left _ (List.mem_of_getElem? (i := 139) rfl)))), by decide +kernel⟩
theorem kw_623 : (Jvm.Cond.instanceMethod ({ cls := "ShiftSignaturesModel", name := "reduced", desc := "(J)J" } : Jvm.MethodName)) ∈ gw := List.mem_filter.mpr ⟨List.mem_append_right _ (List.mem_append_right _ (List.mem_append_right _ (List.mem_append_left _ (List.mem_of_getElem? (i := 143) rfl)))), by decide +kernel⟩
theorem kw_629 : (Jvm.Cond.instanceMethod ({ cls := "ShiftSignaturesModel", name := "residue", desc := "(J)J" } : Jvm.MethodName)) ∈ gw := List.mem_filter.mpr ⟨List.mem_append_right _ (List.mem_append_right _ (List.mem_append_right _ (List.mem_append_left _ (List.mem_of_getElem? (i := 149) rfl)))), by decide +kernel⟩
theorem kw_633 : (Jvm.Cond.instanceMethod ({ cls := "ShiftSignaturesModel", name := "irreducible", desc := "()Z" } : Jvm.MethodName)) ∈ gw := List.mem_filter.mpr ⟨List.mem_append_right _ (List.mem_append_right _ (List.mem_append_right _ (List.mem_append_left _ (List.mem_of_getElem? (i := 153) rfl)))), by decide +kernel⟩
theorem kw_638 : (Jvm.Cond.instanceMethod ({ cls := "ShiftSignaturesModel", name := "isProduct", desc := "()Z" } : Jvm.MethodName)) ∈ gw := List.mem_filter.mpr ⟨List.mem_append_right _ (List.mem_append_right _ (List.mem_append_right _ (List.mem_append_left _ (List.mem_of_getElem? (i := 158) rfl)))), by decide +kernel⟩
theorem kw_641 : (Jvm.Cond.instanceMethod ({ cls := "ShiftSignaturesModel", name := "primitive", desc := "()Z" } : Jvm.MethodName)) ∈ gw := List.mem_filter.mpr ⟨List.mem_append_right _ (List.mem_append_right _ (List.mem_append_right _ (List.mem_append_left _ (List.mem_of_getElem? (i := 161) rfl)))), by decide +kernel⟩
theorem kw_645 : (Jvm.Cond.instanceMethod ({ cls := "ShiftSignaturesModel", name := "order", desc := "()J" } : Jvm.MethodName)) ∈ gw := List.mem_filter.mpr ⟨List.mem_append_right _ (List.mem_append_right _ (List.mem_append_right _ (List.mem_append_left _ (List.mem_of_getElem? (i := 165) rfl)))), by decide +kernel⟩
theorem kw_650 : (Jvm.Cond.instanceMethod ({ cls := "ShiftSignaturesModel", name := "load", desc := "(J)J" } : Jvm.MethodName)) ∈ gw := List.mem_filter.mpr ⟨List.mem_append_right _ (List.mem_append_right _ (List.mem_append_right _ (List.mem_append_left _ (List.mem_of_getElem? (i := 170) rfl)))), by decide +kernel⟩
theorem kw_654 : (Jvm.Cond.instanceMethod ({ cls := "ShiftSignaturesModel", name := "steps", desc := "(J)J" } : Jvm.MethodName)) ∈ gw := List.mem_filter.mpr ⟨List.mem_append_right _ (List.mem_append_right _ (List.mem_append_right _ (List.mem_append_left _ (List.mem_of_getElem? (i := 174) rfl)))), by decide +kernel⟩
theorem kw_658 : (Jvm.Cond.instanceMethod ({ cls := "ShiftSignaturesModel", name := "channel", desc := "(J)I" } : Jvm.MethodName)) ∈ gw := List.mem_filter.mpr ⟨List.mem_append_right _ (List.mem_append_right _ (List.mem_append_right _ (List.mem_append_left _ (List.mem_of_getElem? (i := 178) rfl)))), by decide +kernel⟩
theorem kw_662 : (Jvm.Cond.instanceMethod ({ cls := "ShiftSignaturesModel", name := "pattern", desc := "()I" } : Jvm.MethodName)) ∈ gw := List.mem_filter.mpr ⟨List.mem_append_right _ (List.mem_append_right _ (List.mem_append_right _ (List.mem_append_left _ (List.mem_of_getElem? (i := 182) rfl)))), by decide +kernel⟩
theorem kw_667 : (Jvm.Cond.instanceMethod ({ cls := "ShiftSignaturesModel", name := "patternOf", desc := "(J)I" } : Jvm.MethodName)) ∈ gw := List.mem_filter.mpr ⟨List.mem_append_right _ (List.mem_append_right _ (List.mem_append_right _ (List.mem_append_left _ (List.mem_of_getElem? (i := 187) rfl)))), by decide +kernel⟩
theorem kw_670 : (Jvm.Cond.instanceMethod ({ cls := "ShiftSignaturesModel", name := "gate", desc := "(III)I" } : Jvm.MethodName)) ∈ gw := List.mem_filter.mpr ⟨List.mem_append_right _ (List.mem_append_right _ (List.mem_append_right _ (List.mem_append_left _ (List.mem_of_getElem? (i := 190) rfl)))), by decide +kernel⟩
theorem kw_675 : (Jvm.Cond.instanceMethod ({ cls := "ShiftSignaturesModel", name := "isLine", desc := "(I)Z" } : Jvm.MethodName)) ∈ gw := List.mem_filter.mpr ⟨List.mem_append_right _ (List.mem_append_right _ (List.mem_append_right _ (List.mem_append_left _ (List.mem_of_getElem? (i := 195) rfl)))), by decide +kernel⟩
theorem kw_678 : (Jvm.Cond.instanceMethod ({ cls := "ShiftSignaturesModel", name := "output", desc := "(I)I" } : Jvm.MethodName)) ∈ gw := List.mem_filter.mpr ⟨List.mem_append_right _ (List.mem_append_right _ (List.mem_append_right _ (List.mem_append_left _ (List.mem_of_getElem? (i := 198) rfl)))), by decide +kernel⟩
theorem kw_682 : (Jvm.Cond.instanceMethod ({ cls := "ShiftSignaturesModel", name := "answer", desc := "(II)I" } : Jvm.MethodName)) ∈ gw := List.mem_filter.mpr ⟨List.mem_append_right _ (List.mem_append_right _ (List.mem_append_right _ (List.mem_append_left _ (List.mem_of_getElem? (i := 202) rfl)))), by decide +kernel⟩
theorem kw_687 : (Jvm.Cond.instanceMethod ({ cls := "ShiftSignaturesModel", name := "isFault", desc := "(I)Z" } : Jvm.MethodName)) ∈ gw := List.mem_filter.mpr ⟨List.mem_append_right _ (List.mem_append_right _ (List.mem_append_right _ (List.mem_append_left _ (List.mem_of_getElem? (i := 207) rfl)))), by decide +kernel⟩
theorem kw_691 : (Jvm.Cond.instanceMethod ({ cls := "ShiftSignaturesModel", name := "answerTo", desc := "(II)I" } : Jvm.MethodName)) ∈ gw := List.mem_filter.mpr ⟨List.mem_append_right _ (List.mem_append_right _ (List.mem_append_right _ (List.mem_append_left _ (List.mem_of_getElem? (i := 211) rfl)))), by decide +kernel⟩
theorem kw_697 : (Jvm.Cond.instanceMethod ({ cls := "ShiftSignaturesModel", name := "session", desc := "(II)J" } : Jvm.MethodName)) ∈ gw := List.mem_filter.mpr ⟨List.mem_append_right _ (List.mem_append_right _ (List.mem_append_right _ (List.mem_append_left _ (List.mem_of_getElem? (i := 217) rfl)))), by decide +kernel⟩
theorem kw_705 : (Jvm.Cond.instanceMethod ({ cls := "ShiftSignaturesModel", name := "prepare", desc := "(I)V" } : Jvm.MethodName)) ∈ gw := List.mem_filter.mpr ⟨List.mem_append_right _ (List.mem_append_right _ (List.mem_append_right _ (List.mem_append_left _ (List.mem_of_getElem? (i := 225) rfl)))), by decide +kernel⟩
theorem kw_709 : (Jvm.Cond.instanceMethod ({ cls := "ShiftSignaturesModel", name := "signature", desc := "(II)J" } : Jvm.MethodName)) ∈ gw := List.mem_filter.mpr ⟨List.mem_append_right _ (List.mem_append_right _ (List.mem_append_right _ (List.mem_append_left _ (List.mem_of_getElem? (i := 229) rfl)))), by decide +kernel⟩
theorem kw_712 : (Jvm.Cond.instanceMethod ({ cls := "ShiftSignaturesModel", name := "faults", desc := "(II)I" } : Jvm.MethodName)) ∈ gw := List.mem_filter.mpr ⟨List.mem_append_right _ (List.mem_append_right _ (List.mem_append_right _ (List.mem_append_left _ (List.mem_of_getElem? (i := 232) rfl)))), by decide +kernel⟩
theorem kw_717 : (Jvm.Cond.instanceMethod ({ cls := "ShiftSignaturesModel", name := "firstSeen", desc := "(II)I" } : Jvm.MethodName)) ∈ gw := List.mem_filter.mpr ⟨List.mem_append_right _ (List.mem_append_right _ (List.mem_append_right _ (List.mem_append_left _ (List.mem_of_getElem? (i := 237) rfl)))), by decide +kernel⟩
theorem kw_720 : (Jvm.Cond.instanceMethod ({ cls := "ShiftSignaturesModel", name := "first", desc := "(II)I" } : Jvm.MethodName)) ∈ gw := List.mem_filter.mpr ⟨List.mem_append_right _ (List.mem_append_right _ (List.mem_append_right _ (List.mem_append_right _ (List.mem_of_getElem? (i := 0) rfl)))), by decide +kernel⟩
theorem kw_18 : (Jvm.Cond.code ({ cls := "ShiftSignatures", name := "<init>", desc := "()V" } : Jvm.MethodName) prog_1_method_1_code (1 : Nat) (Option.none : Option Jvm.ClassFile.FieldType)) ∈ gw := List.mem_filter.mpr ⟨List.mem_append_right _ (List.mem_append_left _ (List.mem_of_getElem? (i := 18) rfl)), by decide +kernel⟩
theorem kw_21 : (Jvm.Cond.code ({ cls := "java/lang/Object", name := "<init>", desc := "()V" } : Jvm.MethodName) object_method_1_code (1 : Nat) (Option.none : Option Jvm.ClassFile.FieldType)) ∈ gw := List.mem_filter.mpr ⟨List.mem_append_right _ (List.mem_append_left _ (List.mem_of_getElem? (i := 21) rfl)), by decide +kernel⟩
theorem kw_26 : (Jvm.Cond.code ({ cls := "ShiftSignatures$Modulus", name := "<init>", desc := "()V" } : Jvm.MethodName) prog_4_method_1_code (1 : Nat) (Option.none : Option Jvm.ClassFile.FieldType)) ∈ gw := List.mem_filter.mpr ⟨List.mem_append_right _ (List.mem_append_left _ (List.mem_of_getElem? (i := 26) rfl)), by decide +kernel⟩
theorem kw_47 : (Jvm.Cond.code ({ cls := "ShiftSignatures$Circuit", name := "<init>", desc := "()V" } : Jvm.MethodName) prog_2_method_1_code (1 : Nat) (Option.none : Option Jvm.ClassFile.FieldType)) ∈ gw := List.mem_filter.mpr ⟨List.mem_append_right _ (List.mem_append_left _ (List.mem_of_getElem? (i := 47) rfl)), by decide +kernel⟩
theorem kw_84 : (Jvm.Cond.code ({ cls := "ShiftSignatures$Differences", name := "<init>", desc := "()V" } : Jvm.MethodName) prog_3_method_1_code (1 : Nat) (Option.none : Option Jvm.ClassFile.FieldType)) ∈ gw := List.mem_filter.mpr ⟨List.mem_append_right _ (List.mem_append_left _ (List.mem_of_getElem? (i := 84) rfl)), by decide +kernel⟩
theorem kw_113 : (Jvm.Cond.code ({ cls := "ShiftSignatures", name := "residue", desc := "(J)J" } : Jvm.MethodName) prog_1_method_5_code (3 : Nat) (Option.some Jvm.ClassFile.FieldType.long)) ∈ gw := List.mem_filter.mpr ⟨List.mem_append_right _ (List.mem_append_left _ (List.mem_of_getElem? (i := 113) rfl)), by decide +kernel⟩
theorem kw_117 : (Jvm.Cond.code ({ cls := "ShiftSignatures$Modulus", name := "reduced", desc := "(J)J" } : Jvm.MethodName) prog_4_method_4_code (3 : Nat) (Option.some Jvm.ClassFile.FieldType.long)) ∈ gw := List.mem_filter.mpr ⟨List.mem_append_right _ (List.mem_append_left _ (List.mem_of_getElem? (i := 117) rfl)), by decide +kernel⟩
theorem kw_120 : (Jvm.Cond.code ({ cls := "ShiftSignatures$Modulus", name := "remainder", desc := "(JJ)J" } : Jvm.MethodName) prog_4_method_14_code (8 : Nat) (Option.some Jvm.ClassFile.FieldType.long)) ∈ gw := List.mem_filter.mpr ⟨List.mem_append_right _ (List.mem_append_left _ (List.mem_of_getElem? (i := 120) rfl)), by decide +kernel⟩
theorem kw_123 : (Jvm.Cond.code ({ cls := "ShiftSignatures$Modulus", name := "degreeOf", desc := "(J)I" } : Jvm.MethodName) prog_4_method_13_code (2 : Nat) (Option.some Jvm.ClassFile.FieldType.int)) ∈ gw := List.mem_filter.mpr ⟨List.mem_append_right _ (List.mem_append_left _ (List.mem_of_getElem? (i := 123) rfl)), by decide +kernel⟩
theorem kw_126 : (Jvm.Cond.code ({ cls := "java/lang/Long", name := "numberOfLeadingZeros", desc := "(J)I" } : Jvm.MethodName) prog_12_method_48_code (3 : Nat) (Option.some Jvm.ClassFile.FieldType.int)) ∈ gw := List.mem_filter.mpr ⟨List.mem_append_right _ (List.mem_append_left _ (List.mem_of_getElem? (i := 126) rfl)), by decide +kernel⟩
theorem kw_129 : (Jvm.Cond.code ({ cls := "java/lang/Integer", name := "numberOfLeadingZeros", desc := "(I)I" } : Jvm.MethodName) prog_11_method_47_code (2 : Nat) (Option.some Jvm.ClassFile.FieldType.int)) ∈ gw := List.mem_filter.mpr ⟨List.mem_append_right _ (List.mem_append_left _ (List.mem_of_getElem? (i := 129) rfl)), by decide +kernel⟩
theorem kw_134 : (Jvm.Cond.code ({ cls := "ShiftSignatures", name := "irreducible", desc := "()Z" } : Jvm.MethodName) prog_1_method_6_code (1 : Nat) (Option.some Jvm.ClassFile.FieldType.boolean)) ∈ gw := List.mem_filter.mpr ⟨List.mem_append_right _ (List.mem_append_left _ (List.mem_of_getElem? (i := 134) rfl)), by decide +kernel⟩
theorem kw_138 : (Jvm.Cond.code ({ cls := "ShiftSignatures$Modulus", name := "isIrreducible", desc := "()Z" } : Jvm.MethodName) prog_4_method_8_code (4 : Nat) (Option.some Jvm.ClassFile.FieldType.boolean)) ∈ gw := List.mem_filter.mpr ⟨List.mem_append_right _ (List.mem_append_left _ (List.mem_of_getElem? (i := 138) rfl)), by decide +kernel⟩
theorem kw_142 : (Jvm.Cond.code ({ cls := "ShiftSignatures$Modulus", name := "product", desc := "(JJ)J" } : Jvm.MethodName) prog_4_method_6_code (8 : Nat) (Option.some Jvm.ClassFile.FieldType.long)) ∈ gw := List.mem_filter.mpr ⟨List.mem_append_right _ (List.mem_append_left _ (List.mem_of_getElem? (i := 142) rfl)), by decide +kernel⟩
theorem kw_146 : (Jvm.Cond.code ({ cls := "ShiftSignatures$Modulus", name := "stepped", desc := "(J)J" } : Jvm.MethodName) prog_4_method_5_code (5 : Nat) (Option.some Jvm.ClassFile.FieldType.long)) ∈ gw := List.mem_filter.mpr ⟨List.mem_append_right _ (List.mem_append_left _ (List.mem_of_getElem? (i := 146) rfl)), by decide +kernel⟩
theorem kw_149 : (Jvm.Cond.code ({ cls := "ShiftSignatures$Modulus", name := "commonDivisor", desc := "(JJ)J" } : Jvm.MethodName) prog_4_method_16_code (11 : Nat) (Option.some Jvm.ClassFile.FieldType.long)) ∈ gw := List.mem_filter.mpr ⟨List.mem_append_right _ (List.mem_append_left _ (List.mem_of_getElem? (i := 149) rfl)), by decide +kernel⟩
theorem kw_153 : (Jvm.Cond.code ({ cls := "ShiftSignatures", name := "primitive", desc := "()Z" } : Jvm.MethodName) prog_1_method_7_code (1 : Nat) (Option.some Jvm.ClassFile.FieldType.boolean)) ∈ gw := List.mem_filter.mpr ⟨List.mem_append_right _ (List.mem_append_left _ (List.mem_of_getElem? (i := 153) rfl)), by decide +kernel⟩
theorem kw_157 : (Jvm.Cond.code ({ cls := "ShiftSignatures$Modulus", name := "isPrimitive", desc := "()Z" } : Jvm.MethodName) prog_4_method_9_code (3 : Nat) (Option.some Jvm.ClassFile.FieldType.boolean)) ∈ gw := List.mem_filter.mpr ⟨List.mem_append_right _ (List.mem_append_left _ (List.mem_of_getElem? (i := 157) rfl)), by decide +kernel⟩
theorem kw_161 : (Jvm.Cond.code ({ cls := "ShiftSignatures$Modulus", name := "raised", desc := "(JJ)J" } : Jvm.MethodName) prog_4_method_7_code (10 : Nat) (Option.some Jvm.ClassFile.FieldType.long)) ∈ gw := List.mem_filter.mpr ⟨List.mem_append_right _ (List.mem_append_left _ (List.mem_of_getElem? (i := 161) rfl)), by decide +kernel⟩
theorem kw_165 : (Jvm.Cond.code ({ cls := "ShiftSignatures$Modulus", name := "orderWithin", desc := "(J)J" } : Jvm.MethodName) prog_4_method_11_code (10 : Nat) (Option.some Jvm.ClassFile.FieldType.long)) ∈ gw := List.mem_filter.mpr ⟨List.mem_append_right _ (List.mem_append_left _ (List.mem_of_getElem? (i := 165) rfl)), by decide +kernel⟩
theorem kw_171 : (Jvm.Cond.code ({ cls := "ShiftSignatures$Modulus", name := "withoutNeedless", desc := "(JJ)J" } : Jvm.MethodName) prog_4_method_12_code (10 : Nat) (Option.some Jvm.ClassFile.FieldType.long)) ∈ gw := List.mem_filter.mpr ⟨List.mem_append_right _ (List.mem_append_left _ (List.mem_of_getElem? (i := 171) rfl)), by decide +kernel⟩
theorem kw_175 : (Jvm.Cond.code ({ cls := "ShiftSignatures", name := "order", desc := "()J" } : Jvm.MethodName) prog_1_method_8_code (1 : Nat) (Option.some Jvm.ClassFile.FieldType.long)) ∈ gw := List.mem_filter.mpr ⟨List.mem_append_right _ (List.mem_append_left _ (List.mem_of_getElem? (i := 175) rfl)), by decide +kernel⟩
theorem kw_180 : (Jvm.Cond.code ({ cls := "ShiftSignatures$Modulus", name := "multipleOfOrder", desc := "()J" } : Jvm.MethodName) prog_4_method_10_code (10 : Nat) (Option.some Jvm.ClassFile.FieldType.long)) ∈ gw := List.mem_filter.mpr ⟨List.mem_append_right _ (List.mem_append_left _ (List.mem_of_getElem? (i := 180) rfl)), by decide +kernel⟩
theorem kw_184 : (Jvm.Cond.code ({ cls := "ShiftSignatures$Modulus", name := "without", desc := "(JJ)J" } : Jvm.MethodName) prog_4_method_17_code (9 : Nat) (Option.some Jvm.ClassFile.FieldType.long)) ∈ gw := List.mem_filter.mpr ⟨List.mem_append_right _ (List.mem_append_left _ (List.mem_of_getElem? (i := 184) rfl)), by decide +kernel⟩
theorem kw_187 : (Jvm.Cond.code ({ cls := "ShiftSignatures$Modulus", name := "quotient", desc := "(JJ)J" } : Jvm.MethodName) prog_4_method_15_code (10 : Nat) (Option.some Jvm.ClassFile.FieldType.long)) ∈ gw := List.mem_filter.mpr ⟨List.mem_append_right _ (List.mem_append_left _ (List.mem_of_getElem? (i := 187) rfl)), by decide +kernel⟩
theorem kw_192 : (Jvm.Cond.code ({ cls := "ShiftSignatures", name := "pattern", desc := "()I" } : Jvm.MethodName) prog_1_method_12_code (1 : Nat) (Option.some Jvm.ClassFile.FieldType.int)) ∈ gw := List.mem_filter.mpr ⟨List.mem_append_right _ (List.mem_append_left _ (List.mem_of_getElem? (i := 192) rfl)), by decide +kernel⟩
theorem kw_196 : (Jvm.Cond.code ({ cls := "ShiftSignatures", name := "patternOf", desc := "(J)I" } : Jvm.MethodName) prog_1_method_25_code (5 : Nat) (Option.some Jvm.ClassFile.FieldType.int)) ∈ gw := List.mem_filter.mpr ⟨List.mem_append_right _ (List.mem_append_left _ (List.mem_of_getElem? (i := 196) rfl)), by decide +kernel⟩
theorem kw_199 : (Jvm.Cond.code ({ cls := "java/lang/Long", name := "bitCount", desc := "(J)I" } : Jvm.MethodName) prog_12_method_50_code (2 : Nat) (Option.some Jvm.ClassFile.FieldType.int)) ∈ gw := List.mem_filter.mpr ⟨List.mem_append_right _ (List.mem_append_left _ (List.mem_of_getElem? (i := 199) rfl)), by decide +kernel⟩
theorem kw_210 : (Jvm.Cond.code ({ cls := "ShiftSignatures", name := "polynomial", desc := "(J)I" } : Jvm.MethodName) prog_1_method_2_code (4 : Nat) (Option.some Jvm.ClassFile.FieldType.int)) ∈ gw := List.mem_filter.mpr ⟨List.mem_append_right _ (List.mem_append_left _ (List.mem_of_getElem? (i := 210) rfl)), by decide +kernel⟩
theorem kw_236 : (Jvm.Cond.code ({ cls := "java/lang/Throwable", name := "<init>", desc := "()V" } : Jvm.MethodName) prog_15_method_1_code (1 : Nat) (Option.none : Option Jvm.ClassFile.FieldType)) ∈ gw := List.mem_filter.mpr ⟨List.mem_append_right _ (List.mem_append_left _ (List.mem_of_getElem? (i := 236) rfl)), by decide +kernel⟩
theorem kw_256 : (Jvm.Cond.code ({ cls := "java/lang/IllegalArgumentException", name := "<init>", desc := "(Ljava/lang/String;)V" } : Jvm.MethodName) prog_8_method_2_code (2 : Nat) (Option.none : Option Jvm.ClassFile.FieldType)) ∈ gw := List.mem_filter.mpr ⟨List.mem_append_right _ (List.mem_append_right _ (List.mem_append_left _ (List.mem_of_getElem? (i := 16) rfl))), by decide +kernel⟩
theorem kw_259 : (Jvm.Cond.code ({ cls := "java/lang/RuntimeException", name := "<init>", desc := "(Ljava/lang/String;)V" } : Jvm.MethodName) prog_13_method_2_code (2 : Nat) (Option.none : Option Jvm.ClassFile.FieldType)) ∈ gw := List.mem_filter.mpr ⟨List.mem_append_right _ (List.mem_append_right _ (List.mem_append_left _ (List.mem_of_getElem? (i := 19) rfl))), by decide +kernel⟩
theorem kw_262 : (Jvm.Cond.code ({ cls := "java/lang/Exception", name := "<init>", desc := "(Ljava/lang/String;)V" } : Jvm.MethodName) prog_7_method_2_code (2 : Nat) (Option.none : Option Jvm.ClassFile.FieldType)) ∈ gw := List.mem_filter.mpr ⟨List.mem_append_right _ (List.mem_append_right _ (List.mem_append_left _ (List.mem_of_getElem? (i := 22) rfl))), by decide +kernel⟩
theorem kw_265 : (Jvm.Cond.code ({ cls := "java/lang/Throwable", name := "<init>", desc := "(Ljava/lang/String;)V" } : Jvm.MethodName) prog_15_method_2_code (2 : Nat) (Option.none : Option Jvm.ClassFile.FieldType)) ∈ gw := List.mem_filter.mpr ⟨List.mem_append_right _ (List.mem_append_right _ (List.mem_append_left _ (List.mem_of_getElem? (i := 25) rfl))), by decide +kernel⟩
theorem kw_283 : (Jvm.Cond.code ({ cls := "ShiftSignatures$Modulus", name := "become", desc := "(J)V" } : Jvm.MethodName) prog_4_method_2_code (3 : Nat) (Option.none : Option Jvm.ClassFile.FieldType)) ∈ gw := List.mem_filter.mpr ⟨List.mem_append_right _ (List.mem_append_right _ (List.mem_append_left _ (List.mem_of_getElem? (i := 43) rfl))), by decide +kernel⟩
theorem kw_289 : (Jvm.Cond.code ({ cls := "ShiftSignatures$Circuit", name := "restart", desc := "(I)V" } : Jvm.MethodName) prog_2_method_2_code (2 : Nat) (Option.none : Option Jvm.ClassFile.FieldType)) ∈ gw := List.mem_filter.mpr ⟨List.mem_append_right _ (List.mem_append_right _ (List.mem_append_left _ (List.mem_of_getElem? (i := 49) rfl))), by decide +kernel⟩
theorem kw_296 : (Jvm.Cond.code ({ cls := "ShiftSignatures", name := "times", desc := "(JJ)J" } : Jvm.MethodName) prog_1_method_3_code (5 : Nat) (Option.some Jvm.ClassFile.FieldType.long)) ∈ gw := List.mem_filter.mpr ⟨List.mem_append_right _ (List.mem_append_right _ (List.mem_append_left _ (List.mem_of_getElem? (i := 56) rfl))), by decide +kernel⟩
theorem kw_300 : (Jvm.Cond.code ({ cls := "ShiftSignatures", name := "requireResidue", desc := "(J)V" } : Jvm.MethodName) prog_1_method_19_code (3 : Nat) (Option.none : Option Jvm.ClassFile.FieldType)) ∈ gw := List.mem_filter.mpr ⟨List.mem_append_right _ (List.mem_append_right _ (List.mem_append_left _ (List.mem_of_getElem? (i := 60) rfl))), by decide +kernel⟩
theorem kw_304 : (Jvm.Cond.code ({ cls := "ShiftSignatures$Modulus", name := "hasResidue", desc := "(J)Z" } : Jvm.MethodName) prog_4_method_3_code (3 : Nat) (Option.some Jvm.ClassFile.FieldType.boolean)) ∈ gw := List.mem_filter.mpr ⟨List.mem_append_right _ (List.mem_append_right _ (List.mem_append_left _ (List.mem_of_getElem? (i := 64) rfl))), by decide +kernel⟩
theorem kw_313 : (Jvm.Cond.code ({ cls := "ShiftSignatures", name := "power", desc := "(JJ)J" } : Jvm.MethodName) prog_1_method_4_code (5 : Nat) (Option.some Jvm.ClassFile.FieldType.long)) ∈ gw := List.mem_filter.mpr ⟨List.mem_append_right _ (List.mem_append_right _ (List.mem_append_left _ (List.mem_of_getElem? (i := 73) rfl))), by decide +kernel⟩
theorem kw_317 : (Jvm.Cond.code ({ cls := "ShiftSignatures", name := "requireNotNegative", desc := "(J)V" } : Jvm.MethodName) prog_1_method_20_code (3 : Nat) (Option.none : Option Jvm.ClassFile.FieldType)) ∈ gw := List.mem_filter.mpr ⟨List.mem_append_right _ (List.mem_append_right _ (List.mem_append_left _ (List.mem_of_getElem? (i := 77) rfl))), by decide +kernel⟩
theorem kw_326 : (Jvm.Cond.code ({ cls := "ShiftSignatures", name := "load", desc := "(J)J" } : Jvm.MethodName) prog_1_method_9_code (5 : Nat) (Option.some Jvm.ClassFile.FieldType.long)) ∈ gw := List.mem_filter.mpr ⟨List.mem_append_right _ (List.mem_append_right _ (List.mem_append_left _ (List.mem_of_getElem? (i := 86) rfl))), by decide +kernel⟩
theorem kw_333 : (Jvm.Cond.code ({ cls := "ShiftSignatures", name := "steps", desc := "(J)J" } : Jvm.MethodName) prog_1_method_10_code (3 : Nat) (Option.some Jvm.ClassFile.FieldType.long)) ∈ gw := List.mem_filter.mpr ⟨List.mem_append_right _ (List.mem_append_right _ (List.mem_append_left _ (List.mem_of_getElem? (i := 93) rfl))), by decide +kernel⟩
theorem kw_341 : (Jvm.Cond.code ({ cls := "ShiftSignatures", name := "channel", desc := "(J)I" } : Jvm.MethodName) prog_1_method_11_code (4 : Nat) (Option.some Jvm.ClassFile.FieldType.int)) ∈ gw := List.mem_filter.mpr ⟨List.mem_append_right _ (List.mem_append_right _ (List.mem_append_left _ (List.mem_of_getElem? (i := 101) rfl))), by decide +kernel⟩
theorem kw_354 : (Jvm.Cond.code ({ cls := "java/lang/IllegalStateException", name := "<init>", desc := "(Ljava/lang/String;)V" } : Jvm.MethodName) prog_9_method_2_code (2 : Nat) (Option.none : Option Jvm.ClassFile.FieldType)) ∈ gw := List.mem_filter.mpr ⟨List.mem_append_right _ (List.mem_append_right _ (List.mem_append_left _ (List.mem_of_getElem? (i := 114) rfl))), by decide +kernel⟩
theorem kw_365 : (Jvm.Cond.code ({ cls := "ShiftSignatures", name := "gate", desc := "(III)I" } : Jvm.MethodName) prog_1_method_13_code (5 : Nat) (Option.some Jvm.ClassFile.FieldType.int)) ∈ gw := List.mem_filter.mpr ⟨List.mem_append_right _ (List.mem_append_right _ (List.mem_append_left _ (List.mem_of_getElem? (i := 125) rfl))), by decide +kernel⟩
theorem kw_370 : (Jvm.Cond.code ({ cls := "ShiftSignatures", name := "requireLine", desc := "(I)V" } : Jvm.MethodName) prog_1_method_22_code (2 : Nat) (Option.none : Option Jvm.ClassFile.FieldType)) ∈ gw := List.mem_filter.mpr ⟨List.mem_append_right _ (List.mem_append_right _ (List.mem_append_left _ (List.mem_of_getElem? (i := 130) rfl))), by decide +kernel⟩
theorem kw_374 : (Jvm.Cond.code ({ cls := "ShiftSignatures$Circuit", name := "countLines", desc := "()I" } : Jvm.MethodName) prog_2_method_3_code (1 : Nat) (Option.some Jvm.ClassFile.FieldType.int)) ∈ gw := List.mem_filter.mpr ⟨List.mem_append_right _ (List.mem_append_right _ (List.mem_append_left _ (List.mem_of_getElem? (i := 134) rfl))), by decide +kernel⟩
theorem kw_387 : (Jvm.Cond.code ({ cls := "java/lang/IndexOutOfBoundsException", name := "<init>", desc := "(Ljava/lang/String;)V" } : Jvm.MethodName) prog_10_method_2_code (2 : Nat) (Option.none : Option Jvm.ClassFile.FieldType)) ∈ gw := List.mem_filter.mpr ⟨List.mem_append_right _ (List.mem_append_right _ (List.mem_append_left _ (List.mem_of_getElem? (i := 147) rfl))), by decide +kernel⟩
theorem kw_395 : (Jvm.Cond.code ({ cls := "ShiftSignatures$Circuit", name := "addGate", desc := "(III)I" } : Jvm.MethodName) prog_2_method_5_code (5 : Nat) (Option.some Jvm.ClassFile.FieldType.int)) ∈ gw := List.mem_filter.mpr ⟨List.mem_append_right _ (List.mem_append_right _ (List.mem_append_left _ (List.mem_of_getElem? (i := 155) rfl))), by decide +kernel⟩
theorem kw_403 : (Jvm.Cond.code ({ cls := "ShiftSignatures", name := "output", desc := "(I)I" } : Jvm.MethodName) prog_1_method_14_code (2 : Nat) (Option.some Jvm.ClassFile.FieldType.int)) ∈ gw := List.mem_filter.mpr ⟨List.mem_append_right _ (List.mem_append_right _ (List.mem_append_left _ (List.mem_of_getElem? (i := 163) rfl))), by decide +kernel⟩
theorem kw_408 : (Jvm.Cond.code ({ cls := "ShiftSignatures$Circuit", name := "addOutput", desc := "(I)I" } : Jvm.MethodName) prog_2_method_6_code (2 : Nat) (Option.some Jvm.ClassFile.FieldType.int)) ∈ gw := List.mem_filter.mpr ⟨List.mem_append_right _ (List.mem_append_right _ (List.mem_append_left _ (List.mem_of_getElem? (i := 168) rfl))), by decide +kernel⟩
theorem kw_415 : (Jvm.Cond.code ({ cls := "ShiftSignatures", name := "answer", desc := "(II)I" } : Jvm.MethodName) prog_1_method_15_code (3 : Nat) (Option.some Jvm.ClassFile.FieldType.int)) ∈ gw := List.mem_filter.mpr ⟨List.mem_append_right _ (List.mem_append_right _ (List.mem_append_left _ (List.mem_of_getElem? (i := 175) rfl))), by decide +kernel⟩
theorem kw_419 : (Jvm.Cond.code ({ cls := "ShiftSignatures", name := "requireFaultOrNone", desc := "(I)V" } : Jvm.MethodName) prog_1_method_24_code (2 : Nat) (Option.none : Option Jvm.ClassFile.FieldType)) ∈ gw := List.mem_filter.mpr ⟨List.mem_append_right _ (List.mem_append_right _ (List.mem_append_left _ (List.mem_of_getElem? (i := 179) rfl))), by decide +kernel⟩
theorem kw_423 : (Jvm.Cond.code ({ cls := "ShiftSignatures", name := "requireFault", desc := "(I)V" } : Jvm.MethodName) prog_1_method_23_code (2 : Nat) (Option.none : Option Jvm.ClassFile.FieldType)) ∈ gw := List.mem_filter.mpr ⟨List.mem_append_right _ (List.mem_append_right _ (List.mem_append_left _ (List.mem_of_getElem? (i := 183) rfl))), by decide +kernel⟩
theorem kw_427 : (Jvm.Cond.code ({ cls := "ShiftSignatures$Circuit", name := "countFaults", desc := "()I" } : Jvm.MethodName) prog_2_method_4_code (1 : Nat) (Option.some Jvm.ClassFile.FieldType.int)) ∈ gw := List.mem_filter.mpr ⟨List.mem_append_right _ (List.mem_append_right _ (List.mem_append_left _ (List.mem_of_getElem? (i := 187) rfl))), by decide +kernel⟩
theorem kw_432 : (Jvm.Cond.code ({ cls := "ShiftSignatures$Circuit", name := "answerTo", desc := "(II)I" } : Jvm.MethodName) prog_2_method_7_code (6 : Nat) (Option.some Jvm.ClassFile.FieldType.int)) ∈ gw := List.mem_filter.mpr ⟨List.mem_append_right _ (List.mem_append_right _ (List.mem_append_left _ (List.mem_of_getElem? (i := 192) rfl))), by decide +kernel⟩
theorem kw_436 : (Jvm.Cond.code ({ cls := "ShiftSignatures$Circuit", name := "settle", desc := "(IZ)V" } : Jvm.MethodName) prog_2_method_9_code (7 : Nat) (Option.none : Option Jvm.ClassFile.FieldType)) ∈ gw := List.mem_filter.mpr ⟨List.mem_append_right _ (List.mem_append_right _ (List.mem_append_left _ (List.mem_of_getElem? (i := 196) rfl))), by decide +kernel⟩
theorem kw_439 : (Jvm.Cond.code ({ cls := "ShiftSignatures$Circuit", name := "spread", desc := "(I)J" } : Jvm.MethodName) prog_2_method_12_code (1 : Nat) (Option.some Jvm.ClassFile.FieldType.long)) ∈ gw := List.mem_filter.mpr ⟨List.mem_append_right _ (List.mem_append_right _ (List.mem_append_left _ (List.mem_of_getElem? (i := 199) rfl))), by decide +kernel⟩
theorem kw_443 : (Jvm.Cond.code ({ cls := "ShiftSignatures$Circuit", name := "valuesOfGate", desc := "(I)J" } : Jvm.MethodName) prog_2_method_10_code (6 : Nat) (Option.some Jvm.ClassFile.FieldType.long)) ∈ gw := List.mem_filter.mpr ⟨List.mem_append_right _ (List.mem_append_right _ (List.mem_append_left _ (List.mem_of_getElem? (i := 203) rfl))), by decide +kernel⟩
theorem kw_447 : (Jvm.Cond.code ({ cls := "ShiftSignatures$Circuit", name := "withStuck", desc := "(JI)J" } : Jvm.MethodName) prog_2_method_11_code (7 : Nat) (Option.some Jvm.ClassFile.FieldType.long)) ∈ gw := List.mem_filter.mpr ⟨List.mem_append_right _ (List.mem_append_right _ (List.mem_append_left _ (List.mem_of_getElem? (i := 207) rfl))), by decide +kernel⟩
theorem kw_451 : (Jvm.Cond.code ({ cls := "ShiftSignatures$Circuit", name := "valuesOfOutput", desc := "(I)J" } : Jvm.MethodName) prog_2_method_8_code (2 : Nat) (Option.some Jvm.ClassFile.FieldType.long)) ∈ gw := List.mem_filter.mpr ⟨List.mem_append_right _ (List.mem_append_right _ (List.mem_append_left _ (List.mem_of_getElem? (i := 211) rfl))), by decide +kernel⟩
theorem kw_458 : (Jvm.Cond.code ({ cls := "ShiftSignatures", name := "session", desc := "(II)J" } : Jvm.MethodName) prog_1_method_16_code (9 : Nat) (Option.some Jvm.ClassFile.FieldType.long)) ∈ gw := List.mem_filter.mpr ⟨List.mem_append_right _ (List.mem_append_right _ (List.mem_append_left _ (List.mem_of_getElem? (i := 218) rfl))), by decide +kernel⟩
theorem kw_462 : (Jvm.Cond.code ({ cls := "ShiftSignatures", name := "requirePatterns", desc := "(I)V" } : Jvm.MethodName) prog_1_method_21_code (2 : Nat) (Option.none : Option Jvm.ClassFile.FieldType)) ∈ gw := List.mem_filter.mpr ⟨List.mem_append_right _ (List.mem_append_right _ (List.mem_append_left _ (List.mem_of_getElem? (i := 222) rfl))), by decide +kernel⟩
theorem kw_471 : (Jvm.Cond.code ({ cls := "ShiftSignatures", name := "faults", desc := "(II)I" } : Jvm.MethodName) prog_1_method_17_code (5 : Nat) (Option.some Jvm.ClassFile.FieldType.int)) ∈ gw := List.mem_filter.mpr ⟨List.mem_append_right _ (List.mem_append_right _ (List.mem_append_left _ (List.mem_of_getElem? (i := 231) rfl))), by decide +kernel⟩
theorem kw_476 : (Jvm.Cond.code ({ cls := "ShiftSignatures", name := "compareAllFaults", desc := "(I)V" } : Jvm.MethodName) prog_1_method_26_code (5 : Nat) (Option.none : Option Jvm.ClassFile.FieldType)) ∈ gw := List.mem_filter.mpr ⟨List.mem_append_right _ (List.mem_append_right _ (List.mem_append_left _ (List.mem_of_getElem? (i := 236) rfl))), by decide +kernel⟩
theorem kw_480 : (Jvm.Cond.code ({ cls := "ShiftSignatures$Differences", name := "clear", desc := "()V" } : Jvm.MethodName) prog_3_method_2_code (2 : Nat) (Option.none : Option Jvm.ClassFile.FieldType)) ∈ gw := List.mem_filter.mpr ⟨List.mem_append_right _ (List.mem_append_right _ (List.mem_append_right _ (List.mem_append_left _ (List.mem_of_getElem? (i := 0) rfl)))), by decide +kernel⟩
theorem kw_484 : (Jvm.Cond.code ({ cls := "ShiftSignatures$Differences", name := "timesX", desc := "()V" } : Jvm.MethodName) prog_3_method_3_code (2 : Nat) (Option.none : Option Jvm.ClassFile.FieldType)) ∈ gw := List.mem_filter.mpr ⟨List.mem_append_right _ (List.mem_append_right _ (List.mem_append_right _ (List.mem_append_left _ (List.mem_of_getElem? (i := 4) rfl)))), by decide +kernel⟩
theorem kw_488 : (Jvm.Cond.code ({ cls := "ShiftSignatures$Differences", name := "addAnswers", desc := "(LShiftSignatures$Circuit;I)V" } : Jvm.MethodName) prog_3_method_4_code (7 : Nat) (Option.none : Option Jvm.ClassFile.FieldType)) ∈ gw := List.mem_filter.mpr ⟨List.mem_append_right _ (List.mem_append_right _ (List.mem_append_right _ (List.mem_append_left _ (List.mem_of_getElem? (i := 8) rfl)))), by decide +kernel⟩
theorem kw_496 : (Jvm.Cond.code ({ cls := "ShiftSignatures$Differences", name := "reduce", desc := "(LShiftSignatures$Modulus;)V" } : Jvm.MethodName) prog_3_method_5_code (5 : Nat) (Option.none : Option Jvm.ClassFile.FieldType)) ∈ gw := List.mem_filter.mpr ⟨List.mem_append_right _ (List.mem_append_right _ (List.mem_append_right _ (List.mem_append_left _ (List.mem_of_getElem? (i := 16) rfl)))), by decide +kernel⟩
theorem kw_500 : (Jvm.Cond.code ({ cls := "ShiftSignatures$Differences", name := "subtract", desc := "(JJI)V" } : Jvm.MethodName) prog_3_method_6_code (7 : Nat) (Option.none : Option Jvm.ClassFile.FieldType)) ∈ gw := List.mem_filter.mpr ⟨List.mem_append_right _ (List.mem_append_right _ (List.mem_append_right _ (List.mem_append_left _ (List.mem_of_getElem? (i := 20) rfl)))), by decide +kernel⟩
theorem kw_504 : (Jvm.Cond.code ({ cls := "ShiftSignatures$Differences", name := "found", desc := "()J" } : Jvm.MethodName) prog_3_method_7_code (4 : Nat) (Option.some Jvm.ClassFile.FieldType.long)) ∈ gw := List.mem_filter.mpr ⟨List.mem_append_right _ (List.mem_append_right _ (List.mem_append_right _ (List.mem_append_left _ (List.mem_of_getElem? (i := 24) rfl)))), by decide +kernel⟩
theorem kw_507 : (Jvm.Cond.code ({ cls := "ShiftSignatures", name := "lowestBit", desc := "(J)I" } : Jvm.MethodName) prog_1_method_27_code (2 : Nat) (Option.some Jvm.ClassFile.FieldType.int)) ∈ gw := List.mem_filter.mpr ⟨List.mem_append_right _ (List.mem_append_right _ (List.mem_append_right _ (List.mem_append_left _ (List.mem_of_getElem? (i := 27) rfl)))), by decide +kernel⟩
theorem kw_510 : (Jvm.Cond.code ({ cls := "java/lang/Long", name := "numberOfTrailingZeros", desc := "(J)I" } : Jvm.MethodName) prog_12_method_49_code (3 : Nat) (Option.some Jvm.ClassFile.FieldType.int)) ∈ gw := List.mem_filter.mpr ⟨List.mem_append_right _ (List.mem_append_right _ (List.mem_append_right _ (List.mem_append_left _ (List.mem_of_getElem? (i := 30) rfl)))), by decide +kernel⟩
theorem kw_513 : (Jvm.Cond.code ({ cls := "java/lang/Integer", name := "numberOfTrailingZeros", desc := "(I)I" } : Jvm.MethodName) prog_11_method_48_code (2 : Nat) (Option.some Jvm.ClassFile.FieldType.int)) ∈ gw := List.mem_filter.mpr ⟨List.mem_append_right _ (List.mem_append_right _ (List.mem_append_right _ (List.mem_append_left _ (List.mem_of_getElem? (i := 33) rfl)))), by decide +kernel⟩
theorem kw_520 : (Jvm.Cond.code ({ cls := "ShiftSignatures", name := "first", desc := "(II)I" } : Jvm.MethodName) prog_1_method_18_code (7 : Nat) (Option.some Jvm.ClassFile.FieldType.int)) ∈ gw := List.mem_filter.mpr ⟨List.mem_append_right _ (List.mem_append_right _ (List.mem_append_right _ (List.mem_append_left _ (List.mem_of_getElem? (i := 40) rfl)))), by decide +kernel⟩
theorem kw_525 : (Jvm.Cond.code ({ cls := "ShiftSignaturesModel", name := "<init>", desc := "()V" } : Jvm.MethodName) prog_6_method_1_code (1 : Nat) (Option.none : Option Jvm.ClassFile.FieldType)) ∈ gw := List.mem_filter.mpr ⟨List.mem_append_right _ (List.mem_append_right _ (List.mem_append_right _ (List.mem_append_left _ (List.mem_of_getElem? (i := 45) rfl)))), by decide +kernel⟩
theorem kw_583 : (Jvm.Cond.code ({ cls := "ShiftSignaturesModel", name := "thrown", desc := "()I" } : Jvm.MethodName) prog_6_method_2_code (1 : Nat) (Option.some Jvm.ClassFile.FieldType.int)) ∈ gw := List.mem_filter.mpr ⟨List.mem_append_right _ (List.mem_append_right _ (List.mem_append_right _ (List.mem_append_left _ (List.mem_of_getElem? (i := 103) rfl)))), by decide +kernel⟩
theorem kw_587 : (Jvm.Cond.code ({ cls := "ShiftSignaturesModel", name := "polynomial", desc := "(J)I" } : Jvm.MethodName) prog_6_method_5_code (5 : Nat) (Option.some Jvm.ClassFile.FieldType.int)) ∈ gw := List.mem_filter.mpr ⟨List.mem_append_right _ (List.mem_append_right _ (List.mem_append_right _ (List.mem_append_left _ (List.mem_of_getElem? (i := 107) rfl)))), by decide +kernel⟩
theorem kw_591 : (Jvm.Cond.code ({ cls := "ShiftSignaturesModel", name := "refused", desc := "(I)Z" } : Jvm.MethodName) prog_6_method_3_code (2 : Nat) (Option.some Jvm.ClassFile.FieldType.boolean)) ∈ gw := List.mem_filter.mpr ⟨List.mem_append_right _ (List.mem_append_right _ (List.mem_append_right _ (List.mem_append_left _ (List.mem_of_getElem? (i := 111) rfl)))), by decide +kernel⟩
theorem kw_595 : (Jvm.Cond.code ({ cls := "ShiftSignaturesModel", name := "clearCircuit", desc := "()V" } : Jvm.MethodName) prog_6_method_4_code (1 : Nat) (Option.none : Option Jvm.ClassFile.FieldType)) ∈ gw := List.mem_filter.mpr ⟨List.mem_append_right _ (List.mem_append_right _ (List.mem_append_right _ (List.mem_append_left _ (List.mem_of_getElem? (i := 115) rfl)))), by decide +kernel⟩
theorem kw_599 : (Jvm.Cond.code ({ cls := "ShiftSignaturesModel", name := "times", desc := "(JJ)J" } : Jvm.MethodName) prog_6_method_12_code (5 : Nat) (Option.some Jvm.ClassFile.FieldType.long)) ∈ gw := List.mem_filter.mpr ⟨List.mem_append_right _ (List.mem_append_right _ (List.mem_append_right _ (List.mem_append_left _ (List.mem_of_getElem? (i := 119) rfl)))), by decide +kernel⟩
theorem kw_603 : (Jvm.Cond.code ({ cls := "ShiftSignaturesModel", name := "isResidue", desc := "(J)Z" } : Jvm.MethodName) prog_6_method_6_code (3 : Nat) (Option.some Jvm.ClassFile.FieldType.boolean)) ∈ gw := List.mem_filter.mpr ⟨List.mem_append_right _ (List.mem_append_right _ (List.mem_append_right _ (List.mem_append_left _ (List.mem_of_getElem? (i := 123) rfl)))), by decide +kernel⟩
theorem kw_607 : (Jvm.Cond.code ({ cls := "ShiftSignaturesModel", name := "product", desc := "(JJ)J" } : Jvm.MethodName) prog_6_method_8_code (8 : Nat) (Option.some Jvm.ClassFile.FieldType.long)) ∈ gw := List.mem_filter.mpr ⟨List.mem_append_right _ (List.mem_append_right _ (List.mem_append_right _ (List.mem_append_left _ (List.mem_of_getElem? (i := 127) rfl)))), by decide +kernel⟩
theorem kw_611 : (Jvm.Cond.code ({ cls := "ShiftSignaturesModel", name := "step", desc := "(J)J" } : Jvm.MethodName) prog_6_method_7_code (5 : Nat) (Option.some Jvm.ClassFile.FieldType.long)) ∈ gw := List.mem_filter.mpr ⟨List.mem_append_right _ (List.mem_append_right _ (List.mem_append_right _ (List.mem_append_left _ (List.mem_of_getElem? (i := 131) rfl)))), by decide +kernel⟩
theorem kw_616 : (Jvm.Cond.code ({ cls := "ShiftSignaturesModel", name := "power", desc := "(JJ)J" } : Jvm.MethodName) prog_6_method_13_code (5 : Nat) (Option.some Jvm.ClassFile.FieldType.long)) ∈ gw := List.mem_filter.mpr ⟨List.mem_append_right _ (List.mem_append_right _ (List.mem_append_right _ (List.mem_append_left _ (List.mem_of_getElem? (i := 136) rfl)))), by decide +kernel⟩
theorem kw_620 : (Jvm.Cond.code ({ cls := "ShiftSignaturesModel", name := "raised", desc := "(JJ)J" } : Jvm.MethodName) prog_6_method_9_code (8 : Nat) (Option.some Jvm.ClassFile.FieldType.long)) ∈ gw := List.mem_filter.mpr ⟨List.mem_append_right _ (List.mem_append_right _ (List.mem_append_right _ (List.mem_append_left _ (List.mem_of_getElem? (i := 140) rfl)))), by decide +kernel⟩
theorem kw_624 : (Jvm.Cond.code ({ cls := "ShiftSignaturesModel", name := "reduced", desc := "(J)J" } : Jvm.MethodName) prog_6_method_11_code (3 : Nat) (Option.some Jvm.ClassFile.FieldType.long)) ∈ gw := List.mem_filter.mpr ⟨List.mem_append_right _ (List.mem_append_right _ (List.mem_append_right _ (List.mem_append_left _ (List.mem_of_getElem? (i := 144) rfl)))), by decide +kernel⟩
theorem kw_627 : (Jvm.Cond.code ({ cls := "ShiftSignaturesModel", name := "left", desc := "(JJI)J" } : Jvm.MethodName) prog_6_method_10_code (8 : Nat) (Option.some Jvm.ClassFile.FieldType.long)) ∈ gw := List.mem_filter.mpr ⟨List.mem_append_right _ (List.mem_append_right _ (List.mem_append_right _ (List.mem_append_left _ (List.mem_of_getElem? (i := 147) rfl)))), by decide +kernel⟩
theorem kw_631 : (Jvm.Cond.code ({ cls := "ShiftSignaturesModel", name := "residue", desc := "(J)J" } : Jvm.MethodName) prog_6_method_14_code (3 : Nat) (Option.some Jvm.ClassFile.FieldType.long)) ∈ gw := List.mem_filter.mpr ⟨List.mem_append_right _ (List.mem_append_right _ (List.mem_append_right _ (List.mem_append_left _ (List.mem_of_getElem? (i := 151) rfl)))), by decide +kernel⟩
theorem kw_635 : (Jvm.Cond.code ({ cls := "ShiftSignaturesModel", name := "irreducible", desc := "()Z" } : Jvm.MethodName) prog_6_method_16_code (1 : Nat) (Option.some Jvm.ClassFile.FieldType.boolean)) ∈ gw := List.mem_filter.mpr ⟨List.mem_append_right _ (List.mem_append_right _ (List.mem_append_right _ (List.mem_append_left _ (List.mem_of_getElem? (i := 155) rfl)))), by decide +kernel⟩
theorem kw_639 : (Jvm.Cond.code ({ cls := "ShiftSignaturesModel", name := "isProduct", desc := "()Z" } : Jvm.MethodName) prog_6_method_15_code (7 : Nat) (Option.some Jvm.ClassFile.FieldType.boolean)) ∈ gw := List.mem_filter.mpr ⟨List.mem_append_right _ (List.mem_append_right _ (List.mem_append_right _ (List.mem_append_left _ (List.mem_of_getElem? (i := 159) rfl)))), by decide +kernel⟩
theorem kw_643 : (Jvm.Cond.code ({ cls := "ShiftSignaturesModel", name := "primitive", desc := "()Z" } : Jvm.MethodName) prog_6_method_17_code (10 : Nat) (Option.some Jvm.ClassFile.FieldType.boolean)) ∈ gw := List.mem_filter.mpr ⟨List.mem_append_right _ (List.mem_append_right _ (List.mem_append_right _ (List.mem_append_left _ (List.mem_of_getElem? (i := 163) rfl)))), by decide +kernel⟩
theorem kw_647 : (Jvm.Cond.code ({ cls := "ShiftSignaturesModel", name := "order", desc := "()J" } : Jvm.MethodName) prog_6_method_18_code (3 : Nat) (Option.some Jvm.ClassFile.FieldType.long)) ∈ gw := List.mem_filter.mpr ⟨List.mem_append_right _ (List.mem_append_right _ (List.mem_append_right _ (List.mem_append_left _ (List.mem_of_getElem? (i := 167) rfl)))), by decide +kernel⟩
theorem kw_652 : (Jvm.Cond.code ({ cls := "ShiftSignaturesModel", name := "load", desc := "(J)J" } : Jvm.MethodName) prog_6_method_19_code (5 : Nat) (Option.some Jvm.ClassFile.FieldType.long)) ∈ gw := List.mem_filter.mpr ⟨List.mem_append_right _ (List.mem_append_right _ (List.mem_append_right _ (List.mem_append_left _ (List.mem_of_getElem? (i := 172) rfl)))), by decide +kernel⟩
theorem kw_656 : (Jvm.Cond.code ({ cls := "ShiftSignaturesModel", name := "steps", desc := "(J)J" } : Jvm.MethodName) prog_6_method_20_code (3 : Nat) (Option.some Jvm.ClassFile.FieldType.long)) ∈ gw := List.mem_filter.mpr ⟨List.mem_append_right _ (List.mem_append_right _ (List.mem_append_right _ (List.mem_append_left _ (List.mem_of_getElem? (i := 176) rfl)))), by decide +kernel⟩
theorem kw_660 : (Jvm.Cond.code ({ cls := "ShiftSignaturesModel", name := "channel", desc := "(J)I" } : Jvm.MethodName) prog_6_method_21_code (3 : Nat) (Option.some Jvm.ClassFile.FieldType.int)) ∈ gw := List.mem_filter.mpr ⟨List.mem_append_right _ (List.mem_append_right _ (List.mem_append_right _ (List.mem_append_left _ (List.mem_of_getElem? (i := 180) rfl)))), by decide +kernel⟩
theorem kw_664 : (Jvm.Cond.code ({ cls := "ShiftSignaturesModel", name := "pattern", desc := "()I" } : Jvm.MethodName) prog_6_method_23_code (1 : Nat) (Option.some Jvm.ClassFile.FieldType.int)) ∈ gw := List.mem_filter.mpr ⟨List.mem_append_right _ (List.mem_append_right _ (List.mem_append_right _ (List.mem_append_left _ (List.mem_of_getElem? (i := 184) rfl)))), by decide +kernel⟩
theorem kw_668 : (Jvm.Cond.code ({ cls := "ShiftSignaturesModel", name := "patternOf", desc := "(J)I" } : Jvm.MethodName) prog_6_method_22_code (9 : Nat) (Option.some Jvm.ClassFile.FieldType.int)) ∈ gw := List.mem_filter.mpr ⟨List.mem_append_right _ (List.mem_append_right _ (List.mem_append_right _ (List.mem_append_left _ (List.mem_of_getElem? (i := 188) rfl)))), by decide +kernel⟩
theorem kw_672 : (Jvm.Cond.code ({ cls := "ShiftSignaturesModel", name := "gate", desc := "(III)I" } : Jvm.MethodName) prog_6_method_25_code (5 : Nat) (Option.some Jvm.ClassFile.FieldType.int)) ∈ gw := List.mem_filter.mpr ⟨List.mem_append_right _ (List.mem_append_right _ (List.mem_append_right _ (List.mem_append_left _ (List.mem_of_getElem? (i := 192) rfl)))), by decide +kernel⟩
theorem kw_676 : (Jvm.Cond.code ({ cls := "ShiftSignaturesModel", name := "isLine", desc := "(I)Z" } : Jvm.MethodName) prog_6_method_24_code (2 : Nat) (Option.some Jvm.ClassFile.FieldType.boolean)) ∈ gw := List.mem_filter.mpr ⟨List.mem_append_right _ (List.mem_append_right _ (List.mem_append_right _ (List.mem_append_left _ (List.mem_of_getElem? (i := 196) rfl)))), by decide +kernel⟩
theorem kw_680 : (Jvm.Cond.code ({ cls := "ShiftSignaturesModel", name := "output", desc := "(I)I" } : Jvm.MethodName) prog_6_method_26_code (2 : Nat) (Option.some Jvm.ClassFile.FieldType.int)) ∈ gw := List.mem_filter.mpr ⟨List.mem_append_right _ (List.mem_append_right _ (List.mem_append_right _ (List.mem_append_left _ (List.mem_of_getElem? (i := 200) rfl)))), by decide +kernel⟩
theorem kw_684 : (Jvm.Cond.code ({ cls := "ShiftSignaturesModel", name := "answer", desc := "(II)I" } : Jvm.MethodName) prog_6_method_30_code (3 : Nat) (Option.some Jvm.ClassFile.FieldType.int)) ∈ gw := List.mem_filter.mpr ⟨List.mem_append_right _ (List.mem_append_right _ (List.mem_append_right _ (List.mem_append_left _ (List.mem_of_getElem? (i := 204) rfl)))), by decide +kernel⟩
theorem kw_688 : (Jvm.Cond.code ({ cls := "ShiftSignaturesModel", name := "isFault", desc := "(I)Z" } : Jvm.MethodName) prog_6_method_29_code (2 : Nat) (Option.some Jvm.ClassFile.FieldType.boolean)) ∈ gw := List.mem_filter.mpr ⟨List.mem_append_right _ (List.mem_append_right _ (List.mem_append_right _ (List.mem_append_left _ (List.mem_of_getElem? (i := 208) rfl)))), by decide +kernel⟩
theorem kw_692 : (Jvm.Cond.code ({ cls := "ShiftSignaturesModel", name := "answerTo", desc := "(II)I" } : Jvm.MethodName) prog_6_method_28_code (5 : Nat) (Option.some Jvm.ClassFile.FieldType.int)) ∈ gw := List.mem_filter.mpr ⟨List.mem_append_right _ (List.mem_append_right _ (List.mem_append_right _ (List.mem_append_left _ (List.mem_of_getElem? (i := 212) rfl)))), by decide +kernel⟩
theorem kw_695 : (Jvm.Cond.code ({ cls := "ShiftSignaturesModel", name := "worth", desc := "(III)I" } : Jvm.MethodName) prog_6_method_27_code (3 : Nat) (Option.some Jvm.ClassFile.FieldType.int)) ∈ gw := List.mem_filter.mpr ⟨List.mem_append_right _ (List.mem_append_right _ (List.mem_append_right _ (List.mem_append_left _ (List.mem_of_getElem? (i := 215) rfl)))), by decide +kernel⟩
theorem kw_699 : (Jvm.Cond.code ({ cls := "ShiftSignaturesModel", name := "session", desc := "(II)J" } : Jvm.MethodName) prog_6_method_35_code (4 : Nat) (Option.some Jvm.ClassFile.FieldType.long)) ∈ gw := List.mem_filter.mpr ⟨List.mem_append_right _ (List.mem_append_right _ (List.mem_append_right _ (List.mem_append_left _ (List.mem_of_getElem? (i := 219) rfl)))), by decide +kernel⟩
theorem kw_702 : (Jvm.Cond.code ({ cls := "ShiftSignaturesModel", name := "isCount", desc := "(I)Z" } : Jvm.MethodName) prog_6_method_34_code (1 : Nat) (Option.some Jvm.ClassFile.FieldType.boolean)) ∈ gw := List.mem_filter.mpr ⟨List.mem_append_right _ (List.mem_append_right _ (List.mem_append_right _ (List.mem_append_left _ (List.mem_of_getElem? (i := 222) rfl)))), by decide +kernel⟩
theorem kw_706 : (Jvm.Cond.code ({ cls := "ShiftSignaturesModel", name := "prepare", desc := "(I)V" } : Jvm.MethodName) prog_6_method_31_code (5 : Nat) (Option.none : Option Jvm.ClassFile.FieldType)) ∈ gw := List.mem_filter.mpr ⟨List.mem_append_right _ (List.mem_append_right _ (List.mem_append_right _ (List.mem_append_left _ (List.mem_of_getElem? (i := 226) rfl)))), by decide +kernel⟩
theorem kw_710 : (Jvm.Cond.code ({ cls := "ShiftSignaturesModel", name := "signature", desc := "(II)J" } : Jvm.MethodName) prog_6_method_32_code (6 : Nat) (Option.some Jvm.ClassFile.FieldType.long)) ∈ gw := List.mem_filter.mpr ⟨List.mem_append_right _ (List.mem_append_right _ (List.mem_append_right _ (List.mem_append_left _ (List.mem_of_getElem? (i := 230) rfl)))), by decide +kernel⟩
theorem kw_714 : (Jvm.Cond.code ({ cls := "ShiftSignaturesModel", name := "faults", desc := "(II)I" } : Jvm.MethodName) prog_6_method_36_code (12 : Nat) (Option.some Jvm.ClassFile.FieldType.int)) ∈ gw := List.mem_filter.mpr ⟨List.mem_append_right _ (List.mem_append_right _ (List.mem_append_right _ (List.mem_append_left _ (List.mem_of_getElem? (i := 234) rfl)))), by decide +kernel⟩
theorem kw_718 : (Jvm.Cond.code ({ cls := "ShiftSignaturesModel", name := "firstSeen", desc := "(II)I" } : Jvm.MethodName) prog_6_method_33_code (4 : Nat) (Option.some Jvm.ClassFile.FieldType.int)) ∈ gw := List.mem_filter.mpr ⟨List.mem_append_right _ (List.mem_append_right _ (List.mem_append_right _ (List.mem_append_left _ (List.mem_of_getElem? (i := 238) rfl)))), by decide +kernel⟩
theorem kw_722 : (Jvm.Cond.code ({ cls := "ShiftSignaturesModel", name := "first", desc := "(II)I" } : Jvm.MethodName) prog_6_method_37_code (3 : Nat) (Option.some Jvm.ClassFile.FieldType.int)) ∈ gw := List.mem_filter.mpr ⟨List.mem_append_right _ (List.mem_append_right _ (List.mem_append_right _ (List.mem_append_right _ (List.mem_of_getElem? (i := 2) rfl)))), by decide +kernel⟩
theorem kw_205 : (Jvm.Cond.codeWith ({ cls := "ShiftSignaturesLaw", name := "polynomial", desc := "(LShiftSignatures;J[J)I" } : Jvm.MethodName) method_3_code (5 : Nat) (Option.some Jvm.ClassFile.FieldType.int) [((0 : Nat), (9 : Nat), (12 : Nat), (13 : Nat))]) ∈ gw := List.mem_filter.mpr ⟨List.mem_append_right _ (List.mem_append_left _ (List.mem_of_getElem? (i := 205) rfl)), by decide +kernel⟩
theorem kw_292 : (Jvm.Cond.codeWith ({ cls := "ShiftSignaturesLaw", name := "times", desc := "(LShiftSignatures;JJ[J)I" } : Jvm.MethodName) method_4_code (7 : Nat) (Option.some Jvm.ClassFile.FieldType.int) [((0 : Nat), (10 : Nat), (13 : Nat), (13 : Nat))]) ∈ gw := List.mem_filter.mpr ⟨List.mem_append_right _ (List.mem_append_right _ (List.mem_append_left _ (List.mem_of_getElem? (i := 52) rfl))), by decide +kernel⟩
theorem kw_309 : (Jvm.Cond.codeWith ({ cls := "ShiftSignaturesLaw", name := "power", desc := "(LShiftSignatures;JJ[J)I" } : Jvm.MethodName) method_5_code (7 : Nat) (Option.some Jvm.ClassFile.FieldType.int) [((0 : Nat), (10 : Nat), (13 : Nat), (13 : Nat))]) ∈ gw := List.mem_filter.mpr ⟨List.mem_append_right _ (List.mem_append_right _ (List.mem_append_left _ (List.mem_of_getElem? (i := 69) rfl))), by decide +kernel⟩
theorem kw_322 : (Jvm.Cond.codeWith ({ cls := "ShiftSignaturesLaw", name := "load", desc := "(LShiftSignatures;J[J)I" } : Jvm.MethodName) method_6_code (5 : Nat) (Option.some Jvm.ClassFile.FieldType.int) [((0 : Nat), (8 : Nat), (11 : Nat), (13 : Nat))]) ∈ gw := List.mem_filter.mpr ⟨List.mem_append_right _ (List.mem_append_right _ (List.mem_append_left _ (List.mem_of_getElem? (i := 82) rfl))), by decide +kernel⟩
theorem kw_329 : (Jvm.Cond.codeWith ({ cls := "ShiftSignaturesLaw", name := "steps", desc := "(LShiftSignatures;J[J)I" } : Jvm.MethodName) method_7_code (5 : Nat) (Option.some Jvm.ClassFile.FieldType.int) [((0 : Nat), (8 : Nat), (11 : Nat), (13 : Nat))]) ∈ gw := List.mem_filter.mpr ⟨List.mem_append_right _ (List.mem_append_right _ (List.mem_append_left _ (List.mem_of_getElem? (i := 89) rfl))), by decide +kernel⟩
theorem kw_336 : (Jvm.Cond.codeWith ({ cls := "ShiftSignaturesLaw", name := "channel", desc := "(LShiftSignatures;J[J)I" } : Jvm.MethodName) method_8_code (5 : Nat) (Option.some Jvm.ClassFile.FieldType.int) [((0 : Nat), (9 : Nat), (12 : Nat), (13 : Nat)), ((0 : Nat), (9 : Nat), (16 : Nat), (32 : Nat))]) ∈ gw := List.mem_filter.mpr ⟨List.mem_append_right _ (List.mem_append_right _ (List.mem_append_left _ (List.mem_of_getElem? (i := 96) rfl))), by decide +kernel⟩
theorem kw_360 : (Jvm.Cond.codeWith ({ cls := "ShiftSignaturesLaw", name := "gate", desc := "(LShiftSignatures;III[J)I" } : Jvm.MethodName) method_9_code (6 : Nat) (Option.some Jvm.ClassFile.FieldType.int) [((0 : Nat), (12 : Nat), (15 : Nat), (13 : Nat)), ((0 : Nat), (12 : Nat), (19 : Nat), (38 : Nat)), ((0 : Nat), (12 : Nat), (23 : Nat), (32 : Nat))]) ∈ gw := List.mem_filter.mpr ⟨List.mem_append_right _ (List.mem_append_right _ (List.mem_append_left _ (List.mem_of_getElem? (i := 120) rfl))), by decide +kernel⟩
theorem kw_399 : (Jvm.Cond.codeWith ({ cls := "ShiftSignaturesLaw", name := "output", desc := "(LShiftSignatures;I[J)I" } : Jvm.MethodName) method_10_code (4 : Nat) (Option.some Jvm.ClassFile.FieldType.int) [((0 : Nat), (9 : Nat), (12 : Nat), (38 : Nat)), ((0 : Nat), (9 : Nat), (15 : Nat), (32 : Nat))]) ∈ gw := List.mem_filter.mpr ⟨List.mem_append_right _ (List.mem_append_right _ (List.mem_append_left _ (List.mem_of_getElem? (i := 159) rfl))), by decide +kernel⟩
theorem kw_411 : (Jvm.Cond.codeWith ({ cls := "ShiftSignaturesLaw", name := "answer", desc := "(LShiftSignatures;II[J)I" } : Jvm.MethodName) method_11_code (5 : Nat) (Option.some Jvm.ClassFile.FieldType.int) [((0 : Nat), (10 : Nat), (13 : Nat), (38 : Nat))]) ∈ gw := List.mem_filter.mpr ⟨List.mem_append_right _ (List.mem_append_right _ (List.mem_append_left _ (List.mem_of_getElem? (i := 171) rfl))), by decide +kernel⟩
theorem kw_454 : (Jvm.Cond.codeWith ({ cls := "ShiftSignaturesLaw", name := "session", desc := "(LShiftSignatures;II[J)I" } : Jvm.MethodName) method_12_code (5 : Nat) (Option.some Jvm.ClassFile.FieldType.int) [((0 : Nat), (9 : Nat), (12 : Nat), (38 : Nat)), ((0 : Nat), (9 : Nat), (16 : Nat), (13 : Nat))]) ∈ gw := List.mem_filter.mpr ⟨List.mem_append_right _ (List.mem_append_right _ (List.mem_append_left _ (List.mem_of_getElem? (i := 214) rfl))), by decide +kernel⟩
theorem kw_467 : (Jvm.Cond.codeWith ({ cls := "ShiftSignaturesLaw", name := "faults", desc := "(LShiftSignatures;II[J)I" } : Jvm.MethodName) method_13_code (5 : Nat) (Option.some Jvm.ClassFile.FieldType.int) [((0 : Nat), (10 : Nat), (13 : Nat), (38 : Nat)), ((0 : Nat), (10 : Nat), (17 : Nat), (13 : Nat))]) ∈ gw := List.mem_filter.mpr ⟨List.mem_append_right _ (List.mem_append_right _ (List.mem_append_left _ (List.mem_of_getElem? (i := 227) rfl))), by decide +kernel⟩
theorem kw_516 : (Jvm.Cond.codeWith ({ cls := "ShiftSignaturesLaw", name := "first", desc := "(LShiftSignatures;II[J)I" } : Jvm.MethodName) method_14_code (5 : Nat) (Option.some Jvm.ClassFile.FieldType.int) [((0 : Nat), (10 : Nat), (13 : Nat), (38 : Nat)), ((0 : Nat), (10 : Nat), (17 : Nat), (13 : Nat))]) ∈ gw := List.mem_filter.mpr ⟨List.mem_append_right _ (List.mem_append_right _ (List.mem_append_right _ (List.mem_append_left _ (List.mem_of_getElem? (i := 36) rfl)))), by decide +kernel⟩
theorem kw_28 : (Jvm.Cond.constantLong "ShiftSignatures$Modulus" (9 : Nat) (3 : Int64)) ∈ gw := List.mem_filter.mpr ⟨List.mem_append_right _ (List.mem_append_left _ (List.mem_of_getElem? (i := 28) rfl)), by decide +kernel⟩
theorem kw_176 : (Jvm.Cond.constantLong "ShiftSignatures" (85 : Nat) (-1 : Int64)) ∈ gw := List.mem_filter.mpr ⟨List.mem_append_right _ (List.mem_append_left _ (List.mem_of_getElem? (i := 176) rfl)), by decide +kernel⟩
theorem kw_181 : (Jvm.Cond.constantLong "ShiftSignatures$Modulus" (53 : Nat) (32 : Int64)) ∈ gw := List.mem_filter.mpr ⟨List.mem_append_right _ (List.mem_append_left _ (List.mem_of_getElem? (i := 181) rfl)), by decide +kernel⟩
theorem kw_200 : (Jvm.Cond.constantLong "java/lang/Long" (314 : Nat) (6148914691236517205 : Int64)) ∈ gw := List.mem_filter.mpr ⟨List.mem_append_right _ (List.mem_append_left _ (List.mem_of_getElem? (i := 200) rfl)), by decide +kernel⟩
theorem kw_201 : (Jvm.Cond.constantLong "java/lang/Long" (316 : Nat) (3689348814741910323 : Int64)) ∈ gw := List.mem_filter.mpr ⟨List.mem_append_right _ (List.mem_append_left _ (List.mem_of_getElem? (i := 201) rfl)), by decide +kernel⟩
theorem kw_202 : (Jvm.Cond.constantLong "java/lang/Long" (318 : Nat) (1085102592571150095 : Int64)) ∈ gw := List.mem_filter.mpr ⟨List.mem_append_right _ (List.mem_append_left _ (List.mem_of_getElem? (i := 202) rfl)), by decide +kernel⟩
theorem kw_284 : (Jvm.Cond.constantLong "ShiftSignatures$Modulus" (28 : Nat) (2 : Int64)) ∈ gw := List.mem_filter.mpr ⟨List.mem_append_right _ (List.mem_append_right _ (List.mem_append_left _ (List.mem_of_getElem? (i := 44) rfl))), by decide +kernel⟩
theorem kw_444 : (Jvm.Cond.constantLong "ShiftSignatures$Circuit" (60 : Nat) (-1 : Int64)) ∈ gw := List.mem_filter.mpr ⟨List.mem_append_right _ (List.mem_append_right _ (List.mem_append_left _ (List.mem_of_getElem? (i := 204) rfl))), by decide +kernel⟩
theorem kw_527 : (Jvm.Cond.constantLong "ShiftSignaturesModel" (7 : Nat) (3 : Int64)) ∈ gw := List.mem_filter.mpr ⟨List.mem_append_right _ (List.mem_append_right _ (List.mem_append_right _ (List.mem_append_left _ (List.mem_of_getElem? (i := 47) rfl)))), by decide +kernel⟩
theorem kw_612 : (Jvm.Cond.constantLong "ShiftSignaturesModel" (73 : Nat) (2 : Int64)) ∈ gw := List.mem_filter.mpr ⟨List.mem_append_right _ (List.mem_append_right _ (List.mem_append_right _ (List.mem_append_left _ (List.mem_of_getElem? (i := 132) rfl)))), by decide +kernel⟩
theorem kw_648 : (Jvm.Cond.constantLong "ShiftSignaturesModel" (101 : Nat) (-1 : Int64)) ∈ gw := List.mem_filter.mpr ⟨List.mem_append_right _ (List.mem_append_right _ (List.mem_append_right _ (List.mem_append_left _ (List.mem_of_getElem? (i := 168) rfl)))), by decide +kernel⟩
theorem kw_723 : (Jvm.Cond.constantLong "ShiftSignaturesLaw" (62 : Nat) (4294967295 : Int64)) ∈ gw := List.mem_filter.mpr ⟨List.mem_append_right _ (List.mem_append_right _ (List.mem_append_right _ (List.mem_append_right _ (List.mem_of_getElem? (i := 3) rfl)))), by decide +kernel⟩
theorem kw_130 : (Jvm.Cond.constant "java/lang/Integer" (264 : Nat) (65536 : Int32)) ∈ gw := List.mem_filter.mpr ⟨List.mem_append_right _ (List.mem_append_left _ (List.mem_of_getElem? (i := 130) rfl)), by decide +kernel⟩
theorem kw_29 : (Jvm.Cond.fieldLink "ShiftSignatures$Modulus" (11 : Nat) "ShiftSignatures$Modulus" "p" "J") ∈ gw := List.mem_filter.mpr ⟨List.mem_append_right _ (List.mem_append_left _ (List.mem_of_getElem? (i := 29) rfl)), by decide +kernel⟩
theorem kw_31 : (Jvm.Cond.fieldLink "ShiftSignatures$Modulus" (17 : Nat) "ShiftSignatures$Modulus" "degree" "I") ∈ gw := List.mem_filter.mpr ⟨List.mem_append_right _ (List.mem_append_left _ (List.mem_of_getElem? (i := 31) rfl)), by decide +kernel⟩
theorem kw_34 : (Jvm.Cond.fieldLink "ShiftSignatures$Modulus" (21 : Nat) "ShiftSignatures$Modulus" "x" "J") ∈ gw := List.mem_filter.mpr ⟨List.mem_append_right _ (List.mem_append_left _ (List.mem_of_getElem? (i := 34) rfl)), by decide +kernel⟩
theorem kw_49 : (Jvm.Cond.fieldLink "ShiftSignatures$Circuit" (9 : Nat) "ShiftSignatures$Circuit" "kinds" "[I") ∈ gw := List.mem_filter.mpr ⟨List.mem_append_right _ (List.mem_append_left _ (List.mem_of_getElem? (i := 49) rfl)), by decide +kernel⟩
theorem kw_50 : (Jvm.Cond.fieldLink "ShiftSignatures$Circuit" (15 : Nat) "ShiftSignatures$Circuit" "lefts" "[I") ∈ gw := List.mem_filter.mpr ⟨List.mem_append_right _ (List.mem_append_left _ (List.mem_of_getElem? (i := 50) rfl)), by decide +kernel⟩
theorem kw_51 : (Jvm.Cond.fieldLink "ShiftSignatures$Circuit" (18 : Nat) "ShiftSignatures$Circuit" "rights" "[I") ∈ gw := List.mem_filter.mpr ⟨List.mem_append_right _ (List.mem_append_left _ (List.mem_of_getElem? (i := 51) rfl)), by decide +kernel⟩
theorem kw_52 : (Jvm.Cond.fieldLink "ShiftSignatures$Circuit" (21 : Nat) "ShiftSignatures$Circuit" "outputLines" "[I") ∈ gw := List.mem_filter.mpr ⟨List.mem_append_right _ (List.mem_append_left _ (List.mem_of_getElem? (i := 52) rfl)), by decide +kernel⟩
theorem kw_53 : (Jvm.Cond.fieldLink "ShiftSignatures$Circuit" (24 : Nat) "ShiftSignatures$Circuit" "values" "[J") ∈ gw := List.mem_filter.mpr ⟨List.mem_append_right _ (List.mem_append_left _ (List.mem_of_getElem? (i := 53) rfl)), by decide +kernel⟩
theorem kw_54 : (Jvm.Cond.fieldLink "ShiftSignatures$Circuit" (28 : Nat) "ShiftSignatures$Circuit" "channelCount" "I") ∈ gw := List.mem_filter.mpr ⟨List.mem_append_right _ (List.mem_append_left _ (List.mem_of_getElem? (i := 54) rfl)), by decide +kernel⟩
theorem kw_56 : (Jvm.Cond.fieldLink "ShiftSignatures$Circuit" (32 : Nat) "ShiftSignatures$Circuit" "gateCount" "I") ∈ gw := List.mem_filter.mpr ⟨List.mem_append_right _ (List.mem_append_left _ (List.mem_of_getElem? (i := 56) rfl)), by decide +kernel⟩
theorem kw_58 : (Jvm.Cond.fieldLink "ShiftSignatures$Circuit" (35 : Nat) "ShiftSignatures$Circuit" "outputCount" "I") ∈ gw := List.mem_filter.mpr ⟨List.mem_append_right _ (List.mem_append_left _ (List.mem_of_getElem? (i := 58) rfl)), by decide +kernel⟩
theorem kw_86 : (Jvm.Cond.fieldLink "ShiftSignatures$Differences" (9 : Nat) "ShiftSignatures$Differences" "rows" "[J") ∈ gw := List.mem_filter.mpr ⟨List.mem_append_right _ (List.mem_append_left _ (List.mem_of_getElem? (i := 86) rfl)), by decide +kernel⟩
theorem kw_87 : (Jvm.Cond.fieldLink "ShiftSignatures$Differences" (15 : Nat) "ShiftSignatures$Differences" "seen" "J") ∈ gw := List.mem_filter.mpr ⟨List.mem_append_right _ (List.mem_append_left _ (List.mem_of_getElem? (i := 87) rfl)), by decide +kernel⟩
theorem kw_94 : (Jvm.Cond.fieldLink "ShiftSignatures" (12 : Nat) "ShiftSignatures" "modulus" "LShiftSignatures$Modulus;") ∈ gw := List.mem_filter.mpr ⟨List.mem_append_right _ (List.mem_append_left _ (List.mem_of_getElem? (i := 94) rfl)), by decide +kernel⟩
theorem kw_95 : (Jvm.Cond.fieldLink "ShiftSignatures" (19 : Nat) "ShiftSignatures" "circuit" "LShiftSignatures$Circuit;") ∈ gw := List.mem_filter.mpr ⟨List.mem_append_right _ (List.mem_append_left _ (List.mem_of_getElem? (i := 95) rfl)), by decide +kernel⟩
theorem kw_96 : (Jvm.Cond.fieldLink "ShiftSignatures" (26 : Nat) "ShiftSignatures" "differences" "LShiftSignatures$Differences;") ∈ gw := List.mem_filter.mpr ⟨List.mem_append_right _ (List.mem_append_left _ (List.mem_of_getElem? (i := 96) rfl)), by decide +kernel⟩
theorem kw_97 : (Jvm.Cond.fieldLink "ShiftSignatures" (30 : Nat) "ShiftSignatures" "masks" "[J") ∈ gw := List.mem_filter.mpr ⟨List.mem_append_right _ (List.mem_append_left _ (List.mem_of_getElem? (i := 97) rfl)), by decide +kernel⟩
theorem kw_98 : (Jvm.Cond.fieldLink "ShiftSignatures" (34 : Nat) "ShiftSignatures" "register" "J") ∈ gw := List.mem_filter.mpr ⟨List.mem_append_right _ (List.mem_append_left _ (List.mem_of_getElem? (i := 98) rfl)), by decide +kernel⟩
theorem kw_166 : (Jvm.Cond.fieldLink "ShiftSignatures$Modulus" (58 : Nat) "ShiftSignatures$Modulus" "PRIMES" "[J") ∈ gw := List.mem_filter.mpr ⟨List.mem_append_right _ (List.mem_append_left _ (List.mem_of_getElem? (i := 166) rfl)), by decide +kernel⟩
theorem kw_233 : (Jvm.Cond.fieldLink "java/lang/Throwable" (198 : Nat) "java/lang/Throwable" "backtrace" "Ljava/lang/Object;") ∈ gw := List.mem_filter.mpr ⟨List.mem_append_right _ (List.mem_append_left _ (List.mem_of_getElem? (i := 233) rfl)), by decide +kernel⟩
theorem kw_238 : (Jvm.Cond.fieldLink "java/lang/Throwable" (13 : Nat) "java/lang/Throwable" "UNASSIGNED_STACK" "[Ljava/lang/StackTraceElement;") ∈ gw := List.mem_filter.mpr ⟨List.mem_append_right _ (List.mem_append_left _ (List.mem_of_getElem? (i := 238) rfl)), by decide +kernel⟩
theorem kw_240 : (Jvm.Cond.fieldLink "java/lang/Throwable" (20 : Nat) "java/lang/Throwable" "SUPPRESSED_SENTINEL" "Ljava/util/List;") ∈ gw := List.mem_filter.mpr ⟨List.mem_append_right _ (List.mem_append_right _ (List.mem_append_left _ (List.mem_of_getElem? (i := 0) rfl))), by decide +kernel⟩
theorem kw_266 : (Jvm.Cond.fieldLink "java/lang/Throwable" (198 : Nat) "java/lang/Throwable" "backtrace" "Ljava/lang/Object;") ∈ gw := List.mem_filter.mpr ⟨List.mem_append_right _ (List.mem_append_right _ (List.mem_append_left _ (List.mem_of_getElem? (i := 26) rfl))), by decide +kernel⟩
theorem kw_267 : (Jvm.Cond.fieldLink "java/lang/Throwable" (31 : Nat) "java/lang/Throwable" "detailMessage" "Ljava/lang/String;") ∈ gw := List.mem_filter.mpr ⟨List.mem_append_right _ (List.mem_append_right _ (List.mem_append_left _ (List.mem_of_getElem? (i := 27) rfl))), by decide +kernel⟩
theorem kw_268 : (Jvm.Cond.fieldLink "java/lang/Throwable" (7 : Nat) "java/lang/Throwable" "cause" "Ljava/lang/Throwable;") ∈ gw := List.mem_filter.mpr ⟨List.mem_append_right _ (List.mem_append_right _ (List.mem_append_left _ (List.mem_of_getElem? (i := 28) rfl))), by decide +kernel⟩
theorem kw_269 : (Jvm.Cond.fieldLink "java/lang/Throwable" (17 : Nat) "java/lang/Throwable" "stackTrace" "[Ljava/lang/StackTraceElement;") ∈ gw := List.mem_filter.mpr ⟨List.mem_append_right _ (List.mem_append_right _ (List.mem_append_left _ (List.mem_of_getElem? (i := 29) rfl))), by decide +kernel⟩
theorem kw_270 : (Jvm.Cond.fieldLink "java/lang/Throwable" (24 : Nat) "java/lang/Throwable" "suppressedExceptions" "Ljava/util/List;") ∈ gw := List.mem_filter.mpr ⟨List.mem_append_right _ (List.mem_append_right _ (List.mem_append_left _ (List.mem_of_getElem? (i := 30) rfl))), by decide +kernel⟩
theorem kw_528 : (Jvm.Cond.fieldLink "ShiftSignaturesModel" (48 : Nat) "ShiftSignaturesModel" "fault" "I") ∈ gw := List.mem_filter.mpr ⟨List.mem_append_right _ (List.mem_append_right _ (List.mem_append_right _ (List.mem_append_left _ (List.mem_of_getElem? (i := 48) rfl)))), by decide +kernel⟩
theorem kw_529 : (Jvm.Cond.fieldLink "ShiftSignaturesModel" (9 : Nat) "ShiftSignaturesModel" "poly" "J") ∈ gw := List.mem_filter.mpr ⟨List.mem_append_right _ (List.mem_append_right _ (List.mem_append_right _ (List.mem_append_left _ (List.mem_of_getElem? (i := 49) rfl)))), by decide +kernel⟩
theorem kw_530 : (Jvm.Cond.fieldLink "ShiftSignaturesModel" (15 : Nat) "ShiftSignaturesModel" "degree" "I") ∈ gw := List.mem_filter.mpr ⟨List.mem_append_right _ (List.mem_append_right _ (List.mem_append_right _ (List.mem_append_left _ (List.mem_of_getElem? (i := 50) rfl)))), by decide +kernel⟩
theorem kw_531 : (Jvm.Cond.fieldLink "ShiftSignaturesModel" (19 : Nat) "ShiftSignaturesModel" "register" "J") ∈ gw := List.mem_filter.mpr ⟨List.mem_append_right _ (List.mem_append_right _ (List.mem_append_right _ (List.mem_append_left _ (List.mem_of_getElem? (i := 51) rfl)))), by decide +kernel⟩
theorem kw_532 : (Jvm.Cond.fieldLink "ShiftSignaturesModel" (61 : Nat) "ShiftSignaturesModel" "irreducible" "I") ∈ gw := List.mem_filter.mpr ⟨List.mem_append_right _ (List.mem_append_right _ (List.mem_append_right _ (List.mem_append_left _ (List.mem_of_getElem? (i := 52) rfl)))), by decide +kernel⟩
theorem kw_533 : (Jvm.Cond.fieldLink "ShiftSignaturesModel" (64 : Nat) "ShiftSignaturesModel" "order" "J") ∈ gw := List.mem_filter.mpr ⟨List.mem_append_right _ (List.mem_append_right _ (List.mem_append_right _ (List.mem_append_left _ (List.mem_of_getElem? (i := 53) rfl)))), by decide +kernel⟩
theorem kw_534 : (Jvm.Cond.fieldLink "ShiftSignaturesModel" (67 : Nat) "ShiftSignaturesModel" "channels" "I") ∈ gw := List.mem_filter.mpr ⟨List.mem_append_right _ (List.mem_append_right _ (List.mem_append_right _ (List.mem_append_left _ (List.mem_of_getElem? (i := 54) rfl)))), by decide +kernel⟩
theorem kw_535 : (Jvm.Cond.fieldLink "ShiftSignaturesModel" (22 : Nat) "ShiftSignaturesModel" "masks" "[J") ∈ gw := List.mem_filter.mpr ⟨List.mem_append_right _ (List.mem_append_right _ (List.mem_append_right _ (List.mem_append_left _ (List.mem_of_getElem? (i := 55) rfl)))), by decide +kernel⟩
theorem kw_536 : (Jvm.Cond.fieldLink "ShiftSignaturesModel" (51 : Nat) "ShiftSignaturesModel" "gates" "I") ∈ gw := List.mem_filter.mpr ⟨List.mem_append_right _ (List.mem_append_right _ (List.mem_append_right _ (List.mem_append_left _ (List.mem_of_getElem? (i := 56) rfl)))), by decide +kernel⟩
theorem kw_537 : (Jvm.Cond.fieldLink "ShiftSignaturesModel" (26 : Nat) "ShiftSignaturesModel" "kinds" "[I") ∈ gw := List.mem_filter.mpr ⟨List.mem_append_right _ (List.mem_append_right _ (List.mem_append_right _ (List.mem_append_left _ (List.mem_of_getElem? (i := 57) rfl)))), by decide +kernel⟩
theorem kw_538 : (Jvm.Cond.fieldLink "ShiftSignaturesModel" (30 : Nat) "ShiftSignaturesModel" "ones" "[I") ∈ gw := List.mem_filter.mpr ⟨List.mem_append_right _ (List.mem_append_right _ (List.mem_append_right _ (List.mem_append_left _ (List.mem_of_getElem? (i := 58) rfl)))), by decide +kernel⟩
theorem kw_539 : (Jvm.Cond.fieldLink "ShiftSignaturesModel" (33 : Nat) "ShiftSignaturesModel" "others" "[I") ∈ gw := List.mem_filter.mpr ⟨List.mem_append_right _ (List.mem_append_right _ (List.mem_append_right _ (List.mem_append_left _ (List.mem_of_getElem? (i := 59) rfl)))), by decide +kernel⟩
theorem kw_540 : (Jvm.Cond.fieldLink "ShiftSignaturesModel" (54 : Nat) "ShiftSignaturesModel" "outputs" "I") ∈ gw := List.mem_filter.mpr ⟨List.mem_append_right _ (List.mem_append_right _ (List.mem_append_right _ (List.mem_append_left _ (List.mem_of_getElem? (i := 60) rfl)))), by decide +kernel⟩
theorem kw_541 : (Jvm.Cond.fieldLink "ShiftSignaturesModel" (36 : Nat) "ShiftSignaturesModel" "outs" "[I") ∈ gw := List.mem_filter.mpr ⟨List.mem_append_right _ (List.mem_append_right _ (List.mem_append_right _ (List.mem_append_left _ (List.mem_of_getElem? (i := 61) rfl)))), by decide +kernel⟩
theorem kw_542 : (Jvm.Cond.fieldLink "ShiftSignaturesModel" (39 : Nat) "ShiftSignaturesModel" "lines" "[I") ∈ gw := List.mem_filter.mpr ⟨List.mem_append_right _ (List.mem_append_right _ (List.mem_append_right _ (List.mem_append_left _ (List.mem_of_getElem? (i := 62) rfl)))), by decide +kernel⟩
theorem kw_543 : (Jvm.Cond.fieldLink "ShiftSignaturesModel" (42 : Nat) "ShiftSignaturesModel" "patterns" "[I") ∈ gw := List.mem_filter.mpr ⟨List.mem_append_right _ (List.mem_append_right _ (List.mem_append_right _ (List.mem_append_left _ (List.mem_of_getElem? (i := 63) rfl)))), by decide +kernel⟩
theorem kw_544 : (Jvm.Cond.fieldLink "ShiftSignaturesModel" (45 : Nat) "ShiftSignaturesModel" "answers" "[I") ∈ gw := List.mem_filter.mpr ⟨List.mem_append_right _ (List.mem_append_right _ (List.mem_append_right _ (List.mem_append_left _ (List.mem_of_getElem? (i := 64) rfl)))), by decide +kernel⟩
theorem kw_36 : (Jvm.Cond.lays "ShiftSignatures$Modulus" "ShiftSignatures$Modulus" "p" "J") ∈ gw := List.mem_filter.mpr ⟨List.mem_append_right _ (List.mem_append_left _ (List.mem_of_getElem? (i := 36) rfl)), by decide +kernel⟩
theorem kw_38 : (Jvm.Cond.lays "ShiftSignatures$Modulus" "ShiftSignatures$Modulus" "degree" "I") ∈ gw := List.mem_filter.mpr ⟨List.mem_append_right _ (List.mem_append_left _ (List.mem_of_getElem? (i := 38) rfl)), by decide +kernel⟩
theorem kw_40 : (Jvm.Cond.lays "ShiftSignatures$Modulus" "ShiftSignatures$Modulus" "x" "J") ∈ gw := List.mem_filter.mpr ⟨List.mem_append_right _ (List.mem_append_left _ (List.mem_of_getElem? (i := 40) rfl)), by decide +kernel⟩
theorem kw_71 : (Jvm.Cond.lays "ShiftSignatures$Circuit" "ShiftSignatures$Circuit" "channelCount" "I") ∈ gw := List.mem_filter.mpr ⟨List.mem_append_right _ (List.mem_append_left _ (List.mem_of_getElem? (i := 71) rfl)), by decide +kernel⟩
theorem kw_73 : (Jvm.Cond.lays "ShiftSignatures$Circuit" "ShiftSignatures$Circuit" "gateCount" "I") ∈ gw := List.mem_filter.mpr ⟨List.mem_append_right _ (List.mem_append_left _ (List.mem_of_getElem? (i := 73) rfl)), by decide +kernel⟩
theorem kw_75 : (Jvm.Cond.lays "ShiftSignatures$Circuit" "ShiftSignatures$Circuit" "outputCount" "I") ∈ gw := List.mem_filter.mpr ⟨List.mem_append_right _ (List.mem_append_left _ (List.mem_of_getElem? (i := 75) rfl)), by decide +kernel⟩
theorem kw_91 : (Jvm.Cond.lays "ShiftSignatures$Differences" "ShiftSignatures$Differences" "seen" "J") ∈ gw := List.mem_filter.mpr ⟨List.mem_append_right _ (List.mem_append_left _ (List.mem_of_getElem? (i := 91) rfl)), by decide +kernel⟩
theorem kw_107 : (Jvm.Cond.lays "ShiftSignatures" "ShiftSignatures" "register" "J") ∈ gw := List.mem_filter.mpr ⟨List.mem_append_right _ (List.mem_append_left _ (List.mem_of_getElem? (i := 107) rfl)), by decide +kernel⟩
theorem kw_223 : (Jvm.Cond.lays "java/lang/IllegalArgumentException" "java/lang/Throwable" "cause" "Ljava/lang/Throwable;") ∈ gw := List.mem_filter.mpr ⟨List.mem_append_right _ (List.mem_append_left _ (List.mem_of_getElem? (i := 223) rfl)), by decide +kernel⟩
theorem kw_224 : (Jvm.Cond.lays "java/lang/Throwable" "java/lang/Throwable" "cause" "Ljava/lang/Throwable;") ∈ gw := List.mem_filter.mpr ⟨List.mem_append_right _ (List.mem_append_left _ (List.mem_of_getElem? (i := 224) rfl)), by decide +kernel⟩
theorem kw_225 : (Jvm.Cond.lays "java/lang/IllegalArgumentException" "java/lang/Throwable" "stackTrace" "[Ljava/lang/StackTraceElement;") ∈ gw := List.mem_filter.mpr ⟨List.mem_append_right _ (List.mem_append_left _ (List.mem_of_getElem? (i := 225) rfl)), by decide +kernel⟩
theorem kw_226 : (Jvm.Cond.lays "java/lang/Throwable" "java/lang/Throwable" "stackTrace" "[Ljava/lang/StackTraceElement;") ∈ gw := List.mem_filter.mpr ⟨List.mem_append_right _ (List.mem_append_left _ (List.mem_of_getElem? (i := 226) rfl)), by decide +kernel⟩
theorem kw_227 : (Jvm.Cond.lays "java/lang/IllegalArgumentException" "java/lang/Throwable" "suppressedExceptions" "Ljava/util/List;") ∈ gw := List.mem_filter.mpr ⟨List.mem_append_right _ (List.mem_append_left _ (List.mem_of_getElem? (i := 227) rfl)), by decide +kernel⟩
theorem kw_228 : (Jvm.Cond.lays "java/lang/Throwable" "java/lang/Throwable" "suppressedExceptions" "Ljava/util/List;") ∈ gw := List.mem_filter.mpr ⟨List.mem_append_right _ (List.mem_append_left _ (List.mem_of_getElem? (i := 228) rfl)), by decide +kernel⟩
theorem kw_229 : (Jvm.Cond.lays "java/lang/IllegalArgumentException" "java/lang/Throwable" "detailMessage" "Ljava/lang/String;") ∈ gw := List.mem_filter.mpr ⟨List.mem_append_right _ (List.mem_append_left _ (List.mem_of_getElem? (i := 229) rfl)), by decide +kernel⟩
theorem kw_230 : (Jvm.Cond.lays "java/lang/Throwable" "java/lang/Throwable" "detailMessage" "Ljava/lang/String;") ∈ gw := List.mem_filter.mpr ⟨List.mem_append_right _ (List.mem_append_left _ (List.mem_of_getElem? (i := 230) rfl)), by decide +kernel⟩
theorem kw_231 : (Jvm.Cond.lays "java/lang/IllegalArgumentException" "java/lang/Throwable" "backtrace" "Ljava/lang/Object;") ∈ gw := List.mem_filter.mpr ⟨List.mem_append_right _ (List.mem_append_left _ (List.mem_of_getElem? (i := 231) rfl)), by decide +kernel⟩
theorem kw_232 : (Jvm.Cond.lays "java/lang/Throwable" "java/lang/Throwable" "backtrace" "Ljava/lang/Object;") ∈ gw := List.mem_filter.mpr ⟨List.mem_append_right _ (List.mem_append_left _ (List.mem_of_getElem? (i := 232) rfl)), by decide +kernel⟩
theorem kw_275 : (Jvm.Cond.lays "java/lang/IllegalArgumentException" "java/lang/Throwable" "depth" "I") ∈ gw := List.mem_filter.mpr ⟨List.mem_append_right _ (List.mem_append_right _ (List.mem_append_left _ (List.mem_of_getElem? (i := 35) rfl))), by decide +kernel⟩
theorem kw_346 : (Jvm.Cond.lays "java/lang/IllegalStateException" "java/lang/Throwable" "cause" "Ljava/lang/Throwable;") ∈ gw := List.mem_filter.mpr ⟨List.mem_append_right _ (List.mem_append_right _ (List.mem_append_left _ (List.mem_of_getElem? (i := 106) rfl))), by decide +kernel⟩
theorem kw_347 : (Jvm.Cond.lays "java/lang/IllegalStateException" "java/lang/Throwable" "stackTrace" "[Ljava/lang/StackTraceElement;") ∈ gw := List.mem_filter.mpr ⟨List.mem_append_right _ (List.mem_append_right _ (List.mem_append_left _ (List.mem_of_getElem? (i := 107) rfl))), by decide +kernel⟩
theorem kw_348 : (Jvm.Cond.lays "java/lang/IllegalStateException" "java/lang/Throwable" "suppressedExceptions" "Ljava/util/List;") ∈ gw := List.mem_filter.mpr ⟨List.mem_append_right _ (List.mem_append_right _ (List.mem_append_left _ (List.mem_of_getElem? (i := 108) rfl))), by decide +kernel⟩
theorem kw_349 : (Jvm.Cond.lays "java/lang/IllegalStateException" "java/lang/Throwable" "detailMessage" "Ljava/lang/String;") ∈ gw := List.mem_filter.mpr ⟨List.mem_append_right _ (List.mem_append_right _ (List.mem_append_left _ (List.mem_of_getElem? (i := 109) rfl))), by decide +kernel⟩
theorem kw_350 : (Jvm.Cond.lays "java/lang/IllegalStateException" "java/lang/Throwable" "backtrace" "Ljava/lang/Object;") ∈ gw := List.mem_filter.mpr ⟨List.mem_append_right _ (List.mem_append_right _ (List.mem_append_left _ (List.mem_of_getElem? (i := 110) rfl))), by decide +kernel⟩
theorem kw_356 : (Jvm.Cond.lays "java/lang/IllegalStateException" "java/lang/Throwable" "depth" "I") ∈ gw := List.mem_filter.mpr ⟨List.mem_append_right _ (List.mem_append_right _ (List.mem_append_left _ (List.mem_of_getElem? (i := 116) rfl))), by decide +kernel⟩
theorem kw_379 : (Jvm.Cond.lays "java/lang/IndexOutOfBoundsException" "java/lang/Throwable" "cause" "Ljava/lang/Throwable;") ∈ gw := List.mem_filter.mpr ⟨List.mem_append_right _ (List.mem_append_right _ (List.mem_append_left _ (List.mem_of_getElem? (i := 139) rfl))), by decide +kernel⟩
theorem kw_380 : (Jvm.Cond.lays "java/lang/IndexOutOfBoundsException" "java/lang/Throwable" "stackTrace" "[Ljava/lang/StackTraceElement;") ∈ gw := List.mem_filter.mpr ⟨List.mem_append_right _ (List.mem_append_right _ (List.mem_append_left _ (List.mem_of_getElem? (i := 140) rfl))), by decide +kernel⟩
theorem kw_381 : (Jvm.Cond.lays "java/lang/IndexOutOfBoundsException" "java/lang/Throwable" "suppressedExceptions" "Ljava/util/List;") ∈ gw := List.mem_filter.mpr ⟨List.mem_append_right _ (List.mem_append_right _ (List.mem_append_left _ (List.mem_of_getElem? (i := 141) rfl))), by decide +kernel⟩
theorem kw_382 : (Jvm.Cond.lays "java/lang/IndexOutOfBoundsException" "java/lang/Throwable" "detailMessage" "Ljava/lang/String;") ∈ gw := List.mem_filter.mpr ⟨List.mem_append_right _ (List.mem_append_right _ (List.mem_append_left _ (List.mem_of_getElem? (i := 142) rfl))), by decide +kernel⟩
theorem kw_383 : (Jvm.Cond.lays "java/lang/IndexOutOfBoundsException" "java/lang/Throwable" "backtrace" "Ljava/lang/Object;") ∈ gw := List.mem_filter.mpr ⟨List.mem_append_right _ (List.mem_append_right _ (List.mem_append_left _ (List.mem_of_getElem? (i := 143) rfl))), by decide +kernel⟩
theorem kw_389 : (Jvm.Cond.lays "java/lang/IndexOutOfBoundsException" "java/lang/Throwable" "depth" "I") ∈ gw := List.mem_filter.mpr ⟨List.mem_append_right _ (List.mem_append_right _ (List.mem_append_left _ (List.mem_of_getElem? (i := 149) rfl))), by decide +kernel⟩
theorem kw_545 : (Jvm.Cond.lays "ShiftSignaturesModel" "ShiftSignaturesModel" "fault" "I") ∈ gw := List.mem_filter.mpr ⟨List.mem_append_right _ (List.mem_append_right _ (List.mem_append_right _ (List.mem_append_left _ (List.mem_of_getElem? (i := 65) rfl)))), by decide +kernel⟩
theorem kw_547 : (Jvm.Cond.lays "ShiftSignaturesModel" "ShiftSignaturesModel" "poly" "J") ∈ gw := List.mem_filter.mpr ⟨List.mem_append_right _ (List.mem_append_right _ (List.mem_append_right _ (List.mem_append_left _ (List.mem_of_getElem? (i := 67) rfl)))), by decide +kernel⟩
theorem kw_549 : (Jvm.Cond.lays "ShiftSignaturesModel" "ShiftSignaturesModel" "degree" "I") ∈ gw := List.mem_filter.mpr ⟨List.mem_append_right _ (List.mem_append_right _ (List.mem_append_right _ (List.mem_append_left _ (List.mem_of_getElem? (i := 69) rfl)))), by decide +kernel⟩
theorem kw_551 : (Jvm.Cond.lays "ShiftSignaturesModel" "ShiftSignaturesModel" "register" "J") ∈ gw := List.mem_filter.mpr ⟨List.mem_append_right _ (List.mem_append_right _ (List.mem_append_right _ (List.mem_append_left _ (List.mem_of_getElem? (i := 71) rfl)))), by decide +kernel⟩
theorem kw_553 : (Jvm.Cond.lays "ShiftSignaturesModel" "ShiftSignaturesModel" "irreducible" "I") ∈ gw := List.mem_filter.mpr ⟨List.mem_append_right _ (List.mem_append_right _ (List.mem_append_right _ (List.mem_append_left _ (List.mem_of_getElem? (i := 73) rfl)))), by decide +kernel⟩
theorem kw_555 : (Jvm.Cond.lays "ShiftSignaturesModel" "ShiftSignaturesModel" "order" "J") ∈ gw := List.mem_filter.mpr ⟨List.mem_append_right _ (List.mem_append_right _ (List.mem_append_right _ (List.mem_append_left _ (List.mem_of_getElem? (i := 75) rfl)))), by decide +kernel⟩
theorem kw_557 : (Jvm.Cond.lays "ShiftSignaturesModel" "ShiftSignaturesModel" "channels" "I") ∈ gw := List.mem_filter.mpr ⟨List.mem_append_right _ (List.mem_append_right _ (List.mem_append_right _ (List.mem_append_left _ (List.mem_of_getElem? (i := 77) rfl)))), by decide +kernel⟩
theorem kw_561 : (Jvm.Cond.lays "ShiftSignaturesModel" "ShiftSignaturesModel" "gates" "I") ∈ gw := List.mem_filter.mpr ⟨List.mem_append_right _ (List.mem_append_right _ (List.mem_append_right _ (List.mem_append_left _ (List.mem_of_getElem? (i := 81) rfl)))), by decide +kernel⟩
theorem kw_569 : (Jvm.Cond.lays "ShiftSignaturesModel" "ShiftSignaturesModel" "outputs" "I") ∈ gw := List.mem_filter.mpr ⟨List.mem_append_right _ (List.mem_append_right _ (List.mem_append_right _ (List.mem_append_left _ (List.mem_of_getElem? (i := 89) rfl)))), by decide +kernel⟩
theorem kw_61 : (Jvm.Cond.laysFinal "ShiftSignatures$Circuit" "ShiftSignatures$Circuit" "kinds" "[I") ∈ gw := List.mem_filter.mpr ⟨List.mem_append_right _ (List.mem_append_left _ (List.mem_of_getElem? (i := 61) rfl)), by decide +kernel⟩
theorem kw_63 : (Jvm.Cond.laysFinal "ShiftSignatures$Circuit" "ShiftSignatures$Circuit" "lefts" "[I") ∈ gw := List.mem_filter.mpr ⟨List.mem_append_right _ (List.mem_append_left _ (List.mem_of_getElem? (i := 63) rfl)), by decide +kernel⟩
theorem kw_65 : (Jvm.Cond.laysFinal "ShiftSignatures$Circuit" "ShiftSignatures$Circuit" "rights" "[I") ∈ gw := List.mem_filter.mpr ⟨List.mem_append_right _ (List.mem_append_left _ (List.mem_of_getElem? (i := 65) rfl)), by decide +kernel⟩
theorem kw_67 : (Jvm.Cond.laysFinal "ShiftSignatures$Circuit" "ShiftSignatures$Circuit" "outputLines" "[I") ∈ gw := List.mem_filter.mpr ⟨List.mem_append_right _ (List.mem_append_left _ (List.mem_of_getElem? (i := 67) rfl)), by decide +kernel⟩
theorem kw_69 : (Jvm.Cond.laysFinal "ShiftSignatures$Circuit" "ShiftSignatures$Circuit" "values" "[J") ∈ gw := List.mem_filter.mpr ⟨List.mem_append_right _ (List.mem_append_left _ (List.mem_of_getElem? (i := 69) rfl)), by decide +kernel⟩
theorem kw_89 : (Jvm.Cond.laysFinal "ShiftSignatures$Differences" "ShiftSignatures$Differences" "rows" "[J") ∈ gw := List.mem_filter.mpr ⟨List.mem_append_right _ (List.mem_append_left _ (List.mem_of_getElem? (i := 89) rfl)), by decide +kernel⟩
theorem kw_99 : (Jvm.Cond.laysFinal "ShiftSignatures" "ShiftSignatures" "modulus" "LShiftSignatures$Modulus;") ∈ gw := List.mem_filter.mpr ⟨List.mem_append_right _ (List.mem_append_left _ (List.mem_of_getElem? (i := 99) rfl)), by decide +kernel⟩
theorem kw_101 : (Jvm.Cond.laysFinal "ShiftSignatures" "ShiftSignatures" "circuit" "LShiftSignatures$Circuit;") ∈ gw := List.mem_filter.mpr ⟨List.mem_append_right _ (List.mem_append_left _ (List.mem_of_getElem? (i := 101) rfl)), by decide +kernel⟩
theorem kw_103 : (Jvm.Cond.laysFinal "ShiftSignatures" "ShiftSignatures" "differences" "LShiftSignatures$Differences;") ∈ gw := List.mem_filter.mpr ⟨List.mem_append_right _ (List.mem_append_left _ (List.mem_of_getElem? (i := 103) rfl)), by decide +kernel⟩
theorem kw_105 : (Jvm.Cond.laysFinal "ShiftSignatures" "ShiftSignatures" "masks" "[J") ∈ gw := List.mem_filter.mpr ⟨List.mem_append_right _ (List.mem_append_left _ (List.mem_of_getElem? (i := 105) rfl)), by decide +kernel⟩
theorem kw_559 : (Jvm.Cond.laysFinal "ShiftSignaturesModel" "ShiftSignaturesModel" "masks" "[J") ∈ gw := List.mem_filter.mpr ⟨List.mem_append_right _ (List.mem_append_right _ (List.mem_append_right _ (List.mem_append_left _ (List.mem_of_getElem? (i := 79) rfl)))), by decide +kernel⟩
theorem kw_563 : (Jvm.Cond.laysFinal "ShiftSignaturesModel" "ShiftSignaturesModel" "kinds" "[I") ∈ gw := List.mem_filter.mpr ⟨List.mem_append_right _ (List.mem_append_right _ (List.mem_append_right _ (List.mem_append_left _ (List.mem_of_getElem? (i := 83) rfl)))), by decide +kernel⟩
theorem kw_565 : (Jvm.Cond.laysFinal "ShiftSignaturesModel" "ShiftSignaturesModel" "ones" "[I") ∈ gw := List.mem_filter.mpr ⟨List.mem_append_right _ (List.mem_append_right _ (List.mem_append_right _ (List.mem_append_left _ (List.mem_of_getElem? (i := 85) rfl)))), by decide +kernel⟩
theorem kw_567 : (Jvm.Cond.laysFinal "ShiftSignaturesModel" "ShiftSignaturesModel" "others" "[I") ∈ gw := List.mem_filter.mpr ⟨List.mem_append_right _ (List.mem_append_right _ (List.mem_append_right _ (List.mem_append_left _ (List.mem_of_getElem? (i := 87) rfl)))), by decide +kernel⟩
theorem kw_571 : (Jvm.Cond.laysFinal "ShiftSignaturesModel" "ShiftSignaturesModel" "outs" "[I") ∈ gw := List.mem_filter.mpr ⟨List.mem_append_right _ (List.mem_append_right _ (List.mem_append_right _ (List.mem_append_left _ (List.mem_of_getElem? (i := 91) rfl)))), by decide +kernel⟩
theorem kw_573 : (Jvm.Cond.laysFinal "ShiftSignaturesModel" "ShiftSignaturesModel" "lines" "[I") ∈ gw := List.mem_filter.mpr ⟨List.mem_append_right _ (List.mem_append_right _ (List.mem_append_right _ (List.mem_append_left _ (List.mem_of_getElem? (i := 93) rfl)))), by decide +kernel⟩
theorem kw_575 : (Jvm.Cond.laysFinal "ShiftSignaturesModel" "ShiftSignaturesModel" "patterns" "[I") ∈ gw := List.mem_filter.mpr ⟨List.mem_append_right _ (List.mem_append_right _ (List.mem_append_right _ (List.mem_append_left _ (List.mem_of_getElem? (i := 95) rfl)))), by decide +kernel⟩
theorem kw_577 : (Jvm.Cond.laysFinal "ShiftSignaturesModel" "ShiftSignaturesModel" "answers" "[I") ∈ gw := List.mem_filter.mpr ⟨List.mem_append_right _ (List.mem_append_right _ (List.mem_append_right _ (List.mem_append_left _ (List.mem_of_getElem? (i := 97) rfl)))), by decide +kernel⟩
theorem kw_78 : (Jvm.Cond.arrayClass Jvm.ClassFile.FieldType.int) ∈ gw := List.mem_filter.mpr ⟨List.mem_append_right _ (List.mem_append_left _ (List.mem_of_getElem? (i := 78) rfl)), by decide +kernel⟩
theorem kw_79 : (Jvm.Cond.arrayClass Jvm.ClassFile.FieldType.long) ∈ gw := List.mem_filter.mpr ⟨List.mem_append_right _ (List.mem_append_left _ (List.mem_of_getElem? (i := 79) rfl)), by decide +kernel⟩
theorem kw_279 : (Jvm.Cond.arrayClass Jvm.ClassFile.FieldType.byte) ∈ gw := List.mem_filter.mpr ⟨List.mem_append_right _ (List.mem_append_right _ (List.mem_append_left _ (List.mem_of_getElem? (i := 39) rfl))), by decide +kernel⟩
theorem kw_112 : (Jvm.Cond.selects "ShiftSignatures" ({ cls := "ShiftSignatures", name := "residue", desc := "(J)J" } : Jvm.MethodName) ({ cls := "ShiftSignatures", name := "residue", desc := "(J)J" } : Jvm.MethodName)) ∈ gw := List.mem_filter.mpr ⟨List.mem_append_right _ (List.mem_append_left _ (List.mem_of_getElem? (i := 112) rfl)), by decide +kernel⟩
theorem kw_133 : (Jvm.Cond.selects "ShiftSignatures" ({ cls := "ShiftSignatures", name := "irreducible", desc := "()Z" } : Jvm.MethodName) ({ cls := "ShiftSignatures", name := "irreducible", desc := "()Z" } : Jvm.MethodName)) ∈ gw := List.mem_filter.mpr ⟨List.mem_append_right _ (List.mem_append_left _ (List.mem_of_getElem? (i := 133) rfl)), by decide +kernel⟩
theorem kw_152 : (Jvm.Cond.selects "ShiftSignatures" ({ cls := "ShiftSignatures", name := "primitive", desc := "()Z" } : Jvm.MethodName) ({ cls := "ShiftSignatures", name := "primitive", desc := "()Z" } : Jvm.MethodName)) ∈ gw := List.mem_filter.mpr ⟨List.mem_append_right _ (List.mem_append_left _ (List.mem_of_getElem? (i := 152) rfl)), by decide +kernel⟩
theorem kw_174 : (Jvm.Cond.selects "ShiftSignatures" ({ cls := "ShiftSignatures", name := "order", desc := "()J" } : Jvm.MethodName) ({ cls := "ShiftSignatures", name := "order", desc := "()J" } : Jvm.MethodName)) ∈ gw := List.mem_filter.mpr ⟨List.mem_append_right _ (List.mem_append_left _ (List.mem_of_getElem? (i := 174) rfl)), by decide +kernel⟩
theorem kw_191 : (Jvm.Cond.selects "ShiftSignatures" ({ cls := "ShiftSignatures", name := "pattern", desc := "()I" } : Jvm.MethodName) ({ cls := "ShiftSignatures", name := "pattern", desc := "()I" } : Jvm.MethodName)) ∈ gw := List.mem_filter.mpr ⟨List.mem_append_right _ (List.mem_append_left _ (List.mem_of_getElem? (i := 191) rfl)), by decide +kernel⟩
theorem kw_209 : (Jvm.Cond.selects "ShiftSignatures" ({ cls := "ShiftSignatures", name := "polynomial", desc := "(J)I" } : Jvm.MethodName) ({ cls := "ShiftSignatures", name := "polynomial", desc := "(J)I" } : Jvm.MethodName)) ∈ gw := List.mem_filter.mpr ⟨List.mem_append_right _ (List.mem_append_left _ (List.mem_of_getElem? (i := 209) rfl)), by decide +kernel⟩
theorem kw_221 : (Jvm.Cond.selects "java/lang/IllegalArgumentException" ({ cls := "java/lang/Throwable", name := "fillInStackTrace", desc := "(I)Ljava/lang/Throwable;" } : Jvm.MethodName) ({ cls := "java/lang/Throwable", name := "fillInStackTrace", desc := "(I)Ljava/lang/Throwable;" } : Jvm.MethodName)) ∈ gw := List.mem_filter.mpr ⟨List.mem_append_right _ (List.mem_append_left _ (List.mem_of_getElem? (i := 221) rfl)), by decide +kernel⟩
theorem kw_222 : (Jvm.Cond.selects "java/lang/IllegalArgumentException" ({ cls := "java/lang/Throwable", name := "fillInStackTrace", desc := "()Ljava/lang/Throwable;" } : Jvm.MethodName) ({ cls := "java/lang/Throwable", name := "fillInStackTrace", desc := "()Ljava/lang/Throwable;" } : Jvm.MethodName)) ∈ gw := List.mem_filter.mpr ⟨List.mem_append_right _ (List.mem_append_left _ (List.mem_of_getElem? (i := 222) rfl)), by decide +kernel⟩
theorem kw_245 : (Jvm.Cond.selects "java/lang/IllegalStateException" ({ cls := "java/lang/Throwable", name := "fillInStackTrace", desc := "()Ljava/lang/Throwable;" } : Jvm.MethodName) ({ cls := "java/lang/Throwable", name := "fillInStackTrace", desc := "()Ljava/lang/Throwable;" } : Jvm.MethodName)) ∈ gw := List.mem_filter.mpr ⟨List.mem_append_right _ (List.mem_append_right _ (List.mem_append_left _ (List.mem_of_getElem? (i := 5) rfl))), by decide +kernel⟩
theorem kw_246 : (Jvm.Cond.selects "java/lang/IndexOutOfBoundsException" ({ cls := "java/lang/Throwable", name := "fillInStackTrace", desc := "()Ljava/lang/Throwable;" } : Jvm.MethodName) ({ cls := "java/lang/Throwable", name := "fillInStackTrace", desc := "()Ljava/lang/Throwable;" } : Jvm.MethodName)) ∈ gw := List.mem_filter.mpr ⟨List.mem_append_right _ (List.mem_append_right _ (List.mem_append_left _ (List.mem_of_getElem? (i := 6) rfl))), by decide +kernel⟩
theorem kw_295 : (Jvm.Cond.selects "ShiftSignatures" ({ cls := "ShiftSignatures", name := "times", desc := "(JJ)J" } : Jvm.MethodName) ({ cls := "ShiftSignatures", name := "times", desc := "(JJ)J" } : Jvm.MethodName)) ∈ gw := List.mem_filter.mpr ⟨List.mem_append_right _ (List.mem_append_right _ (List.mem_append_left _ (List.mem_of_getElem? (i := 55) rfl))), by decide +kernel⟩
theorem kw_312 : (Jvm.Cond.selects "ShiftSignatures" ({ cls := "ShiftSignatures", name := "power", desc := "(JJ)J" } : Jvm.MethodName) ({ cls := "ShiftSignatures", name := "power", desc := "(JJ)J" } : Jvm.MethodName)) ∈ gw := List.mem_filter.mpr ⟨List.mem_append_right _ (List.mem_append_right _ (List.mem_append_left _ (List.mem_of_getElem? (i := 72) rfl))), by decide +kernel⟩
theorem kw_325 : (Jvm.Cond.selects "ShiftSignatures" ({ cls := "ShiftSignatures", name := "load", desc := "(J)J" } : Jvm.MethodName) ({ cls := "ShiftSignatures", name := "load", desc := "(J)J" } : Jvm.MethodName)) ∈ gw := List.mem_filter.mpr ⟨List.mem_append_right _ (List.mem_append_right _ (List.mem_append_left _ (List.mem_of_getElem? (i := 85) rfl))), by decide +kernel⟩
theorem kw_332 : (Jvm.Cond.selects "ShiftSignatures" ({ cls := "ShiftSignatures", name := "steps", desc := "(J)J" } : Jvm.MethodName) ({ cls := "ShiftSignatures", name := "steps", desc := "(J)J" } : Jvm.MethodName)) ∈ gw := List.mem_filter.mpr ⟨List.mem_append_right _ (List.mem_append_right _ (List.mem_append_left _ (List.mem_of_getElem? (i := 92) rfl))), by decide +kernel⟩
theorem kw_340 : (Jvm.Cond.selects "ShiftSignatures" ({ cls := "ShiftSignatures", name := "channel", desc := "(J)I" } : Jvm.MethodName) ({ cls := "ShiftSignatures", name := "channel", desc := "(J)I" } : Jvm.MethodName)) ∈ gw := List.mem_filter.mpr ⟨List.mem_append_right _ (List.mem_append_right _ (List.mem_append_left _ (List.mem_of_getElem? (i := 100) rfl))), by decide +kernel⟩
theorem kw_345 : (Jvm.Cond.selects "java/lang/IllegalStateException" ({ cls := "java/lang/Throwable", name := "fillInStackTrace", desc := "(I)Ljava/lang/Throwable;" } : Jvm.MethodName) ({ cls := "java/lang/Throwable", name := "fillInStackTrace", desc := "(I)Ljava/lang/Throwable;" } : Jvm.MethodName)) ∈ gw := List.mem_filter.mpr ⟨List.mem_append_right _ (List.mem_append_right _ (List.mem_append_left _ (List.mem_of_getElem? (i := 105) rfl))), by decide +kernel⟩
theorem kw_364 : (Jvm.Cond.selects "ShiftSignatures" ({ cls := "ShiftSignatures", name := "gate", desc := "(III)I" } : Jvm.MethodName) ({ cls := "ShiftSignatures", name := "gate", desc := "(III)I" } : Jvm.MethodName)) ∈ gw := List.mem_filter.mpr ⟨List.mem_append_right _ (List.mem_append_right _ (List.mem_append_left _ (List.mem_of_getElem? (i := 124) rfl))), by decide +kernel⟩
theorem kw_378 : (Jvm.Cond.selects "java/lang/IndexOutOfBoundsException" ({ cls := "java/lang/Throwable", name := "fillInStackTrace", desc := "(I)Ljava/lang/Throwable;" } : Jvm.MethodName) ({ cls := "java/lang/Throwable", name := "fillInStackTrace", desc := "(I)Ljava/lang/Throwable;" } : Jvm.MethodName)) ∈ gw := List.mem_filter.mpr ⟨List.mem_append_right _ (List.mem_append_right _ (List.mem_append_left _ (List.mem_of_getElem? (i := 138) rfl))), by decide +kernel⟩
theorem kw_402 : (Jvm.Cond.selects "ShiftSignatures" ({ cls := "ShiftSignatures", name := "output", desc := "(I)I" } : Jvm.MethodName) ({ cls := "ShiftSignatures", name := "output", desc := "(I)I" } : Jvm.MethodName)) ∈ gw := List.mem_filter.mpr ⟨List.mem_append_right _ (List.mem_append_right _ (List.mem_append_left _ (List.mem_of_getElem? (i := 162) rfl))), by decide +kernel⟩
theorem kw_414 : (Jvm.Cond.selects "ShiftSignatures" ({ cls := "ShiftSignatures", name := "answer", desc := "(II)I" } : Jvm.MethodName) ({ cls := "ShiftSignatures", name := "answer", desc := "(II)I" } : Jvm.MethodName)) ∈ gw := List.mem_filter.mpr ⟨List.mem_append_right _ (List.mem_append_right _ (List.mem_append_left _ (List.mem_of_getElem? (i := 174) rfl))), by decide +kernel⟩
theorem kw_457 : (Jvm.Cond.selects "ShiftSignatures" ({ cls := "ShiftSignatures", name := "session", desc := "(II)J" } : Jvm.MethodName) ({ cls := "ShiftSignatures", name := "session", desc := "(II)J" } : Jvm.MethodName)) ∈ gw := List.mem_filter.mpr ⟨List.mem_append_right _ (List.mem_append_right _ (List.mem_append_left _ (List.mem_of_getElem? (i := 217) rfl))), by decide +kernel⟩
theorem kw_470 : (Jvm.Cond.selects "ShiftSignatures" ({ cls := "ShiftSignatures", name := "faults", desc := "(II)I" } : Jvm.MethodName) ({ cls := "ShiftSignatures", name := "faults", desc := "(II)I" } : Jvm.MethodName)) ∈ gw := List.mem_filter.mpr ⟨List.mem_append_right _ (List.mem_append_right _ (List.mem_append_left _ (List.mem_of_getElem? (i := 230) rfl))), by decide +kernel⟩
theorem kw_519 : (Jvm.Cond.selects "ShiftSignatures" ({ cls := "ShiftSignatures", name := "first", desc := "(II)I" } : Jvm.MethodName) ({ cls := "ShiftSignatures", name := "first", desc := "(II)I" } : Jvm.MethodName)) ∈ gw := List.mem_filter.mpr ⟨List.mem_append_right _ (List.mem_append_right _ (List.mem_append_right _ (List.mem_append_left _ (List.mem_of_getElem? (i := 39) rfl)))), by decide +kernel⟩
theorem kw_582 : (Jvm.Cond.selects "ShiftSignaturesModel" ({ cls := "ShiftSignaturesModel", name := "thrown", desc := "()I" } : Jvm.MethodName) ({ cls := "ShiftSignaturesModel", name := "thrown", desc := "()I" } : Jvm.MethodName)) ∈ gw := List.mem_filter.mpr ⟨List.mem_append_right _ (List.mem_append_right _ (List.mem_append_right _ (List.mem_append_left _ (List.mem_of_getElem? (i := 102) rfl)))), by decide +kernel⟩
theorem kw_586 : (Jvm.Cond.selects "ShiftSignaturesModel" ({ cls := "ShiftSignaturesModel", name := "polynomial", desc := "(J)I" } : Jvm.MethodName) ({ cls := "ShiftSignaturesModel", name := "polynomial", desc := "(J)I" } : Jvm.MethodName)) ∈ gw := List.mem_filter.mpr ⟨List.mem_append_right _ (List.mem_append_right _ (List.mem_append_right _ (List.mem_append_left _ (List.mem_of_getElem? (i := 106) rfl)))), by decide +kernel⟩
theorem kw_598 : (Jvm.Cond.selects "ShiftSignaturesModel" ({ cls := "ShiftSignaturesModel", name := "times", desc := "(JJ)J" } : Jvm.MethodName) ({ cls := "ShiftSignaturesModel", name := "times", desc := "(JJ)J" } : Jvm.MethodName)) ∈ gw := List.mem_filter.mpr ⟨List.mem_append_right _ (List.mem_append_right _ (List.mem_append_right _ (List.mem_append_left _ (List.mem_of_getElem? (i := 118) rfl)))), by decide +kernel⟩
theorem kw_615 : (Jvm.Cond.selects "ShiftSignaturesModel" ({ cls := "ShiftSignaturesModel", name := "power", desc := "(JJ)J" } : Jvm.MethodName) ({ cls := "ShiftSignaturesModel", name := "power", desc := "(JJ)J" } : Jvm.MethodName)) ∈ gw := List.mem_filter.mpr ⟨List.mem_append_right _ (List.mem_append_right _ (List.mem_append_right _ (List.mem_append_left _ (List.mem_of_getElem? (i := 135) rfl)))), by decide +kernel⟩
theorem kw_630 : (Jvm.Cond.selects "ShiftSignaturesModel" ({ cls := "ShiftSignaturesModel", name := "residue", desc := "(J)J" } : Jvm.MethodName) ({ cls := "ShiftSignaturesModel", name := "residue", desc := "(J)J" } : Jvm.MethodName)) ∈ gw := List.mem_filter.mpr ⟨List.mem_append_right _ (List.mem_append_right _ (List.mem_append_right _ (List.mem_append_left _ (List.mem_of_getElem? (i := 150) rfl)))), by decide +kernel⟩
theorem kw_634 : (Jvm.Cond.selects "ShiftSignaturesModel" ({ cls := "ShiftSignaturesModel", name := "irreducible", desc := "()Z" } : Jvm.MethodName) ({ cls := "ShiftSignaturesModel", name := "irreducible", desc := "()Z" } : Jvm.MethodName)) ∈ gw := List.mem_filter.mpr ⟨List.mem_append_right _ (List.mem_append_right _ (List.mem_append_right _ (List.mem_append_left _ (List.mem_of_getElem? (i := 154) rfl)))), by decide +kernel⟩
theorem kw_642 : (Jvm.Cond.selects "ShiftSignaturesModel" ({ cls := "ShiftSignaturesModel", name := "primitive", desc := "()Z" } : Jvm.MethodName) ({ cls := "ShiftSignaturesModel", name := "primitive", desc := "()Z" } : Jvm.MethodName)) ∈ gw := List.mem_filter.mpr ⟨List.mem_append_right _ (List.mem_append_right _ (List.mem_append_right _ (List.mem_append_left _ (List.mem_of_getElem? (i := 162) rfl)))), by decide +kernel⟩
theorem kw_646 : (Jvm.Cond.selects "ShiftSignaturesModel" ({ cls := "ShiftSignaturesModel", name := "order", desc := "()J" } : Jvm.MethodName) ({ cls := "ShiftSignaturesModel", name := "order", desc := "()J" } : Jvm.MethodName)) ∈ gw := List.mem_filter.mpr ⟨List.mem_append_right _ (List.mem_append_right _ (List.mem_append_right _ (List.mem_append_left _ (List.mem_of_getElem? (i := 166) rfl)))), by decide +kernel⟩
theorem kw_651 : (Jvm.Cond.selects "ShiftSignaturesModel" ({ cls := "ShiftSignaturesModel", name := "load", desc := "(J)J" } : Jvm.MethodName) ({ cls := "ShiftSignaturesModel", name := "load", desc := "(J)J" } : Jvm.MethodName)) ∈ gw := List.mem_filter.mpr ⟨List.mem_append_right _ (List.mem_append_right _ (List.mem_append_right _ (List.mem_append_left _ (List.mem_of_getElem? (i := 171) rfl)))), by decide +kernel⟩
theorem kw_655 : (Jvm.Cond.selects "ShiftSignaturesModel" ({ cls := "ShiftSignaturesModel", name := "steps", desc := "(J)J" } : Jvm.MethodName) ({ cls := "ShiftSignaturesModel", name := "steps", desc := "(J)J" } : Jvm.MethodName)) ∈ gw := List.mem_filter.mpr ⟨List.mem_append_right _ (List.mem_append_right _ (List.mem_append_right _ (List.mem_append_left _ (List.mem_of_getElem? (i := 175) rfl)))), by decide +kernel⟩
theorem kw_659 : (Jvm.Cond.selects "ShiftSignaturesModel" ({ cls := "ShiftSignaturesModel", name := "channel", desc := "(J)I" } : Jvm.MethodName) ({ cls := "ShiftSignaturesModel", name := "channel", desc := "(J)I" } : Jvm.MethodName)) ∈ gw := List.mem_filter.mpr ⟨List.mem_append_right _ (List.mem_append_right _ (List.mem_append_right _ (List.mem_append_left _ (List.mem_of_getElem? (i := 179) rfl)))), by decide +kernel⟩
theorem kw_663 : (Jvm.Cond.selects "ShiftSignaturesModel" ({ cls := "ShiftSignaturesModel", name := "pattern", desc := "()I" } : Jvm.MethodName) ({ cls := "ShiftSignaturesModel", name := "pattern", desc := "()I" } : Jvm.MethodName)) ∈ gw := List.mem_filter.mpr ⟨List.mem_append_right _ (List.mem_append_right _ (List.mem_append_right _ (List.mem_append_left _ (List.mem_of_getElem? (i := 183) rfl)))), by decide +kernel⟩
theorem kw_671 : (Jvm.Cond.selects "ShiftSignaturesModel" ({ cls := "ShiftSignaturesModel", name := "gate", desc := "(III)I" } : Jvm.MethodName) ({ cls := "ShiftSignaturesModel", name := "gate", desc := "(III)I" } : Jvm.MethodName)) ∈ gw := List.mem_filter.mpr ⟨List.mem_append_right _ (List.mem_append_right _ (List.mem_append_right _ (List.mem_append_left _ (List.mem_of_getElem? (i := 191) rfl)))), by decide +kernel⟩
theorem kw_679 : (Jvm.Cond.selects "ShiftSignaturesModel" ({ cls := "ShiftSignaturesModel", name := "output", desc := "(I)I" } : Jvm.MethodName) ({ cls := "ShiftSignaturesModel", name := "output", desc := "(I)I" } : Jvm.MethodName)) ∈ gw := List.mem_filter.mpr ⟨List.mem_append_right _ (List.mem_append_right _ (List.mem_append_right _ (List.mem_append_left _ (List.mem_of_getElem? (i := 199) rfl)))), by decide +kernel⟩
theorem kw_683 : (Jvm.Cond.selects "ShiftSignaturesModel" ({ cls := "ShiftSignaturesModel", name := "answer", desc := "(II)I" } : Jvm.MethodName) ({ cls := "ShiftSignaturesModel", name := "answer", desc := "(II)I" } : Jvm.MethodName)) ∈ gw := List.mem_filter.mpr ⟨List.mem_append_right _ (List.mem_append_right _ (List.mem_append_right _ (List.mem_append_left _ (List.mem_of_getElem? (i := 203) rfl)))), by decide +kernel⟩
theorem kw_698 : (Jvm.Cond.selects "ShiftSignaturesModel" ({ cls := "ShiftSignaturesModel", name := "session", desc := "(II)J" } : Jvm.MethodName) ({ cls := "ShiftSignaturesModel", name := "session", desc := "(II)J" } : Jvm.MethodName)) ∈ gw := List.mem_filter.mpr ⟨List.mem_append_right _ (List.mem_append_right _ (List.mem_append_right _ (List.mem_append_left _ (List.mem_of_getElem? (i := 218) rfl)))), by decide +kernel⟩
theorem kw_713 : (Jvm.Cond.selects "ShiftSignaturesModel" ({ cls := "ShiftSignaturesModel", name := "faults", desc := "(II)I" } : Jvm.MethodName) ({ cls := "ShiftSignaturesModel", name := "faults", desc := "(II)I" } : Jvm.MethodName)) ∈ gw := List.mem_filter.mpr ⟨List.mem_append_right _ (List.mem_append_right _ (List.mem_append_right _ (List.mem_append_left _ (List.mem_of_getElem? (i := 233) rfl)))), by decide +kernel⟩
theorem kw_721 : (Jvm.Cond.selects "ShiftSignaturesModel" ({ cls := "ShiftSignaturesModel", name := "first", desc := "(II)I" } : Jvm.MethodName) ({ cls := "ShiftSignaturesModel", name := "first", desc := "(II)I" } : Jvm.MethodName)) ∈ gw := List.mem_filter.mpr ⟨List.mem_append_right _ (List.mem_append_right _ (List.mem_append_right _ (List.mem_append_right _ (List.mem_of_getElem? (i := 1) rfl)))), by decide +kernel⟩
theorem kw_119 : (Jvm.Cond.static ({ cls := "ShiftSignatures$Modulus", name := "remainder", desc := "(JJ)J" } : Jvm.MethodName)) ∈ gw := List.mem_filter.mpr ⟨List.mem_append_right _ (List.mem_append_left _ (List.mem_of_getElem? (i := 119) rfl)), by decide +kernel⟩
theorem kw_122 : (Jvm.Cond.static ({ cls := "ShiftSignatures$Modulus", name := "degreeOf", desc := "(J)I" } : Jvm.MethodName)) ∈ gw := List.mem_filter.mpr ⟨List.mem_append_right _ (List.mem_append_left _ (List.mem_of_getElem? (i := 122) rfl)), by decide +kernel⟩
theorem kw_125 : (Jvm.Cond.static ({ cls := "java/lang/Long", name := "numberOfLeadingZeros", desc := "(J)I" } : Jvm.MethodName)) ∈ gw := List.mem_filter.mpr ⟨List.mem_append_right _ (List.mem_append_left _ (List.mem_of_getElem? (i := 125) rfl)), by decide +kernel⟩
theorem kw_128 : (Jvm.Cond.static ({ cls := "java/lang/Integer", name := "numberOfLeadingZeros", desc := "(I)I" } : Jvm.MethodName)) ∈ gw := List.mem_filter.mpr ⟨List.mem_append_right _ (List.mem_append_left _ (List.mem_of_getElem? (i := 128) rfl)), by decide +kernel⟩
theorem kw_148 : (Jvm.Cond.static ({ cls := "ShiftSignatures$Modulus", name := "commonDivisor", desc := "(JJ)J" } : Jvm.MethodName)) ∈ gw := List.mem_filter.mpr ⟨List.mem_append_right _ (List.mem_append_left _ (List.mem_of_getElem? (i := 148) rfl)), by decide +kernel⟩
theorem kw_183 : (Jvm.Cond.static ({ cls := "ShiftSignatures$Modulus", name := "without", desc := "(JJ)J" } : Jvm.MethodName)) ∈ gw := List.mem_filter.mpr ⟨List.mem_append_right _ (List.mem_append_left _ (List.mem_of_getElem? (i := 183) rfl)), by decide +kernel⟩
theorem kw_186 : (Jvm.Cond.static ({ cls := "ShiftSignatures$Modulus", name := "quotient", desc := "(JJ)J" } : Jvm.MethodName)) ∈ gw := List.mem_filter.mpr ⟨List.mem_append_right _ (List.mem_append_left _ (List.mem_of_getElem? (i := 186) rfl)), by decide +kernel⟩
theorem kw_198 : (Jvm.Cond.static ({ cls := "java/lang/Long", name := "bitCount", desc := "(J)I" } : Jvm.MethodName)) ∈ gw := List.mem_filter.mpr ⟨List.mem_append_right _ (List.mem_append_left _ (List.mem_of_getElem? (i := 198) rfl)), by decide +kernel⟩
theorem kw_204 : (Jvm.Cond.static ({ cls := "ShiftSignaturesLaw", name := "polynomial", desc := "(LShiftSignatures;J[J)I" } : Jvm.MethodName)) ∈ gw := List.mem_filter.mpr ⟨List.mem_append_right _ (List.mem_append_left _ (List.mem_of_getElem? (i := 204) rfl)), by decide +kernel⟩
theorem kw_291 : (Jvm.Cond.static ({ cls := "ShiftSignaturesLaw", name := "times", desc := "(LShiftSignatures;JJ[J)I" } : Jvm.MethodName)) ∈ gw := List.mem_filter.mpr ⟨List.mem_append_right _ (List.mem_append_right _ (List.mem_append_left _ (List.mem_of_getElem? (i := 51) rfl))), by decide +kernel⟩
theorem kw_308 : (Jvm.Cond.static ({ cls := "ShiftSignaturesLaw", name := "power", desc := "(LShiftSignatures;JJ[J)I" } : Jvm.MethodName)) ∈ gw := List.mem_filter.mpr ⟨List.mem_append_right _ (List.mem_append_right _ (List.mem_append_left _ (List.mem_of_getElem? (i := 68) rfl))), by decide +kernel⟩
theorem kw_321 : (Jvm.Cond.static ({ cls := "ShiftSignaturesLaw", name := "load", desc := "(LShiftSignatures;J[J)I" } : Jvm.MethodName)) ∈ gw := List.mem_filter.mpr ⟨List.mem_append_right _ (List.mem_append_right _ (List.mem_append_left _ (List.mem_of_getElem? (i := 81) rfl))), by decide +kernel⟩
theorem kw_328 : (Jvm.Cond.static ({ cls := "ShiftSignaturesLaw", name := "steps", desc := "(LShiftSignatures;J[J)I" } : Jvm.MethodName)) ∈ gw := List.mem_filter.mpr ⟨List.mem_append_right _ (List.mem_append_right _ (List.mem_append_left _ (List.mem_of_getElem? (i := 88) rfl))), by decide +kernel⟩
theorem kw_335 : (Jvm.Cond.static ({ cls := "ShiftSignaturesLaw", name := "channel", desc := "(LShiftSignatures;J[J)I" } : Jvm.MethodName)) ∈ gw := List.mem_filter.mpr ⟨List.mem_append_right _ (List.mem_append_right _ (List.mem_append_left _ (List.mem_of_getElem? (i := 95) rfl))), by decide +kernel⟩
theorem kw_359 : (Jvm.Cond.static ({ cls := "ShiftSignaturesLaw", name := "gate", desc := "(LShiftSignatures;III[J)I" } : Jvm.MethodName)) ∈ gw := List.mem_filter.mpr ⟨List.mem_append_right _ (List.mem_append_right _ (List.mem_append_left _ (List.mem_of_getElem? (i := 119) rfl))), by decide +kernel⟩
theorem kw_398 : (Jvm.Cond.static ({ cls := "ShiftSignaturesLaw", name := "output", desc := "(LShiftSignatures;I[J)I" } : Jvm.MethodName)) ∈ gw := List.mem_filter.mpr ⟨List.mem_append_right _ (List.mem_append_right _ (List.mem_append_left _ (List.mem_of_getElem? (i := 158) rfl))), by decide +kernel⟩
theorem kw_410 : (Jvm.Cond.static ({ cls := "ShiftSignaturesLaw", name := "answer", desc := "(LShiftSignatures;II[J)I" } : Jvm.MethodName)) ∈ gw := List.mem_filter.mpr ⟨List.mem_append_right _ (List.mem_append_right _ (List.mem_append_left _ (List.mem_of_getElem? (i := 170) rfl))), by decide +kernel⟩
theorem kw_438 : (Jvm.Cond.static ({ cls := "ShiftSignatures$Circuit", name := "spread", desc := "(I)J" } : Jvm.MethodName)) ∈ gw := List.mem_filter.mpr ⟨List.mem_append_right _ (List.mem_append_right _ (List.mem_append_left _ (List.mem_of_getElem? (i := 198) rfl))), by decide +kernel⟩
theorem kw_446 : (Jvm.Cond.static ({ cls := "ShiftSignatures$Circuit", name := "withStuck", desc := "(JI)J" } : Jvm.MethodName)) ∈ gw := List.mem_filter.mpr ⟨List.mem_append_right _ (List.mem_append_right _ (List.mem_append_left _ (List.mem_of_getElem? (i := 206) rfl))), by decide +kernel⟩
theorem kw_453 : (Jvm.Cond.static ({ cls := "ShiftSignaturesLaw", name := "session", desc := "(LShiftSignatures;II[J)I" } : Jvm.MethodName)) ∈ gw := List.mem_filter.mpr ⟨List.mem_append_right _ (List.mem_append_right _ (List.mem_append_left _ (List.mem_of_getElem? (i := 213) rfl))), by decide +kernel⟩
theorem kw_466 : (Jvm.Cond.static ({ cls := "ShiftSignaturesLaw", name := "faults", desc := "(LShiftSignatures;II[J)I" } : Jvm.MethodName)) ∈ gw := List.mem_filter.mpr ⟨List.mem_append_right _ (List.mem_append_right _ (List.mem_append_left _ (List.mem_of_getElem? (i := 226) rfl))), by decide +kernel⟩
theorem kw_506 : (Jvm.Cond.static ({ cls := "ShiftSignatures", name := "lowestBit", desc := "(J)I" } : Jvm.MethodName)) ∈ gw := List.mem_filter.mpr ⟨List.mem_append_right _ (List.mem_append_right _ (List.mem_append_right _ (List.mem_append_left _ (List.mem_of_getElem? (i := 26) rfl)))), by decide +kernel⟩
theorem kw_509 : (Jvm.Cond.static ({ cls := "java/lang/Long", name := "numberOfTrailingZeros", desc := "(J)I" } : Jvm.MethodName)) ∈ gw := List.mem_filter.mpr ⟨List.mem_append_right _ (List.mem_append_right _ (List.mem_append_right _ (List.mem_append_left _ (List.mem_of_getElem? (i := 29) rfl)))), by decide +kernel⟩
theorem kw_512 : (Jvm.Cond.static ({ cls := "java/lang/Integer", name := "numberOfTrailingZeros", desc := "(I)I" } : Jvm.MethodName)) ∈ gw := List.mem_filter.mpr ⟨List.mem_append_right _ (List.mem_append_right _ (List.mem_append_right _ (List.mem_append_left _ (List.mem_of_getElem? (i := 32) rfl)))), by decide +kernel⟩
theorem kw_515 : (Jvm.Cond.static ({ cls := "ShiftSignaturesLaw", name := "first", desc := "(LShiftSignatures;II[J)I" } : Jvm.MethodName)) ∈ gw := List.mem_filter.mpr ⟨List.mem_append_right _ (List.mem_append_right _ (List.mem_append_right _ (List.mem_append_left _ (List.mem_of_getElem? (i := 35) rfl)))), by decide +kernel⟩
theorem kw_626 : (Jvm.Cond.static ({ cls := "ShiftSignaturesModel", name := "left", desc := "(JJI)J" } : Jvm.MethodName)) ∈ gw := List.mem_filter.mpr ⟨List.mem_append_right _ (List.mem_append_right _ (List.mem_append_right _ (List.mem_append_left _ (List.mem_of_getElem? (i := 146) rfl)))), by decide +kernel⟩
theorem kw_694 : (Jvm.Cond.static ({ cls := "ShiftSignaturesModel", name := "worth", desc := "(III)I" } : Jvm.MethodName)) ∈ gw := List.mem_filter.mpr ⟨List.mem_append_right _ (List.mem_append_right _ (List.mem_append_right _ (List.mem_append_left _ (List.mem_of_getElem? (i := 214) rfl)))), by decide +kernel⟩
theorem kw_701 : (Jvm.Cond.static ({ cls := "ShiftSignaturesModel", name := "isCount", desc := "(I)Z" } : Jvm.MethodName)) ∈ gw := List.mem_filter.mpr ⟨List.mem_append_right _ (List.mem_append_right _ (List.mem_append_right _ (List.mem_append_left _ (List.mem_of_getElem? (i := 221) rfl)))), by decide +kernel⟩
theorem kw_30 : (Jvm.Cond.fieldLinkNest "ShiftSignatures$Differences" (45 : Nat) "ShiftSignatures$Modulus" "p" "J" "ShiftSignatures") ∈ nw_l := List.mem_of_getElem? (i := 0) rfl
theorem kw_32 : (Jvm.Cond.fieldLinkNest "ShiftSignatures$Differences" (40 : Nat) "ShiftSignatures$Modulus" "degree" "I" "ShiftSignatures") ∈ nw_l := List.mem_of_getElem? (i := 1) rfl
theorem kw_33 : (Jvm.Cond.fieldLinkNest "ShiftSignatures" (81 : Nat) "ShiftSignatures$Modulus" "degree" "I" "ShiftSignatures") ∈ nw_l := List.mem_of_getElem? (i := 2) rfl
theorem kw_35 : (Jvm.Cond.fieldLinkNest "ShiftSignatures" (94 : Nat) "ShiftSignatures$Modulus" "x" "J" "ShiftSignatures") ∈ nw_l := List.mem_of_getElem? (i := 3) rfl
theorem kw_55 : (Jvm.Cond.fieldLinkNest "ShiftSignatures" (97 : Nat) "ShiftSignatures$Circuit" "channelCount" "I" "ShiftSignatures") ∈ nw_l := List.mem_of_getElem? (i := 4) rfl
theorem kw_57 : (Jvm.Cond.fieldLinkNest "ShiftSignatures" (113 : Nat) "ShiftSignatures$Circuit" "gateCount" "I" "ShiftSignatures") ∈ nw_l := List.mem_of_getElem? (i := 5) rfl
theorem kw_59 : (Jvm.Cond.fieldLinkNest "ShiftSignatures$Differences" (29 : Nat) "ShiftSignatures$Circuit" "outputCount" "I" "ShiftSignatures") ∈ nw_l := List.mem_of_getElem? (i := 6) rfl
theorem kw_60 : (Jvm.Cond.fieldLinkNest "ShiftSignatures" (122 : Nat) "ShiftSignatures$Circuit" "outputCount" "I" "ShiftSignatures") ∈ nw_l := List.mem_of_getElem? (i := 7) rfl
theorem kw_88 : (Jvm.Cond.fieldLinkNest "ShiftSignatures" (156 : Nat) "ShiftSignatures$Differences" "seen" "J" "ShiftSignatures") ∈ nw_l := List.mem_of_getElem? (i := 8) rfl
theorem kw_24 : (Jvm.Cond.methodLinkNest "ShiftSignatures" (11 : Nat) ({ cls := "ShiftSignatures$Modulus", name := "<init>", desc := "()V" } : Jvm.MethodName) "ShiftSignatures") ∈ nw_l := List.mem_of_getElem? (i := 9) rfl
theorem kw_45 : (Jvm.Cond.methodLinkNest "ShiftSignatures" (18 : Nat) ({ cls := "ShiftSignatures$Circuit", name := "<init>", desc := "()V" } : Jvm.MethodName) "ShiftSignatures") ∈ nw_l := List.mem_of_getElem? (i := 10) rfl
theorem kw_82 : (Jvm.Cond.methodLinkNest "ShiftSignatures" (25 : Nat) ({ cls := "ShiftSignatures$Differences", name := "<init>", desc := "()V" } : Jvm.MethodName) "ShiftSignatures") ∈ nw_l := List.mem_of_getElem? (i := 11) rfl
theorem kw_114 : (Jvm.Cond.methodLinkNest "ShiftSignatures" (70 : Nat) ({ cls := "ShiftSignatures$Modulus", name := "reduced", desc := "(J)J" } : Jvm.MethodName) "ShiftSignatures") ∈ nw_l := List.mem_of_getElem? (i := 12) rfl
theorem kw_135 : (Jvm.Cond.methodLinkNest "ShiftSignatures" (74 : Nat) ({ cls := "ShiftSignatures$Modulus", name := "isIrreducible", desc := "()Z" } : Jvm.MethodName) "ShiftSignatures") ∈ nw_l := List.mem_of_getElem? (i := 13) rfl
theorem kw_154 : (Jvm.Cond.methodLinkNest "ShiftSignatures" (78 : Nat) ({ cls := "ShiftSignatures$Modulus", name := "isPrimitive", desc := "()Z" } : Jvm.MethodName) "ShiftSignatures") ∈ nw_l := List.mem_of_getElem? (i := 14) rfl
theorem kw_177 : (Jvm.Cond.methodLinkNest "ShiftSignatures" (87 : Nat) ({ cls := "ShiftSignatures$Modulus", name := "multipleOfOrder", desc := "()J" } : Jvm.MethodName) "ShiftSignatures") ∈ nw_l := List.mem_of_getElem? (i := 15) rfl
theorem kw_188 : (Jvm.Cond.methodLinkNest "ShiftSignatures" (91 : Nat) ({ cls := "ShiftSignatures$Modulus", name := "orderWithin", desc := "(J)J" } : Jvm.MethodName) "ShiftSignatures") ∈ nw_l := List.mem_of_getElem? (i := 16) rfl
theorem kw_211 : (Jvm.Cond.methodLinkNest "ShiftSignatures" (38 : Nat) ({ cls := "ShiftSignatures$Modulus", name := "degreeOf", desc := "(J)I" } : Jvm.MethodName) "ShiftSignatures") ∈ nw_l := List.mem_of_getElem? (i := 17) rfl
theorem kw_280 : (Jvm.Cond.methodLinkNest "ShiftSignatures" (49 : Nat) ({ cls := "ShiftSignatures$Modulus", name := "become", desc := "(J)V" } : Jvm.MethodName) "ShiftSignatures") ∈ nw_l := List.mem_of_getElem? (i := 18) rfl
theorem kw_286 : (Jvm.Cond.methodLinkNest "ShiftSignatures" (53 : Nat) ({ cls := "ShiftSignatures$Circuit", name := "restart", desc := "(I)V" } : Jvm.MethodName) "ShiftSignatures") ∈ nw_l := List.mem_of_getElem? (i := 19) rfl
theorem kw_301 : (Jvm.Cond.methodLinkNest "ShiftSignatures" (173 : Nat) ({ cls := "ShiftSignatures$Modulus", name := "hasResidue", desc := "(J)Z" } : Jvm.MethodName) "ShiftSignatures") ∈ nw_l := List.mem_of_getElem? (i := 20) rfl
theorem kw_306 : (Jvm.Cond.methodLinkNest "ShiftSignatures" (60 : Nat) ({ cls := "ShiftSignatures$Modulus", name := "product", desc := "(JJ)J" } : Jvm.MethodName) "ShiftSignatures") ∈ nw_l := List.mem_of_getElem? (i := 21) rfl
theorem kw_319 : (Jvm.Cond.methodLinkNest "ShiftSignatures" (67 : Nat) ({ cls := "ShiftSignatures$Modulus", name := "raised", desc := "(JJ)J" } : Jvm.MethodName) "ShiftSignatures") ∈ nw_l := List.mem_of_getElem? (i := 22) rfl
theorem kw_371 : (Jvm.Cond.methodLinkNest "ShiftSignatures" (183 : Nat) ({ cls := "ShiftSignatures$Circuit", name := "countLines", desc := "()I" } : Jvm.MethodName) "ShiftSignatures") ∈ nw_l := List.mem_of_getElem? (i := 23) rfl
theorem kw_392 : (Jvm.Cond.methodLinkNest "ShiftSignatures" (118 : Nat) ({ cls := "ShiftSignatures$Circuit", name := "addGate", desc := "(III)I" } : Jvm.MethodName) "ShiftSignatures") ∈ nw_l := List.mem_of_getElem? (i := 24) rfl
theorem kw_405 : (Jvm.Cond.methodLinkNest "ShiftSignatures" (127 : Nat) ({ cls := "ShiftSignatures$Circuit", name := "addOutput", desc := "(I)I" } : Jvm.MethodName) "ShiftSignatures") ∈ nw_l := List.mem_of_getElem? (i := 25) rfl
theorem kw_424 : (Jvm.Cond.methodLinkNest "ShiftSignatures" (149 : Nat) ({ cls := "ShiftSignatures$Circuit", name := "countFaults", desc := "()I" } : Jvm.MethodName) "ShiftSignatures") ∈ nw_l := List.mem_of_getElem? (i := 26) rfl
theorem kw_429 : (Jvm.Cond.methodLinkNest "ShiftSignatures" (134 : Nat) ({ cls := "ShiftSignatures$Circuit", name := "answerTo", desc := "(II)I" } : Jvm.MethodName) "ShiftSignatures") ∈ nw_l := List.mem_of_getElem? (i := 27) rfl
theorem kw_464 : (Jvm.Cond.methodLinkNest "ShiftSignatures" (141 : Nat) ({ cls := "ShiftSignatures$Modulus", name := "stepped", desc := "(J)J" } : Jvm.MethodName) "ShiftSignatures") ∈ nw_l := List.mem_of_getElem? (i := 28) rfl
theorem kw_477 : (Jvm.Cond.methodLinkNest "ShiftSignatures" (190 : Nat) ({ cls := "ShiftSignatures$Differences", name := "clear", desc := "()V" } : Jvm.MethodName) "ShiftSignatures") ∈ nw_l := List.mem_of_getElem? (i := 29) rfl
theorem kw_481 : (Jvm.Cond.methodLinkNest "ShiftSignatures" (193 : Nat) ({ cls := "ShiftSignatures$Differences", name := "timesX", desc := "()V" } : Jvm.MethodName) "ShiftSignatures") ∈ nw_l := List.mem_of_getElem? (i := 30) rfl
theorem kw_485 : (Jvm.Cond.methodLinkNest "ShiftSignatures" (196 : Nat) ({ cls := "ShiftSignatures$Differences", name := "addAnswers", desc := "(LShiftSignatures$Circuit;I)V" } : Jvm.MethodName) "ShiftSignatures") ∈ nw_l := List.mem_of_getElem? (i := 31) rfl
theorem kw_489 : (Jvm.Cond.methodLinkNest "ShiftSignatures$Differences" (19 : Nat) ({ cls := "ShiftSignatures$Circuit", name := "answerTo", desc := "(II)I" } : Jvm.MethodName) "ShiftSignatures") ∈ nw_l := List.mem_of_getElem? (i := 32) rfl
theorem kw_490 : (Jvm.Cond.methodLinkNest "ShiftSignatures$Differences" (25 : Nat) ({ cls := "ShiftSignatures$Circuit", name := "settle", desc := "(IZ)V" } : Jvm.MethodName) "ShiftSignatures") ∈ nw_l := List.mem_of_getElem? (i := 33) rfl
theorem kw_491 : (Jvm.Cond.methodLinkNest "ShiftSignatures$Differences" (33 : Nat) ({ cls := "ShiftSignatures$Circuit", name := "valuesOfOutput", desc := "(I)J" } : Jvm.MethodName) "ShiftSignatures") ∈ nw_l := List.mem_of_getElem? (i := 34) rfl
theorem kw_492 : (Jvm.Cond.methodLinkNest "ShiftSignatures$Differences" (37 : Nat) ({ cls := "ShiftSignatures$Circuit", name := "spread", desc := "(I)J" } : Jvm.MethodName) "ShiftSignatures") ∈ nw_l := List.mem_of_getElem? (i := 35) rfl
theorem kw_493 : (Jvm.Cond.methodLinkNest "ShiftSignatures" (200 : Nat) ({ cls := "ShiftSignatures$Differences", name := "reduce", desc := "(LShiftSignatures$Modulus;)V" } : Jvm.MethodName) "ShiftSignatures") ∈ nw_l := List.mem_of_getElem? (i := 36) rfl
theorem kw_501 : (Jvm.Cond.methodLinkNest "ShiftSignatures" (164 : Nat) ({ cls := "ShiftSignatures$Differences", name := "found", desc := "()J" } : Jvm.MethodName) "ShiftSignatures") ∈ nw_l := List.mem_of_getElem? (i := 37) rfl
theorem in_S : ∀ w ∈ u_ws R_S F_S 5, w ∈ gw := by
  intro w h
  have h2 : w ∈ [u_lay R_S F_S 0, u_lay R_S F_S 1, u_lay R_S F_S 2, u_lay R_S F_S 3, u_lay R_S F_S 4] := h
  simp only [List.mem_cons, List.not_mem_nil, or_false] at h2
  rcases h2 with rfl | rfl | rfl | rfl | rfl
  · exact kw_99
  · exact kw_101
  · exact kw_103
  · exact kw_105
  · exact kw_107
theorem in_M : ∀ w ∈ u_ws R_M F_M 3, w ∈ gw := by
  intro w h
  have h2 : w ∈ [u_lay R_M F_M 0, u_lay R_M F_M 1, u_lay R_M F_M 2] := h
  simp only [List.mem_cons, List.not_mem_nil, or_false] at h2
  rcases h2 with rfl | rfl | rfl
  · exact kw_36
  · exact kw_38
  · exact kw_40
theorem in_C : ∀ w ∈ u_ws R_C F_C 8, w ∈ gw := by
  intro w h
  have h2 : w ∈ [u_lay R_C F_C 0, u_lay R_C F_C 1, u_lay R_C F_C 2, u_lay R_C F_C 3, u_lay R_C F_C 4, u_lay R_C F_C 5, u_lay R_C F_C 6, u_lay R_C F_C 7] := h
  simp only [List.mem_cons, List.not_mem_nil, or_false] at h2
  rcases h2 with rfl | rfl | rfl | rfl | rfl | rfl | rfl | rfl
  · exact kw_61
  · exact kw_63
  · exact kw_65
  · exact kw_67
  · exact kw_69
  · exact kw_71
  · exact kw_73
  · exact kw_75
theorem in_D : ∀ w ∈ u_ws R_D F_D 2, w ∈ gw := by
  intro w h
  have h2 : w ∈ [u_lay R_D F_D 0, u_lay R_D F_D 1] := h
  simp only [List.mem_cons, List.not_mem_nil, or_false] at h2
  rcases h2 with rfl | rfl
  · exact kw_89
  · exact kw_91
theorem in_O : ∀ w ∈ u_ws R_O F_O 17, w ∈ gw := by
  intro w h
  have h2 : w ∈ [u_lay R_O F_O 0, u_lay R_O F_O 1, u_lay R_O F_O 2, u_lay R_O F_O 3, u_lay R_O F_O 4, u_lay R_O F_O 5, u_lay R_O F_O 6, u_lay R_O F_O 7, u_lay R_O F_O 8, u_lay R_O F_O 9, u_lay R_O F_O 10, u_lay R_O F_O 11, u_lay R_O F_O 12, u_lay R_O F_O 13, u_lay R_O F_O 14, u_lay R_O F_O 15, u_lay R_O F_O 16] := h
  simp only [List.mem_cons, List.not_mem_nil, or_false] at h2
  rcases h2 with rfl | rfl | rfl | rfl | rfl | rfl | rfl | rfl | rfl | rfl | rfl | rfl | rfl | rfl | rfl | rfl | rfl
  · exact kw_545
  · exact kw_547
  · exact kw_549
  · exact kw_551
  · exact kw_553
  · exact kw_555
  · exact kw_557
  · exact kw_559
  · exact kw_561
  · exact kw_563
  · exact kw_565
  · exact kw_567
  · exact kw_569
  · exact kw_571
  · exact kw_573
  · exact kw_575
  · exact kw_577
abbrev b_S_init : ByteArray := prog_1_method_1_code
def y_S_init : MethodName := ⟨R_S, "<init>", "()V"⟩
def w_S_init : List Cond := .code y_S_init b_S_init 1 (Option.none : Option Jvm.ClassFile.FieldType) :: gw
theorem gi_S_init : GoodIn gw w_S_init := gw_in kw_18
abbrev b_S_polynomial : ByteArray := prog_1_method_2_code
def y_S_polynomial : MethodName := ⟨R_S, "polynomial", "(J)I"⟩
def w_S_polynomial : List Cond := .code y_S_polynomial b_S_polynomial 4 (Option.some Jvm.ClassFile.FieldType.int) :: gw
theorem gi_S_polynomial : GoodIn gw w_S_polynomial := gw_in kw_210
abbrev b_S_times : ByteArray := prog_1_method_3_code
def y_S_times : MethodName := ⟨R_S, "times", "(JJ)J"⟩
def w_S_times : List Cond := .code y_S_times b_S_times 5 (Option.some Jvm.ClassFile.FieldType.long) :: gw
theorem gi_S_times : GoodIn gw w_S_times := gw_in kw_296
abbrev b_S_power : ByteArray := prog_1_method_4_code
def y_S_power : MethodName := ⟨R_S, "power", "(JJ)J"⟩
def w_S_power : List Cond := .code y_S_power b_S_power 5 (Option.some Jvm.ClassFile.FieldType.long) :: gw
theorem gi_S_power : GoodIn gw w_S_power := gw_in kw_313
abbrev b_S_residue : ByteArray := prog_1_method_5_code
def y_S_residue : MethodName := ⟨R_S, "residue", "(J)J"⟩
def w_S_residue : List Cond := .code y_S_residue b_S_residue 3 (Option.some Jvm.ClassFile.FieldType.long) :: gw
theorem gi_S_residue : GoodIn gw w_S_residue := gw_in kw_113
abbrev b_S_irreducible : ByteArray := prog_1_method_6_code
def y_S_irreducible : MethodName := ⟨R_S, "irreducible", "()Z"⟩
def w_S_irreducible : List Cond := .code y_S_irreducible b_S_irreducible 1 (Option.some Jvm.ClassFile.FieldType.boolean) :: gw
theorem gi_S_irreducible : GoodIn gw w_S_irreducible := gw_in kw_134
abbrev b_S_primitive : ByteArray := prog_1_method_7_code
def y_S_primitive : MethodName := ⟨R_S, "primitive", "()Z"⟩
def w_S_primitive : List Cond := .code y_S_primitive b_S_primitive 1 (Option.some Jvm.ClassFile.FieldType.boolean) :: gw
theorem gi_S_primitive : GoodIn gw w_S_primitive := gw_in kw_153
abbrev b_S_order : ByteArray := prog_1_method_8_code
def y_S_order : MethodName := ⟨R_S, "order", "()J"⟩
def w_S_order : List Cond := .code y_S_order b_S_order 1 (Option.some Jvm.ClassFile.FieldType.long) :: gw
theorem gi_S_order : GoodIn gw w_S_order := gw_in kw_175
abbrev b_S_load : ByteArray := prog_1_method_9_code
def y_S_load : MethodName := ⟨R_S, "load", "(J)J"⟩
def w_S_load : List Cond := .code y_S_load b_S_load 5 (Option.some Jvm.ClassFile.FieldType.long) :: gw
theorem gi_S_load : GoodIn gw w_S_load := gw_in kw_326
abbrev b_S_steps : ByteArray := prog_1_method_10_code
def y_S_steps : MethodName := ⟨R_S, "steps", "(J)J"⟩
def w_S_steps : List Cond := .code y_S_steps b_S_steps 3 (Option.some Jvm.ClassFile.FieldType.long) :: gw
theorem gi_S_steps : GoodIn gw w_S_steps := gw_in kw_333
abbrev b_S_channel : ByteArray := prog_1_method_11_code
def y_S_channel : MethodName := ⟨R_S, "channel", "(J)I"⟩
def w_S_channel : List Cond := .code y_S_channel b_S_channel 4 (Option.some Jvm.ClassFile.FieldType.int) :: gw
theorem gi_S_channel : GoodIn gw w_S_channel := gw_in kw_341
abbrev b_S_pattern : ByteArray := prog_1_method_12_code
def y_S_pattern : MethodName := ⟨R_S, "pattern", "()I"⟩
def w_S_pattern : List Cond := .code y_S_pattern b_S_pattern 1 (Option.some Jvm.ClassFile.FieldType.int) :: gw
theorem gi_S_pattern : GoodIn gw w_S_pattern := gw_in kw_192
abbrev b_S_gate : ByteArray := prog_1_method_13_code
def y_S_gate : MethodName := ⟨R_S, "gate", "(III)I"⟩
def w_S_gate : List Cond := .code y_S_gate b_S_gate 5 (Option.some Jvm.ClassFile.FieldType.int) :: gw
theorem gi_S_gate : GoodIn gw w_S_gate := gw_in kw_365
abbrev b_S_output : ByteArray := prog_1_method_14_code
def y_S_output : MethodName := ⟨R_S, "output", "(I)I"⟩
def w_S_output : List Cond := .code y_S_output b_S_output 2 (Option.some Jvm.ClassFile.FieldType.int) :: gw
theorem gi_S_output : GoodIn gw w_S_output := gw_in kw_403
abbrev b_S_answer : ByteArray := prog_1_method_15_code
def y_S_answer : MethodName := ⟨R_S, "answer", "(II)I"⟩
def w_S_answer : List Cond := .code y_S_answer b_S_answer 3 (Option.some Jvm.ClassFile.FieldType.int) :: gw
theorem gi_S_answer : GoodIn gw w_S_answer := gw_in kw_415
abbrev b_S_session : ByteArray := prog_1_method_16_code
def y_S_session : MethodName := ⟨R_S, "session", "(II)J"⟩
def w_S_session : List Cond := .code y_S_session b_S_session 9 (Option.some Jvm.ClassFile.FieldType.long) :: gw
theorem gi_S_session : GoodIn gw w_S_session := gw_in kw_458
abbrev b_S_faults : ByteArray := prog_1_method_17_code
def y_S_faults : MethodName := ⟨R_S, "faults", "(II)I"⟩
def w_S_faults : List Cond := .code y_S_faults b_S_faults 5 (Option.some Jvm.ClassFile.FieldType.int) :: gw
theorem gi_S_faults : GoodIn gw w_S_faults := gw_in kw_471
abbrev b_S_first : ByteArray := prog_1_method_18_code
def y_S_first : MethodName := ⟨R_S, "first", "(II)I"⟩
def w_S_first : List Cond := .code y_S_first b_S_first 7 (Option.some Jvm.ClassFile.FieldType.int) :: gw
theorem gi_S_first : GoodIn gw w_S_first := gw_in kw_520
abbrev b_S_requireResidue : ByteArray := prog_1_method_19_code
def y_S_requireResidue : MethodName := ⟨R_S, "requireResidue", "(J)V"⟩
def w_S_requireResidue : List Cond := .code y_S_requireResidue b_S_requireResidue 3 (Option.none : Option Jvm.ClassFile.FieldType) :: gw
theorem gi_S_requireResidue : GoodIn gw w_S_requireResidue := gw_in kw_300
abbrev b_S_requireNotNegative : ByteArray := prog_1_method_20_code
def y_S_requireNotNegative : MethodName := ⟨R_S, "requireNotNegative", "(J)V"⟩
def w_S_requireNotNegative : List Cond := .code y_S_requireNotNegative b_S_requireNotNegative 3 (Option.none : Option Jvm.ClassFile.FieldType) :: gw
theorem gi_S_requireNotNegative : GoodIn gw w_S_requireNotNegative := gw_in kw_317
abbrev b_S_requirePatterns : ByteArray := prog_1_method_21_code
def y_S_requirePatterns : MethodName := ⟨R_S, "requirePatterns", "(I)V"⟩
def w_S_requirePatterns : List Cond := .code y_S_requirePatterns b_S_requirePatterns 2 (Option.none : Option Jvm.ClassFile.FieldType) :: gw
theorem gi_S_requirePatterns : GoodIn gw w_S_requirePatterns := gw_in kw_462
abbrev b_S_requireLine : ByteArray := prog_1_method_22_code
def y_S_requireLine : MethodName := ⟨R_S, "requireLine", "(I)V"⟩
def w_S_requireLine : List Cond := .code y_S_requireLine b_S_requireLine 2 (Option.none : Option Jvm.ClassFile.FieldType) :: gw
theorem gi_S_requireLine : GoodIn gw w_S_requireLine := gw_in kw_370
abbrev b_S_requireFault : ByteArray := prog_1_method_23_code
def y_S_requireFault : MethodName := ⟨R_S, "requireFault", "(I)V"⟩
def w_S_requireFault : List Cond := .code y_S_requireFault b_S_requireFault 2 (Option.none : Option Jvm.ClassFile.FieldType) :: gw
theorem gi_S_requireFault : GoodIn gw w_S_requireFault := gw_in kw_423
abbrev b_S_requireFaultOrNone : ByteArray := prog_1_method_24_code
def y_S_requireFaultOrNone : MethodName := ⟨R_S, "requireFaultOrNone", "(I)V"⟩
def w_S_requireFaultOrNone : List Cond := .code y_S_requireFaultOrNone b_S_requireFaultOrNone 2 (Option.none : Option Jvm.ClassFile.FieldType) :: gw
theorem gi_S_requireFaultOrNone : GoodIn gw w_S_requireFaultOrNone := gw_in kw_419
abbrev b_S_patternOf : ByteArray := prog_1_method_25_code
def y_S_patternOf : MethodName := ⟨R_S, "patternOf", "(J)I"⟩
def w_S_patternOf : List Cond := .code y_S_patternOf b_S_patternOf 5 (Option.some Jvm.ClassFile.FieldType.int) :: gw
theorem gi_S_patternOf : GoodIn gw w_S_patternOf := gw_in kw_196
abbrev b_S_compareAllFaults : ByteArray := prog_1_method_26_code
def y_S_compareAllFaults : MethodName := ⟨R_S, "compareAllFaults", "(I)V"⟩
def w_S_compareAllFaults : List Cond := .code y_S_compareAllFaults b_S_compareAllFaults 5 (Option.none : Option Jvm.ClassFile.FieldType) :: gw
theorem gi_S_compareAllFaults : GoodIn gw w_S_compareAllFaults := gw_in kw_476
abbrev b_S_lowestBit : ByteArray := prog_1_method_27_code
def y_S_lowestBit : MethodName := ⟨R_S, "lowestBit", "(J)I"⟩
def w_S_lowestBit : List Cond := .code y_S_lowestBit b_S_lowestBit 2 (Option.some Jvm.ClassFile.FieldType.int) :: gw
theorem gi_S_lowestBit : GoodIn gw w_S_lowestBit := gw_in kw_507
abbrev b_O_init : ByteArray := prog_6_method_1_code
def y_O_init : MethodName := ⟨R_O, "<init>", "()V"⟩
def w_O_init : List Cond := .code y_O_init b_O_init 1 (Option.none : Option Jvm.ClassFile.FieldType) :: gw
theorem gi_O_init : GoodIn gw w_O_init := gw_in kw_525
abbrev b_O_thrown : ByteArray := prog_6_method_2_code
def y_O_thrown : MethodName := ⟨R_O, "thrown", "()I"⟩
def w_O_thrown : List Cond := .code y_O_thrown b_O_thrown 1 (Option.some Jvm.ClassFile.FieldType.int) :: gw
theorem gi_O_thrown : GoodIn gw w_O_thrown := gw_in kw_583
abbrev b_O_refused : ByteArray := prog_6_method_3_code
def y_O_refused : MethodName := ⟨R_O, "refused", "(I)Z"⟩
def w_O_refused : List Cond := .code y_O_refused b_O_refused 2 (Option.some Jvm.ClassFile.FieldType.boolean) :: gw
theorem gi_O_refused : GoodIn gw w_O_refused := gw_in kw_591
abbrev b_O_clearCircuit : ByteArray := prog_6_method_4_code
def y_O_clearCircuit : MethodName := ⟨R_O, "clearCircuit", "()V"⟩
def w_O_clearCircuit : List Cond := .code y_O_clearCircuit b_O_clearCircuit 1 (Option.none : Option Jvm.ClassFile.FieldType) :: gw
theorem gi_O_clearCircuit : GoodIn gw w_O_clearCircuit := gw_in kw_595
abbrev b_O_polynomial : ByteArray := prog_6_method_5_code
def y_O_polynomial : MethodName := ⟨R_O, "polynomial", "(J)I"⟩
def w_O_polynomial : List Cond := .code y_O_polynomial b_O_polynomial 5 (Option.some Jvm.ClassFile.FieldType.int) :: gw
theorem gi_O_polynomial : GoodIn gw w_O_polynomial := gw_in kw_587
abbrev b_O_isResidue : ByteArray := prog_6_method_6_code
def y_O_isResidue : MethodName := ⟨R_O, "isResidue", "(J)Z"⟩
def w_O_isResidue : List Cond := .code y_O_isResidue b_O_isResidue 3 (Option.some Jvm.ClassFile.FieldType.boolean) :: gw
theorem gi_O_isResidue : GoodIn gw w_O_isResidue := gw_in kw_603
abbrev b_O_step : ByteArray := prog_6_method_7_code
def y_O_step : MethodName := ⟨R_O, "step", "(J)J"⟩
def w_O_step : List Cond := .code y_O_step b_O_step 5 (Option.some Jvm.ClassFile.FieldType.long) :: gw
theorem gi_O_step : GoodIn gw w_O_step := gw_in kw_611
abbrev b_O_product : ByteArray := prog_6_method_8_code
def y_O_product : MethodName := ⟨R_O, "product", "(JJ)J"⟩
def w_O_product : List Cond := .code y_O_product b_O_product 8 (Option.some Jvm.ClassFile.FieldType.long) :: gw
theorem gi_O_product : GoodIn gw w_O_product := gw_in kw_607
abbrev b_O_raised : ByteArray := prog_6_method_9_code
def y_O_raised : MethodName := ⟨R_O, "raised", "(JJ)J"⟩
def w_O_raised : List Cond := .code y_O_raised b_O_raised 8 (Option.some Jvm.ClassFile.FieldType.long) :: gw
theorem gi_O_raised : GoodIn gw w_O_raised := gw_in kw_620
abbrev b_O_left : ByteArray := prog_6_method_10_code
def y_O_left : MethodName := ⟨R_O, "left", "(JJI)J"⟩
def w_O_left : List Cond := .code y_O_left b_O_left 8 (Option.some Jvm.ClassFile.FieldType.long) :: gw
theorem gi_O_left : GoodIn gw w_O_left := gw_in kw_627
abbrev b_O_reduced : ByteArray := prog_6_method_11_code
def y_O_reduced : MethodName := ⟨R_O, "reduced", "(J)J"⟩
def w_O_reduced : List Cond := .code y_O_reduced b_O_reduced 3 (Option.some Jvm.ClassFile.FieldType.long) :: gw
theorem gi_O_reduced : GoodIn gw w_O_reduced := gw_in kw_624
abbrev b_O_times : ByteArray := prog_6_method_12_code
def y_O_times : MethodName := ⟨R_O, "times", "(JJ)J"⟩
def w_O_times : List Cond := .code y_O_times b_O_times 5 (Option.some Jvm.ClassFile.FieldType.long) :: gw
theorem gi_O_times : GoodIn gw w_O_times := gw_in kw_599
abbrev b_O_power : ByteArray := prog_6_method_13_code
def y_O_power : MethodName := ⟨R_O, "power", "(JJ)J"⟩
def w_O_power : List Cond := .code y_O_power b_O_power 5 (Option.some Jvm.ClassFile.FieldType.long) :: gw
theorem gi_O_power : GoodIn gw w_O_power := gw_in kw_616
abbrev b_O_residue : ByteArray := prog_6_method_14_code
def y_O_residue : MethodName := ⟨R_O, "residue", "(J)J"⟩
def w_O_residue : List Cond := .code y_O_residue b_O_residue 3 (Option.some Jvm.ClassFile.FieldType.long) :: gw
theorem gi_O_residue : GoodIn gw w_O_residue := gw_in kw_631
abbrev b_O_isProduct : ByteArray := prog_6_method_15_code
def y_O_isProduct : MethodName := ⟨R_O, "isProduct", "()Z"⟩
def w_O_isProduct : List Cond := .code y_O_isProduct b_O_isProduct 7 (Option.some Jvm.ClassFile.FieldType.boolean) :: gw
theorem gi_O_isProduct : GoodIn gw w_O_isProduct := gw_in kw_639
abbrev b_O_irreducible : ByteArray := prog_6_method_16_code
def y_O_irreducible : MethodName := ⟨R_O, "irreducible", "()Z"⟩
def w_O_irreducible : List Cond := .code y_O_irreducible b_O_irreducible 1 (Option.some Jvm.ClassFile.FieldType.boolean) :: gw
theorem gi_O_irreducible : GoodIn gw w_O_irreducible := gw_in kw_635
abbrev b_O_primitive : ByteArray := prog_6_method_17_code
def y_O_primitive : MethodName := ⟨R_O, "primitive", "()Z"⟩
def w_O_primitive : List Cond := .code y_O_primitive b_O_primitive 10 (Option.some Jvm.ClassFile.FieldType.boolean) :: gw
theorem gi_O_primitive : GoodIn gw w_O_primitive := gw_in kw_643
abbrev b_O_order : ByteArray := prog_6_method_18_code
def y_O_order : MethodName := ⟨R_O, "order", "()J"⟩
def w_O_order : List Cond := .code y_O_order b_O_order 3 (Option.some Jvm.ClassFile.FieldType.long) :: gw
theorem gi_O_order : GoodIn gw w_O_order := gw_in kw_647
abbrev b_O_load : ByteArray := prog_6_method_19_code
def y_O_load : MethodName := ⟨R_O, "load", "(J)J"⟩
def w_O_load : List Cond := .code y_O_load b_O_load 5 (Option.some Jvm.ClassFile.FieldType.long) :: gw
theorem gi_O_load : GoodIn gw w_O_load := gw_in kw_652
abbrev b_O_steps : ByteArray := prog_6_method_20_code
def y_O_steps : MethodName := ⟨R_O, "steps", "(J)J"⟩
def w_O_steps : List Cond := .code y_O_steps b_O_steps 3 (Option.some Jvm.ClassFile.FieldType.long) :: gw
theorem gi_O_steps : GoodIn gw w_O_steps := gw_in kw_656
abbrev b_O_channel : ByteArray := prog_6_method_21_code
def y_O_channel : MethodName := ⟨R_O, "channel", "(J)I"⟩
def w_O_channel : List Cond := .code y_O_channel b_O_channel 3 (Option.some Jvm.ClassFile.FieldType.int) :: gw
theorem gi_O_channel : GoodIn gw w_O_channel := gw_in kw_660
abbrev b_O_patternOf : ByteArray := prog_6_method_22_code
def y_O_patternOf : MethodName := ⟨R_O, "patternOf", "(J)I"⟩
def w_O_patternOf : List Cond := .code y_O_patternOf b_O_patternOf 9 (Option.some Jvm.ClassFile.FieldType.int) :: gw
theorem gi_O_patternOf : GoodIn gw w_O_patternOf := gw_in kw_668
abbrev b_O_pattern : ByteArray := prog_6_method_23_code
def y_O_pattern : MethodName := ⟨R_O, "pattern", "()I"⟩
def w_O_pattern : List Cond := .code y_O_pattern b_O_pattern 1 (Option.some Jvm.ClassFile.FieldType.int) :: gw
theorem gi_O_pattern : GoodIn gw w_O_pattern := gw_in kw_664
abbrev b_O_isLine : ByteArray := prog_6_method_24_code
def y_O_isLine : MethodName := ⟨R_O, "isLine", "(I)Z"⟩
def w_O_isLine : List Cond := .code y_O_isLine b_O_isLine 2 (Option.some Jvm.ClassFile.FieldType.boolean) :: gw
theorem gi_O_isLine : GoodIn gw w_O_isLine := gw_in kw_676
abbrev b_O_gate : ByteArray := prog_6_method_25_code
def y_O_gate : MethodName := ⟨R_O, "gate", "(III)I"⟩
def w_O_gate : List Cond := .code y_O_gate b_O_gate 5 (Option.some Jvm.ClassFile.FieldType.int) :: gw
theorem gi_O_gate : GoodIn gw w_O_gate := gw_in kw_672
abbrev b_O_output : ByteArray := prog_6_method_26_code
def y_O_output : MethodName := ⟨R_O, "output", "(I)I"⟩
def w_O_output : List Cond := .code y_O_output b_O_output 2 (Option.some Jvm.ClassFile.FieldType.int) :: gw
theorem gi_O_output : GoodIn gw w_O_output := gw_in kw_680
abbrev b_O_worth : ByteArray := prog_6_method_27_code
def y_O_worth : MethodName := ⟨R_O, "worth", "(III)I"⟩
def w_O_worth : List Cond := .code y_O_worth b_O_worth 3 (Option.some Jvm.ClassFile.FieldType.int) :: gw
theorem gi_O_worth : GoodIn gw w_O_worth := gw_in kw_695
abbrev b_O_answerTo : ByteArray := prog_6_method_28_code
def y_O_answerTo : MethodName := ⟨R_O, "answerTo", "(II)I"⟩
def w_O_answerTo : List Cond := .code y_O_answerTo b_O_answerTo 5 (Option.some Jvm.ClassFile.FieldType.int) :: gw
theorem gi_O_answerTo : GoodIn gw w_O_answerTo := gw_in kw_692
abbrev b_O_isFault : ByteArray := prog_6_method_29_code
def y_O_isFault : MethodName := ⟨R_O, "isFault", "(I)Z"⟩
def w_O_isFault : List Cond := .code y_O_isFault b_O_isFault 2 (Option.some Jvm.ClassFile.FieldType.boolean) :: gw
theorem gi_O_isFault : GoodIn gw w_O_isFault := gw_in kw_688
abbrev b_O_answer : ByteArray := prog_6_method_30_code
def y_O_answer : MethodName := ⟨R_O, "answer", "(II)I"⟩
def w_O_answer : List Cond := .code y_O_answer b_O_answer 3 (Option.some Jvm.ClassFile.FieldType.int) :: gw
theorem gi_O_answer : GoodIn gw w_O_answer := gw_in kw_684
abbrev b_O_prepare : ByteArray := prog_6_method_31_code
def y_O_prepare : MethodName := ⟨R_O, "prepare", "(I)V"⟩
def w_O_prepare : List Cond := .code y_O_prepare b_O_prepare 5 (Option.none : Option Jvm.ClassFile.FieldType) :: gw
theorem gi_O_prepare : GoodIn gw w_O_prepare := gw_in kw_706
abbrev b_O_signature : ByteArray := prog_6_method_32_code
def y_O_signature : MethodName := ⟨R_O, "signature", "(II)J"⟩
def w_O_signature : List Cond := .code y_O_signature b_O_signature 6 (Option.some Jvm.ClassFile.FieldType.long) :: gw
theorem gi_O_signature : GoodIn gw w_O_signature := gw_in kw_710
abbrev b_O_firstSeen : ByteArray := prog_6_method_33_code
def y_O_firstSeen : MethodName := ⟨R_O, "firstSeen", "(II)I"⟩
def w_O_firstSeen : List Cond := .code y_O_firstSeen b_O_firstSeen 4 (Option.some Jvm.ClassFile.FieldType.int) :: gw
theorem gi_O_firstSeen : GoodIn gw w_O_firstSeen := gw_in kw_718
abbrev b_O_isCount : ByteArray := prog_6_method_34_code
def y_O_isCount : MethodName := ⟨R_O, "isCount", "(I)Z"⟩
def w_O_isCount : List Cond := .code y_O_isCount b_O_isCount 1 (Option.some Jvm.ClassFile.FieldType.boolean) :: gw
theorem gi_O_isCount : GoodIn gw w_O_isCount := gw_in kw_702
abbrev b_O_session : ByteArray := prog_6_method_35_code
def y_O_session : MethodName := ⟨R_O, "session", "(II)J"⟩
def w_O_session : List Cond := .code y_O_session b_O_session 4 (Option.some Jvm.ClassFile.FieldType.long) :: gw
theorem gi_O_session : GoodIn gw w_O_session := gw_in kw_699
abbrev b_O_faults : ByteArray := prog_6_method_36_code
def y_O_faults : MethodName := ⟨R_O, "faults", "(II)I"⟩
def w_O_faults : List Cond := .code y_O_faults b_O_faults 12 (Option.some Jvm.ClassFile.FieldType.int) :: gw
theorem gi_O_faults : GoodIn gw w_O_faults := gw_in kw_714
abbrev b_O_first : ByteArray := prog_6_method_37_code
def y_O_first : MethodName := ⟨R_O, "first", "(II)I"⟩
def w_O_first : List Cond := .code y_O_first b_O_first 3 (Option.some Jvm.ClassFile.FieldType.int) :: gw
theorem gi_O_first : GoodIn gw w_O_first := gw_in kw_722
abbrev b_C_init : ByteArray := prog_2_method_1_code
def y_C_init : MethodName := ⟨R_C, "<init>", "()V"⟩
def w_C_init : List Cond := .code y_C_init b_C_init 1 (Option.none : Option Jvm.ClassFile.FieldType) :: gw
theorem gi_C_init : GoodIn gw w_C_init := gw_in kw_47
abbrev b_C_restart : ByteArray := prog_2_method_2_code
def y_C_restart : MethodName := ⟨R_C, "restart", "(I)V"⟩
def w_C_restart : List Cond := .code y_C_restart b_C_restart 2 (Option.none : Option Jvm.ClassFile.FieldType) :: gw
theorem gi_C_restart : GoodIn gw w_C_restart := gw_in kw_289
abbrev b_C_countLines : ByteArray := prog_2_method_3_code
def y_C_countLines : MethodName := ⟨R_C, "countLines", "()I"⟩
def w_C_countLines : List Cond := .code y_C_countLines b_C_countLines 1 (Option.some Jvm.ClassFile.FieldType.int) :: gw
theorem gi_C_countLines : GoodIn gw w_C_countLines := gw_in kw_374
abbrev b_C_countFaults : ByteArray := prog_2_method_4_code
def y_C_countFaults : MethodName := ⟨R_C, "countFaults", "()I"⟩
def w_C_countFaults : List Cond := .code y_C_countFaults b_C_countFaults 1 (Option.some Jvm.ClassFile.FieldType.int) :: gw
theorem gi_C_countFaults : GoodIn gw w_C_countFaults := gw_in kw_427
abbrev b_C_addGate : ByteArray := prog_2_method_5_code
def y_C_addGate : MethodName := ⟨R_C, "addGate", "(III)I"⟩
def w_C_addGate : List Cond := .code y_C_addGate b_C_addGate 5 (Option.some Jvm.ClassFile.FieldType.int) :: gw
theorem gi_C_addGate : GoodIn gw w_C_addGate := gw_in kw_395
abbrev b_C_addOutput : ByteArray := prog_2_method_6_code
def y_C_addOutput : MethodName := ⟨R_C, "addOutput", "(I)I"⟩
def w_C_addOutput : List Cond := .code y_C_addOutput b_C_addOutput 2 (Option.some Jvm.ClassFile.FieldType.int) :: gw
theorem gi_C_addOutput : GoodIn gw w_C_addOutput := gw_in kw_408
abbrev b_C_answerTo : ByteArray := prog_2_method_7_code
def y_C_answerTo : MethodName := ⟨R_C, "answerTo", "(II)I"⟩
def w_C_answerTo : List Cond := .code y_C_answerTo b_C_answerTo 6 (Option.some Jvm.ClassFile.FieldType.int) :: gw
theorem gi_C_answerTo : GoodIn gw w_C_answerTo := gw_in kw_432
abbrev b_C_valuesOfOutput : ByteArray := prog_2_method_8_code
def y_C_valuesOfOutput : MethodName := ⟨R_C, "valuesOfOutput", "(I)J"⟩
def w_C_valuesOfOutput : List Cond := .code y_C_valuesOfOutput b_C_valuesOfOutput 2 (Option.some Jvm.ClassFile.FieldType.long) :: gw
theorem gi_C_valuesOfOutput : GoodIn gw w_C_valuesOfOutput := gw_in kw_451
abbrev b_C_settle : ByteArray := prog_2_method_9_code
def y_C_settle : MethodName := ⟨R_C, "settle", "(IZ)V"⟩
def w_C_settle : List Cond := .code y_C_settle b_C_settle 7 (Option.none : Option Jvm.ClassFile.FieldType) :: gw
theorem gi_C_settle : GoodIn gw w_C_settle := gw_in kw_436
abbrev b_C_valuesOfGate : ByteArray := prog_2_method_10_code
def y_C_valuesOfGate : MethodName := ⟨R_C, "valuesOfGate", "(I)J"⟩
def w_C_valuesOfGate : List Cond := .code y_C_valuesOfGate b_C_valuesOfGate 6 (Option.some Jvm.ClassFile.FieldType.long) :: gw
theorem gi_C_valuesOfGate : GoodIn gw w_C_valuesOfGate := gw_in kw_443
abbrev b_C_withStuck : ByteArray := prog_2_method_11_code
def y_C_withStuck : MethodName := ⟨R_C, "withStuck", "(JI)J"⟩
def w_C_withStuck : List Cond := .code y_C_withStuck b_C_withStuck 7 (Option.some Jvm.ClassFile.FieldType.long) :: gw
theorem gi_C_withStuck : GoodIn gw w_C_withStuck := gw_in kw_447
abbrev b_C_spread : ByteArray := prog_2_method_12_code
def y_C_spread : MethodName := ⟨R_C, "spread", "(I)J"⟩
def w_C_spread : List Cond := .code y_C_spread b_C_spread 1 (Option.some Jvm.ClassFile.FieldType.long) :: gw
theorem gi_C_spread : GoodIn gw w_C_spread := gw_in kw_439
abbrev b_D_init : ByteArray := prog_3_method_1_code
def y_D_init : MethodName := ⟨R_D, "<init>", "()V"⟩
def w_D_init : List Cond := .code y_D_init b_D_init 1 (Option.none : Option Jvm.ClassFile.FieldType) :: gw
theorem gi_D_init : GoodIn gw w_D_init := gw_in kw_84
abbrev b_D_clear : ByteArray := prog_3_method_2_code
def y_D_clear : MethodName := ⟨R_D, "clear", "()V"⟩
def w_D_clear : List Cond := .code y_D_clear b_D_clear 2 (Option.none : Option Jvm.ClassFile.FieldType) :: gw
theorem gi_D_clear : GoodIn gw w_D_clear := gw_in kw_480
abbrev b_D_timesX : ByteArray := prog_3_method_3_code
def y_D_timesX : MethodName := ⟨R_D, "timesX", "()V"⟩
def w_D_timesX : List Cond := .code y_D_timesX b_D_timesX 2 (Option.none : Option Jvm.ClassFile.FieldType) :: gw
theorem gi_D_timesX : GoodIn gw w_D_timesX := gw_in kw_484
abbrev b_D_addAnswers : ByteArray := prog_3_method_4_code
def y_D_addAnswers : MethodName := ⟨R_D, "addAnswers", "(LShiftSignatures$Circuit;I)V"⟩
def w_D_addAnswers : List Cond := .code y_D_addAnswers b_D_addAnswers 7 (Option.none : Option Jvm.ClassFile.FieldType) :: gw
theorem gi_D_addAnswers : GoodIn gw w_D_addAnswers := gw_in kw_488
abbrev b_D_reduce : ByteArray := prog_3_method_5_code
def y_D_reduce : MethodName := ⟨R_D, "reduce", "(LShiftSignatures$Modulus;)V"⟩
def w_D_reduce : List Cond := .code y_D_reduce b_D_reduce 5 (Option.none : Option Jvm.ClassFile.FieldType) :: gw
theorem gi_D_reduce : GoodIn gw w_D_reduce := gw_in kw_496
abbrev b_D_subtract : ByteArray := prog_3_method_6_code
def y_D_subtract : MethodName := ⟨R_D, "subtract", "(JJI)V"⟩
def w_D_subtract : List Cond := .code y_D_subtract b_D_subtract 7 (Option.none : Option Jvm.ClassFile.FieldType) :: gw
theorem gi_D_subtract : GoodIn gw w_D_subtract := gw_in kw_500
abbrev b_D_found : ByteArray := prog_3_method_7_code
def y_D_found : MethodName := ⟨R_D, "found", "()J"⟩
def w_D_found : List Cond := .code y_D_found b_D_found 4 (Option.some Jvm.ClassFile.FieldType.long) :: gw
theorem gi_D_found : GoodIn gw w_D_found := gw_in kw_504
abbrev b_M_init : ByteArray := prog_4_method_1_code
def y_M_init : MethodName := ⟨R_M, "<init>", "()V"⟩
def w_M_init : List Cond := .code y_M_init b_M_init 1 (Option.none : Option Jvm.ClassFile.FieldType) :: gw
theorem gi_M_init : GoodIn gw w_M_init := gw_in kw_26
abbrev b_M_become : ByteArray := prog_4_method_2_code
def y_M_become : MethodName := ⟨R_M, "become", "(J)V"⟩
def w_M_become : List Cond := .code y_M_become b_M_become 3 (Option.none : Option Jvm.ClassFile.FieldType) :: gw
theorem gi_M_become : GoodIn gw w_M_become := gw_in kw_283
abbrev b_M_hasResidue : ByteArray := prog_4_method_3_code
def y_M_hasResidue : MethodName := ⟨R_M, "hasResidue", "(J)Z"⟩
def w_M_hasResidue : List Cond := .code y_M_hasResidue b_M_hasResidue 3 (Option.some Jvm.ClassFile.FieldType.boolean) :: gw
theorem gi_M_hasResidue : GoodIn gw w_M_hasResidue := gw_in kw_304
abbrev b_M_reduced : ByteArray := prog_4_method_4_code
def y_M_reduced : MethodName := ⟨R_M, "reduced", "(J)J"⟩
def w_M_reduced : List Cond := .code y_M_reduced b_M_reduced 3 (Option.some Jvm.ClassFile.FieldType.long) :: gw
theorem gi_M_reduced : GoodIn gw w_M_reduced := gw_in kw_117
abbrev b_M_stepped : ByteArray := prog_4_method_5_code
def y_M_stepped : MethodName := ⟨R_M, "stepped", "(J)J"⟩
def w_M_stepped : List Cond := .code y_M_stepped b_M_stepped 5 (Option.some Jvm.ClassFile.FieldType.long) :: gw
theorem gi_M_stepped : GoodIn gw w_M_stepped := gw_in kw_146
abbrev b_M_product : ByteArray := prog_4_method_6_code
def y_M_product : MethodName := ⟨R_M, "product", "(JJ)J"⟩
def w_M_product : List Cond := .code y_M_product b_M_product 8 (Option.some Jvm.ClassFile.FieldType.long) :: gw
theorem gi_M_product : GoodIn gw w_M_product := gw_in kw_142
abbrev b_M_raised : ByteArray := prog_4_method_7_code
def y_M_raised : MethodName := ⟨R_M, "raised", "(JJ)J"⟩
def w_M_raised : List Cond := .code y_M_raised b_M_raised 10 (Option.some Jvm.ClassFile.FieldType.long) :: gw
theorem gi_M_raised : GoodIn gw w_M_raised := gw_in kw_161
abbrev b_M_isIrreducible : ByteArray := prog_4_method_8_code
def y_M_isIrreducible : MethodName := ⟨R_M, "isIrreducible", "()Z"⟩
def w_M_isIrreducible : List Cond := .code y_M_isIrreducible b_M_isIrreducible 4 (Option.some Jvm.ClassFile.FieldType.boolean) :: gw
theorem gi_M_isIrreducible : GoodIn gw w_M_isIrreducible := gw_in kw_138
abbrev b_M_isPrimitive : ByteArray := prog_4_method_9_code
def y_M_isPrimitive : MethodName := ⟨R_M, "isPrimitive", "()Z"⟩
def w_M_isPrimitive : List Cond := .code y_M_isPrimitive b_M_isPrimitive 3 (Option.some Jvm.ClassFile.FieldType.boolean) :: gw
theorem gi_M_isPrimitive : GoodIn gw w_M_isPrimitive := gw_in kw_157
abbrev b_M_multipleOfOrder : ByteArray := prog_4_method_10_code
def y_M_multipleOfOrder : MethodName := ⟨R_M, "multipleOfOrder", "()J"⟩
def w_M_multipleOfOrder : List Cond := .code y_M_multipleOfOrder b_M_multipleOfOrder 10 (Option.some Jvm.ClassFile.FieldType.long) :: gw
theorem gi_M_multipleOfOrder : GoodIn gw w_M_multipleOfOrder := gw_in kw_180
abbrev b_M_orderWithin : ByteArray := prog_4_method_11_code
def y_M_orderWithin : MethodName := ⟨R_M, "orderWithin", "(J)J"⟩
def w_M_orderWithin : List Cond := .code y_M_orderWithin b_M_orderWithin 10 (Option.some Jvm.ClassFile.FieldType.long) :: gw
theorem gi_M_orderWithin : GoodIn gw w_M_orderWithin := gw_in kw_165
abbrev b_M_withoutNeedless : ByteArray := prog_4_method_12_code
def y_M_withoutNeedless : MethodName := ⟨R_M, "withoutNeedless", "(JJ)J"⟩
def w_M_withoutNeedless : List Cond := .code y_M_withoutNeedless b_M_withoutNeedless 10 (Option.some Jvm.ClassFile.FieldType.long) :: gw
theorem gi_M_withoutNeedless : GoodIn gw w_M_withoutNeedless := gw_in kw_171
abbrev b_M_degreeOf : ByteArray := prog_4_method_13_code
def y_M_degreeOf : MethodName := ⟨R_M, "degreeOf", "(J)I"⟩
def w_M_degreeOf : List Cond := .code y_M_degreeOf b_M_degreeOf 2 (Option.some Jvm.ClassFile.FieldType.int) :: gw
theorem gi_M_degreeOf : GoodIn gw w_M_degreeOf := gw_in kw_123
abbrev b_M_remainder : ByteArray := prog_4_method_14_code
def y_M_remainder : MethodName := ⟨R_M, "remainder", "(JJ)J"⟩
def w_M_remainder : List Cond := .code y_M_remainder b_M_remainder 8 (Option.some Jvm.ClassFile.FieldType.long) :: gw
theorem gi_M_remainder : GoodIn gw w_M_remainder := gw_in kw_120
abbrev b_M_quotient : ByteArray := prog_4_method_15_code
def y_M_quotient : MethodName := ⟨R_M, "quotient", "(JJ)J"⟩
def w_M_quotient : List Cond := .code y_M_quotient b_M_quotient 10 (Option.some Jvm.ClassFile.FieldType.long) :: gw
theorem gi_M_quotient : GoodIn gw w_M_quotient := gw_in kw_187
abbrev b_M_commonDivisor : ByteArray := prog_4_method_16_code
def y_M_commonDivisor : MethodName := ⟨R_M, "commonDivisor", "(JJ)J"⟩
def w_M_commonDivisor : List Cond := .code y_M_commonDivisor b_M_commonDivisor 11 (Option.some Jvm.ClassFile.FieldType.long) :: gw
theorem gi_M_commonDivisor : GoodIn gw w_M_commonDivisor := gw_in kw_149
abbrev b_M_without : ByteArray := prog_4_method_17_code
def y_M_without : MethodName := ⟨R_M, "without", "(JJ)J"⟩
def w_M_without : List Cond := .code y_M_without b_M_without 9 (Option.some Jvm.ClassFile.FieldType.long) :: gw
theorem gi_M_without : GoodIn gw w_M_without := gw_in kw_184
abbrev b_L_polynomial : ByteArray := method_3_code
def y_L_polynomial : MethodName := ⟨R_L, "polynomial", "(LShiftSignatures;J[J)I"⟩
def w_L_polynomial : List Cond := .codeWith y_L_polynomial b_L_polynomial 5 (Option.some Jvm.ClassFile.FieldType.int) [((0 : Nat), (9 : Nat), (12 : Nat), (13 : Nat))] :: gw
theorem gi_L_polynomial : GoodIn gw w_L_polynomial := gw_in kw_205
abbrev b_L_times : ByteArray := method_4_code
def y_L_times : MethodName := ⟨R_L, "times", "(LShiftSignatures;JJ[J)I"⟩
def w_L_times : List Cond := .codeWith y_L_times b_L_times 7 (Option.some Jvm.ClassFile.FieldType.int) [((0 : Nat), (10 : Nat), (13 : Nat), (13 : Nat))] :: gw
theorem gi_L_times : GoodIn gw w_L_times := gw_in kw_292
abbrev b_L_power : ByteArray := method_5_code
def y_L_power : MethodName := ⟨R_L, "power", "(LShiftSignatures;JJ[J)I"⟩
def w_L_power : List Cond := .codeWith y_L_power b_L_power 7 (Option.some Jvm.ClassFile.FieldType.int) [((0 : Nat), (10 : Nat), (13 : Nat), (13 : Nat))] :: gw
theorem gi_L_power : GoodIn gw w_L_power := gw_in kw_309
abbrev b_L_load : ByteArray := method_6_code
def y_L_load : MethodName := ⟨R_L, "load", "(LShiftSignatures;J[J)I"⟩
def w_L_load : List Cond := .codeWith y_L_load b_L_load 5 (Option.some Jvm.ClassFile.FieldType.int) [((0 : Nat), (8 : Nat), (11 : Nat), (13 : Nat))] :: gw
theorem gi_L_load : GoodIn gw w_L_load := gw_in kw_322
abbrev b_L_steps : ByteArray := method_7_code
def y_L_steps : MethodName := ⟨R_L, "steps", "(LShiftSignatures;J[J)I"⟩
def w_L_steps : List Cond := .codeWith y_L_steps b_L_steps 5 (Option.some Jvm.ClassFile.FieldType.int) [((0 : Nat), (8 : Nat), (11 : Nat), (13 : Nat))] :: gw
theorem gi_L_steps : GoodIn gw w_L_steps := gw_in kw_329
abbrev b_L_channel : ByteArray := method_8_code
def y_L_channel : MethodName := ⟨R_L, "channel", "(LShiftSignatures;J[J)I"⟩
def w_L_channel : List Cond := .codeWith y_L_channel b_L_channel 5 (Option.some Jvm.ClassFile.FieldType.int) [((0 : Nat), (9 : Nat), (12 : Nat), (13 : Nat)), ((0 : Nat), (9 : Nat), (16 : Nat), (32 : Nat))] :: gw
theorem gi_L_channel : GoodIn gw w_L_channel := gw_in kw_336
abbrev b_L_gate : ByteArray := method_9_code
def y_L_gate : MethodName := ⟨R_L, "gate", "(LShiftSignatures;III[J)I"⟩
def w_L_gate : List Cond := .codeWith y_L_gate b_L_gate 6 (Option.some Jvm.ClassFile.FieldType.int) [((0 : Nat), (12 : Nat), (15 : Nat), (13 : Nat)), ((0 : Nat), (12 : Nat), (19 : Nat), (38 : Nat)), ((0 : Nat), (12 : Nat), (23 : Nat), (32 : Nat))] :: gw
theorem gi_L_gate : GoodIn gw w_L_gate := gw_in kw_360
abbrev b_L_output : ByteArray := method_10_code
def y_L_output : MethodName := ⟨R_L, "output", "(LShiftSignatures;I[J)I"⟩
def w_L_output : List Cond := .codeWith y_L_output b_L_output 4 (Option.some Jvm.ClassFile.FieldType.int) [((0 : Nat), (9 : Nat), (12 : Nat), (38 : Nat)), ((0 : Nat), (9 : Nat), (15 : Nat), (32 : Nat))] :: gw
theorem gi_L_output : GoodIn gw w_L_output := gw_in kw_399
abbrev b_L_answer : ByteArray := method_11_code
def y_L_answer : MethodName := ⟨R_L, "answer", "(LShiftSignatures;II[J)I"⟩
def w_L_answer : List Cond := .codeWith y_L_answer b_L_answer 5 (Option.some Jvm.ClassFile.FieldType.int) [((0 : Nat), (10 : Nat), (13 : Nat), (38 : Nat))] :: gw
theorem gi_L_answer : GoodIn gw w_L_answer := gw_in kw_411
abbrev b_L_session : ByteArray := method_12_code
def y_L_session : MethodName := ⟨R_L, "session", "(LShiftSignatures;II[J)I"⟩
def w_L_session : List Cond := .codeWith y_L_session b_L_session 5 (Option.some Jvm.ClassFile.FieldType.int) [((0 : Nat), (9 : Nat), (12 : Nat), (38 : Nat)), ((0 : Nat), (9 : Nat), (16 : Nat), (13 : Nat))] :: gw
theorem gi_L_session : GoodIn gw w_L_session := gw_in kw_454
abbrev b_L_faults : ByteArray := method_13_code
def y_L_faults : MethodName := ⟨R_L, "faults", "(LShiftSignatures;II[J)I"⟩
def w_L_faults : List Cond := .codeWith y_L_faults b_L_faults 5 (Option.some Jvm.ClassFile.FieldType.int) [((0 : Nat), (10 : Nat), (13 : Nat), (38 : Nat)), ((0 : Nat), (10 : Nat), (17 : Nat), (13 : Nat))] :: gw
theorem gi_L_faults : GoodIn gw w_L_faults := gw_in kw_467
abbrev b_L_first : ByteArray := method_14_code
def y_L_first : MethodName := ⟨R_L, "first", "(LShiftSignatures;II[J)I"⟩
def w_L_first : List Cond := .codeWith y_L_first b_L_first 5 (Option.some Jvm.ClassFile.FieldType.int) [((0 : Nat), (10 : Nat), (13 : Nat), (38 : Nat)), ((0 : Nat), (10 : Nat), (17 : Nat), (13 : Nat))] :: gw
theorem gi_L_first : GoodIn gw w_L_first := gw_in kw_516
abbrev b_L_law : ByteArray := code
def y_L_law : MethodName := ⟨R_L, "law", "([I)Z"⟩
abbrev b_JI_numberOfLeadingZeros : ByteArray := prog_11_method_47_code
def y_JI_numberOfLeadingZeros : MethodName := ⟨R_JI, "numberOfLeadingZeros", "(I)I"⟩
def w_JI_numberOfLeadingZeros : List Cond := .code y_JI_numberOfLeadingZeros b_JI_numberOfLeadingZeros 2 (Option.some Jvm.ClassFile.FieldType.int) :: gw
theorem gi_JI_numberOfLeadingZeros : GoodIn gw w_JI_numberOfLeadingZeros := gw_in kw_129
abbrev b_JI_numberOfTrailingZeros : ByteArray := prog_11_method_48_code
def y_JI_numberOfTrailingZeros : MethodName := ⟨R_JI, "numberOfTrailingZeros", "(I)I"⟩
def w_JI_numberOfTrailingZeros : List Cond := .code y_JI_numberOfTrailingZeros b_JI_numberOfTrailingZeros 2 (Option.some Jvm.ClassFile.FieldType.int) :: gw
theorem gi_JI_numberOfTrailingZeros : GoodIn gw w_JI_numberOfTrailingZeros := gw_in kw_513
abbrev b_JL_bitCount : ByteArray := prog_12_method_50_code
def y_JL_bitCount : MethodName := ⟨R_JL, "bitCount", "(J)I"⟩
def w_JL_bitCount : List Cond := .code y_JL_bitCount b_JL_bitCount 2 (Option.some Jvm.ClassFile.FieldType.int) :: gw
theorem gi_JL_bitCount : GoodIn gw w_JL_bitCount := gw_in kw_199
abbrev b_JL_numberOfLeadingZeros : ByteArray := prog_12_method_48_code
def y_JL_numberOfLeadingZeros : MethodName := ⟨R_JL, "numberOfLeadingZeros", "(J)I"⟩
def w_JL_numberOfLeadingZeros : List Cond := .code y_JL_numberOfLeadingZeros b_JL_numberOfLeadingZeros 3 (Option.some Jvm.ClassFile.FieldType.int) :: gw
theorem gi_JL_numberOfLeadingZeros : GoodIn gw w_JL_numberOfLeadingZeros := gw_in kw_126
abbrev b_JL_numberOfTrailingZeros : ByteArray := prog_12_method_49_code
def y_JL_numberOfTrailingZeros : MethodName := ⟨R_JL, "numberOfTrailingZeros", "(J)I"⟩
def w_JL_numberOfTrailingZeros : List Cond := .code y_JL_numberOfTrailingZeros b_JL_numberOfTrailingZeros 3 (Option.some Jvm.ClassFile.FieldType.int) :: gw
theorem gi_JL_numberOfTrailingZeros : GoodIn gw w_JL_numberOfTrailingZeros := gw_in kw_510
theorem ks_S_requireResidue : Cond.selects R_S y_S_requireResidue y_S_requireResidue ∈ gw := List.mem_filter.mpr ⟨List.mem_append_left _ (by decide +kernel), by decide +kernel⟩
theorem ks_S_requireNotNegative : Cond.selects R_S y_S_requireNotNegative y_S_requireNotNegative ∈ gw := List.mem_filter.mpr ⟨List.mem_append_left _ (by decide +kernel), by decide +kernel⟩
theorem ks_S_requirePatterns : Cond.selects R_S y_S_requirePatterns y_S_requirePatterns ∈ gw := List.mem_filter.mpr ⟨List.mem_append_left _ (by decide +kernel), by decide +kernel⟩
theorem ks_S_requireLine : Cond.selects R_S y_S_requireLine y_S_requireLine ∈ gw := List.mem_filter.mpr ⟨List.mem_append_left _ (by decide +kernel), by decide +kernel⟩
theorem ks_S_requireFault : Cond.selects R_S y_S_requireFault y_S_requireFault ∈ gw := List.mem_filter.mpr ⟨List.mem_append_left _ (by decide +kernel), by decide +kernel⟩
theorem ks_S_requireFaultOrNone : Cond.selects R_S y_S_requireFaultOrNone y_S_requireFaultOrNone ∈ gw := List.mem_filter.mpr ⟨List.mem_append_left _ (by decide +kernel), by decide +kernel⟩
theorem ks_S_patternOf : Cond.selects R_S y_S_patternOf y_S_patternOf ∈ gw := List.mem_filter.mpr ⟨List.mem_append_left _ (by decide +kernel), by decide +kernel⟩
theorem ks_S_compareAllFaults : Cond.selects R_S y_S_compareAllFaults y_S_compareAllFaults ∈ gw := List.mem_filter.mpr ⟨List.mem_append_left _ (by decide +kernel), by decide +kernel⟩
theorem ks_O_refused : Cond.selects R_O y_O_refused y_O_refused ∈ gw := List.mem_filter.mpr ⟨List.mem_append_left _ (by decide +kernel), by decide +kernel⟩
theorem ks_O_clearCircuit : Cond.selects R_O y_O_clearCircuit y_O_clearCircuit ∈ gw := List.mem_filter.mpr ⟨List.mem_append_left _ (by decide +kernel), by decide +kernel⟩
theorem ks_O_isResidue : Cond.selects R_O y_O_isResidue y_O_isResidue ∈ gw := List.mem_filter.mpr ⟨List.mem_append_left _ (by decide +kernel), by decide +kernel⟩
theorem ks_O_step : Cond.selects R_O y_O_step y_O_step ∈ gw := List.mem_filter.mpr ⟨List.mem_append_left _ (by decide +kernel), by decide +kernel⟩
theorem ks_O_product : Cond.selects R_O y_O_product y_O_product ∈ gw := List.mem_filter.mpr ⟨List.mem_append_left _ (by decide +kernel), by decide +kernel⟩
theorem ks_O_raised : Cond.selects R_O y_O_raised y_O_raised ∈ gw := List.mem_filter.mpr ⟨List.mem_append_left _ (by decide +kernel), by decide +kernel⟩
theorem ks_O_reduced : Cond.selects R_O y_O_reduced y_O_reduced ∈ gw := List.mem_filter.mpr ⟨List.mem_append_left _ (by decide +kernel), by decide +kernel⟩
theorem ks_O_isProduct : Cond.selects R_O y_O_isProduct y_O_isProduct ∈ gw := List.mem_filter.mpr ⟨List.mem_append_left _ (by decide +kernel), by decide +kernel⟩
theorem ks_O_patternOf : Cond.selects R_O y_O_patternOf y_O_patternOf ∈ gw := List.mem_filter.mpr ⟨List.mem_append_left _ (by decide +kernel), by decide +kernel⟩
theorem ks_O_isLine : Cond.selects R_O y_O_isLine y_O_isLine ∈ gw := List.mem_filter.mpr ⟨List.mem_append_left _ (by decide +kernel), by decide +kernel⟩
theorem ks_O_answerTo : Cond.selects R_O y_O_answerTo y_O_answerTo ∈ gw := List.mem_filter.mpr ⟨List.mem_append_left _ (by decide +kernel), by decide +kernel⟩
theorem ks_O_isFault : Cond.selects R_O y_O_isFault y_O_isFault ∈ gw := List.mem_filter.mpr ⟨List.mem_append_left _ (by decide +kernel), by decide +kernel⟩
theorem ks_O_prepare : Cond.selects R_O y_O_prepare y_O_prepare ∈ gw := List.mem_filter.mpr ⟨List.mem_append_left _ (by decide +kernel), by decide +kernel⟩
theorem ks_O_signature : Cond.selects R_O y_O_signature y_O_signature ∈ gw := List.mem_filter.mpr ⟨List.mem_append_left _ (by decide +kernel), by decide +kernel⟩
theorem ks_O_firstSeen : Cond.selects R_O y_O_firstSeen y_O_firstSeen ∈ gw := List.mem_filter.mpr ⟨List.mem_append_left _ (by decide +kernel), by decide +kernel⟩
theorem ks_C_restart : Cond.selects R_C y_C_restart y_C_restart ∈ gw := List.mem_filter.mpr ⟨List.mem_append_left _ (by decide +kernel), by decide +kernel⟩
theorem ks_C_countLines : Cond.selects R_C y_C_countLines y_C_countLines ∈ gw := List.mem_filter.mpr ⟨List.mem_append_left _ (by decide +kernel), by decide +kernel⟩
theorem ks_C_countFaults : Cond.selects R_C y_C_countFaults y_C_countFaults ∈ gw := List.mem_filter.mpr ⟨List.mem_append_left _ (by decide +kernel), by decide +kernel⟩
theorem ks_C_addGate : Cond.selects R_C y_C_addGate y_C_addGate ∈ gw := List.mem_filter.mpr ⟨List.mem_append_left _ (by decide +kernel), by decide +kernel⟩
theorem ks_C_addOutput : Cond.selects R_C y_C_addOutput y_C_addOutput ∈ gw := List.mem_filter.mpr ⟨List.mem_append_left _ (by decide +kernel), by decide +kernel⟩
theorem ks_C_answerTo : Cond.selects R_C y_C_answerTo y_C_answerTo ∈ gw := List.mem_filter.mpr ⟨List.mem_append_left _ (by decide +kernel), by decide +kernel⟩
theorem ks_C_valuesOfOutput : Cond.selects R_C y_C_valuesOfOutput y_C_valuesOfOutput ∈ gw := List.mem_filter.mpr ⟨List.mem_append_left _ (by decide +kernel), by decide +kernel⟩
theorem ks_C_settle : Cond.selects R_C y_C_settle y_C_settle ∈ gw := List.mem_filter.mpr ⟨List.mem_append_left _ (by decide +kernel), by decide +kernel⟩
theorem ks_C_valuesOfGate : Cond.selects R_C y_C_valuesOfGate y_C_valuesOfGate ∈ gw := List.mem_filter.mpr ⟨List.mem_append_left _ (by decide +kernel), by decide +kernel⟩
theorem ks_D_clear : Cond.selects R_D y_D_clear y_D_clear ∈ gw := List.mem_filter.mpr ⟨List.mem_append_left _ (by decide +kernel), by decide +kernel⟩
theorem ks_D_timesX : Cond.selects R_D y_D_timesX y_D_timesX ∈ gw := List.mem_filter.mpr ⟨List.mem_append_left _ (by decide +kernel), by decide +kernel⟩
theorem ks_D_addAnswers : Cond.selects R_D y_D_addAnswers y_D_addAnswers ∈ gw := List.mem_filter.mpr ⟨List.mem_append_left _ (by decide +kernel), by decide +kernel⟩
theorem ks_D_reduce : Cond.selects R_D y_D_reduce y_D_reduce ∈ gw := List.mem_filter.mpr ⟨List.mem_append_left _ (by decide +kernel), by decide +kernel⟩
theorem ks_D_subtract : Cond.selects R_D y_D_subtract y_D_subtract ∈ gw := List.mem_filter.mpr ⟨List.mem_append_left _ (by decide +kernel), by decide +kernel⟩
theorem ks_D_found : Cond.selects R_D y_D_found y_D_found ∈ gw := List.mem_filter.mpr ⟨List.mem_append_left _ (by decide +kernel), by decide +kernel⟩
theorem ks_M_become : Cond.selects R_M y_M_become y_M_become ∈ gw := List.mem_filter.mpr ⟨List.mem_append_left _ (by decide +kernel), by decide +kernel⟩
theorem ks_M_hasResidue : Cond.selects R_M y_M_hasResidue y_M_hasResidue ∈ gw := List.mem_filter.mpr ⟨List.mem_append_left _ (by decide +kernel), by decide +kernel⟩
theorem ks_M_reduced : Cond.selects R_M y_M_reduced y_M_reduced ∈ gw := List.mem_filter.mpr ⟨List.mem_append_left _ (by decide +kernel), by decide +kernel⟩
theorem ks_M_stepped : Cond.selects R_M y_M_stepped y_M_stepped ∈ gw := List.mem_filter.mpr ⟨List.mem_append_left _ (by decide +kernel), by decide +kernel⟩
theorem ks_M_product : Cond.selects R_M y_M_product y_M_product ∈ gw := List.mem_filter.mpr ⟨List.mem_append_left _ (by decide +kernel), by decide +kernel⟩
theorem ks_M_raised : Cond.selects R_M y_M_raised y_M_raised ∈ gw := List.mem_filter.mpr ⟨List.mem_append_left _ (by decide +kernel), by decide +kernel⟩
theorem ks_M_isIrreducible : Cond.selects R_M y_M_isIrreducible y_M_isIrreducible ∈ gw := List.mem_filter.mpr ⟨List.mem_append_left _ (by decide +kernel), by decide +kernel⟩
theorem ks_M_isPrimitive : Cond.selects R_M y_M_isPrimitive y_M_isPrimitive ∈ gw := List.mem_filter.mpr ⟨List.mem_append_left _ (by decide +kernel), by decide +kernel⟩
theorem ks_M_multipleOfOrder : Cond.selects R_M y_M_multipleOfOrder y_M_multipleOfOrder ∈ gw := List.mem_filter.mpr ⟨List.mem_append_left _ (by decide +kernel), by decide +kernel⟩
theorem ks_M_orderWithin : Cond.selects R_M y_M_orderWithin y_M_orderWithin ∈ gw := List.mem_filter.mpr ⟨List.mem_append_left _ (by decide +kernel), by decide +kernel⟩
theorem ks_M_withoutNeedless : Cond.selects R_M y_M_withoutNeedless y_M_withoutNeedless ∈ gw := List.mem_filter.mpr ⟨List.mem_append_left _ (by decide +kernel), by decide +kernel⟩
end
section
theorem d_S_init_0 : decode b_S_init 0 = .ok (.aload_n 0, 1) := by decide +kernel
theorem d_S_init_1 : decode b_S_init 1 = .ok (.invokespecial 3, 3) := by decide +kernel
theorem d_S_init_4 : decode b_S_init 4 = .ok (.aload_n 0, 1) := by decide +kernel
theorem d_S_init_5 : decode b_S_init 5 = .ok (.new 9, 3) := by decide +kernel
theorem d_S_init_8 : decode b_S_init 8 = .ok (.dup, 1) := by decide +kernel
theorem d_S_init_9 : decode b_S_init 9 = .ok (.invokespecial 11, 3) := by decide +kernel
theorem d_S_init_12 : decode b_S_init 12 = .ok (.putfield 12, 3) := by decide +kernel
theorem d_S_init_15 : decode b_S_init 15 = .ok (.aload_n 0, 1) := by decide +kernel
theorem d_S_init_16 : decode b_S_init 16 = .ok (.new 16, 3) := by decide +kernel
theorem d_S_init_19 : decode b_S_init 19 = .ok (.dup, 1) := by decide +kernel
theorem d_S_init_20 : decode b_S_init 20 = .ok (.invokespecial 18, 3) := by decide +kernel
theorem d_S_init_23 : decode b_S_init 23 = .ok (.putfield 19, 3) := by decide +kernel
theorem d_S_init_26 : decode b_S_init 26 = .ok (.aload_n 0, 1) := by decide +kernel
theorem d_S_init_27 : decode b_S_init 27 = .ok (.new 23, 3) := by decide +kernel
theorem d_S_init_30 : decode b_S_init 30 = .ok (.dup, 1) := by decide +kernel
theorem d_S_init_31 : decode b_S_init 31 = .ok (.invokespecial 25, 3) := by decide +kernel
theorem d_S_init_34 : decode b_S_init 34 = .ok (.putfield 26, 3) := by decide +kernel
theorem d_S_init_37 : decode b_S_init 37 = .ok (.aload_n 0, 1) := by decide +kernel
theorem d_S_init_38 : decode b_S_init 38 = .ok (.bipush (8), 2) := by decide +kernel
theorem d_S_init_40 : decode b_S_init 40 = .ok (.newarray .long, 2) := by decide +kernel
theorem d_S_init_42 : decode b_S_init 42 = .ok (.putfield 30, 3) := by decide +kernel
theorem d_S_init_45 : decode b_S_init 45 = .ok (.aload_n 0, 1) := by decide +kernel
theorem d_S_init_46 : decode b_S_init 46 = .ok (.lconst 1, 1) := by decide +kernel
theorem d_S_init_47 : decode b_S_init 47 = .ok (.putfield 34, 3) := by decide +kernel
theorem d_S_init_50 : decode b_S_init 50 = .ok (.return_, 1) := by decide +kernel
theorem d_S_polynomial_0 : decode b_S_polynomial 0 = .ok (.lload_n 1, 1) := by decide +kernel
theorem d_S_polynomial_1 : decode b_S_polynomial 1 = .ok (.invokestatic 38, 3) := by decide +kernel
theorem d_S_polynomial_4 : decode b_S_polynomial 4 = .ok (.istore_n 3, 1) := by decide +kernel
theorem d_S_polynomial_5 : decode b_S_polynomial 5 = .ok (.iload_n 3, 1) := by decide +kernel
theorem d_S_polynomial_6 : decode b_S_polynomial 6 = .ok (.iconst (1), 1) := by decide +kernel
theorem d_S_polynomial_7 : decode b_S_polynomial 7 = .ok (.if_icmp .lt (17), 3) := by decide +kernel
theorem d_S_polynomial_10 : decode b_S_polynomial 10 = .ok (.iload_n 3, 1) := by decide +kernel
theorem d_S_polynomial_11 : decode b_S_polynomial 11 = .ok (.bipush (32), 2) := by decide +kernel
theorem d_S_polynomial_13 : decode b_S_polynomial 13 = .ok (.if_icmp .gt (11), 3) := by decide +kernel
theorem d_S_polynomial_16 : decode b_S_polynomial 16 = .ok (.lload_n 1, 1) := by decide +kernel
theorem d_S_polynomial_17 : decode b_S_polynomial 17 = .ok (.lconst 1, 1) := by decide +kernel
theorem d_S_polynomial_18 : decode b_S_polynomial 18 = .ok (.land, 1) := by decide +kernel
theorem d_S_polynomial_19 : decode b_S_polynomial 19 = .ok (.lconst 0, 1) := by decide +kernel
theorem d_S_polynomial_20 : decode b_S_polynomial 20 = .ok (.lcmp, 1) := by decide +kernel
theorem d_S_polynomial_21 : decode b_S_polynomial 21 = .ok (.ifCond .ne (13), 3) := by decide +kernel
theorem d_S_polynomial_24 : decode b_S_polynomial 24 = .ok (.new 42, 3) := by decide +kernel
theorem d_S_polynomial_27 : decode b_S_polynomial 27 = .ok (.dup, 1) := by decide +kernel
theorem d_S_polynomial_28 : decode b_S_polynomial 28 = .ok (.ldc 44, 2) := by decide +kernel
theorem d_S_polynomial_30 : decode b_S_polynomial 30 = .ok (.invokespecial 46, 3) := by decide +kernel
theorem d_S_polynomial_33 : decode b_S_polynomial 33 = .ok (.athrow, 1) := by decide +kernel
theorem d_S_polynomial_34 : decode b_S_polynomial 34 = .ok (.aload_n 0, 1) := by decide +kernel
theorem d_S_polynomial_35 : decode b_S_polynomial 35 = .ok (.getfield 12, 3) := by decide +kernel
theorem d_S_polynomial_38 : decode b_S_polynomial 38 = .ok (.lload_n 1, 1) := by decide +kernel
theorem d_S_polynomial_39 : decode b_S_polynomial 39 = .ok (.invokevirtual 49, 3) := by decide +kernel
theorem d_S_polynomial_42 : decode b_S_polynomial 42 = .ok (.aload_n 0, 1) := by decide +kernel
theorem d_S_polynomial_43 : decode b_S_polynomial 43 = .ok (.lconst 1, 1) := by decide +kernel
theorem d_S_polynomial_44 : decode b_S_polynomial 44 = .ok (.putfield 34, 3) := by decide +kernel
theorem d_S_polynomial_47 : decode b_S_polynomial 47 = .ok (.aload_n 0, 1) := by decide +kernel
theorem d_S_polynomial_48 : decode b_S_polynomial 48 = .ok (.getfield 19, 3) := by decide +kernel
theorem d_S_polynomial_51 : decode b_S_polynomial 51 = .ok (.iconst (0), 1) := by decide +kernel
theorem d_S_polynomial_52 : decode b_S_polynomial 52 = .ok (.invokevirtual 53, 3) := by decide +kernel
theorem d_S_polynomial_55 : decode b_S_polynomial 55 = .ok (.iload_n 3, 1) := by decide +kernel
theorem d_S_polynomial_56 : decode b_S_polynomial 56 = .ok (.ireturn, 1) := by decide +kernel
theorem d_S_times_0 : decode b_S_times 0 = .ok (.aload_n 0, 1) := by decide +kernel
theorem d_S_times_1 : decode b_S_times 1 = .ok (.lload_n 1, 1) := by decide +kernel
theorem d_S_times_2 : decode b_S_times 2 = .ok (.invokevirtual 57, 3) := by decide +kernel
theorem d_S_times_5 : decode b_S_times 5 = .ok (.aload_n 0, 1) := by decide +kernel
theorem d_S_times_6 : decode b_S_times 6 = .ok (.lload_n 3, 1) := by decide +kernel
theorem d_S_times_7 : decode b_S_times 7 = .ok (.invokevirtual 57, 3) := by decide +kernel
theorem d_S_times_10 : decode b_S_times 10 = .ok (.aload_n 0, 1) := by decide +kernel
theorem d_S_times_11 : decode b_S_times 11 = .ok (.getfield 12, 3) := by decide +kernel
theorem d_S_times_14 : decode b_S_times 14 = .ok (.lload_n 1, 1) := by decide +kernel
theorem d_S_times_15 : decode b_S_times 15 = .ok (.lload_n 3, 1) := by decide +kernel
theorem d_S_times_16 : decode b_S_times 16 = .ok (.invokevirtual 60, 3) := by decide +kernel
theorem d_S_times_19 : decode b_S_times 19 = .ok (.lreturn, 1) := by decide +kernel
theorem d_S_power_0 : decode b_S_power 0 = .ok (.aload_n 0, 1) := by decide +kernel
theorem d_S_power_1 : decode b_S_power 1 = .ok (.lload_n 1, 1) := by decide +kernel
theorem d_S_power_2 : decode b_S_power 2 = .ok (.invokevirtual 57, 3) := by decide +kernel
theorem d_S_power_5 : decode b_S_power 5 = .ok (.aload_n 0, 1) := by decide +kernel
theorem d_S_power_6 : decode b_S_power 6 = .ok (.lload_n 3, 1) := by decide +kernel
theorem d_S_power_7 : decode b_S_power 7 = .ok (.invokevirtual 64, 3) := by decide +kernel
theorem d_S_power_10 : decode b_S_power 10 = .ok (.aload_n 0, 1) := by decide +kernel
theorem d_S_power_11 : decode b_S_power 11 = .ok (.getfield 12, 3) := by decide +kernel
theorem d_S_power_14 : decode b_S_power 14 = .ok (.lload_n 1, 1) := by decide +kernel
theorem d_S_power_15 : decode b_S_power 15 = .ok (.lload_n 3, 1) := by decide +kernel
theorem d_S_power_16 : decode b_S_power 16 = .ok (.invokevirtual 67, 3) := by decide +kernel
theorem d_S_power_19 : decode b_S_power 19 = .ok (.lreturn, 1) := by decide +kernel
theorem d_S_residue_0 : decode b_S_residue 0 = .ok (.aload_n 0, 1) := by decide +kernel
theorem d_S_residue_1 : decode b_S_residue 1 = .ok (.getfield 12, 3) := by decide +kernel
theorem d_S_residue_4 : decode b_S_residue 4 = .ok (.lload_n 1, 1) := by decide +kernel
theorem d_S_residue_5 : decode b_S_residue 5 = .ok (.invokevirtual 70, 3) := by decide +kernel
theorem d_S_residue_8 : decode b_S_residue 8 = .ok (.lreturn, 1) := by decide +kernel
theorem d_S_irreducible_0 : decode b_S_irreducible 0 = .ok (.aload_n 0, 1) := by decide +kernel
theorem d_S_irreducible_1 : decode b_S_irreducible 1 = .ok (.getfield 12, 3) := by decide +kernel
theorem d_S_irreducible_4 : decode b_S_irreducible 4 = .ok (.invokevirtual 74, 3) := by decide +kernel
theorem d_S_irreducible_7 : decode b_S_irreducible 7 = .ok (.ireturn, 1) := by decide +kernel
theorem d_S_primitive_0 : decode b_S_primitive 0 = .ok (.aload_n 0, 1) := by decide +kernel
theorem d_S_primitive_1 : decode b_S_primitive 1 = .ok (.getfield 12, 3) := by decide +kernel
theorem d_S_primitive_4 : decode b_S_primitive 4 = .ok (.invokevirtual 78, 3) := by decide +kernel
theorem d_S_primitive_7 : decode b_S_primitive 7 = .ok (.ireturn, 1) := by decide +kernel
theorem d_S_order_0 : decode b_S_order 0 = .ok (.aload_n 0, 1) := by decide +kernel
theorem d_S_order_1 : decode b_S_order 1 = .ok (.getfield 12, 3) := by decide +kernel
theorem d_S_order_4 : decode b_S_order 4 = .ok (.getfield 81, 3) := by decide +kernel
theorem d_S_order_7 : decode b_S_order 7 = .ok (.bipush (18), 2) := by decide +kernel
theorem d_S_order_9 : decode b_S_order 9 = .ok (.if_icmp .le (7), 3) := by decide +kernel
theorem d_S_order_12 : decode b_S_order 12 = .ok (.ldc2_w 85, 3) := by decide +kernel
theorem d_S_order_15 : decode b_S_order 15 = .ok (.lreturn, 1) := by decide +kernel
theorem d_S_order_16 : decode b_S_order 16 = .ok (.aload_n 0, 1) := by decide +kernel
theorem d_S_order_17 : decode b_S_order 17 = .ok (.getfield 12, 3) := by decide +kernel
theorem d_S_order_20 : decode b_S_order 20 = .ok (.aload_n 0, 1) := by decide +kernel
theorem d_S_order_21 : decode b_S_order 21 = .ok (.getfield 12, 3) := by decide +kernel
theorem d_S_order_24 : decode b_S_order 24 = .ok (.invokevirtual 87, 3) := by decide +kernel
theorem d_S_order_27 : decode b_S_order 27 = .ok (.invokevirtual 91, 3) := by decide +kernel
theorem d_S_order_30 : decode b_S_order 30 = .ok (.lreturn, 1) := by decide +kernel
theorem d_S_load_0 : decode b_S_load 0 = .ok (.aload_n 0, 1) := by decide +kernel
theorem d_S_load_1 : decode b_S_load 1 = .ok (.lload_n 1, 1) := by decide +kernel
theorem d_S_load_2 : decode b_S_load 2 = .ok (.invokevirtual 57, 3) := by decide +kernel
theorem d_S_load_5 : decode b_S_load 5 = .ok (.aload_n 0, 1) := by decide +kernel
theorem d_S_load_6 : decode b_S_load 6 = .ok (.getfield 34, 3) := by decide +kernel
theorem d_S_load_9 : decode b_S_load 9 = .ok (.lstore_n 3, 1) := by decide +kernel
theorem d_S_load_10 : decode b_S_load 10 = .ok (.aload_n 0, 1) := by decide +kernel
theorem d_S_load_11 : decode b_S_load 11 = .ok (.lload_n 1, 1) := by decide +kernel
theorem d_S_load_12 : decode b_S_load 12 = .ok (.putfield 34, 3) := by decide +kernel
theorem d_S_load_15 : decode b_S_load 15 = .ok (.lload_n 3, 1) := by decide +kernel
theorem d_S_load_16 : decode b_S_load 16 = .ok (.lreturn, 1) := by decide +kernel
theorem d_S_steps_0 : decode b_S_steps 0 = .ok (.aload_n 0, 1) := by decide +kernel
theorem d_S_steps_1 : decode b_S_steps 1 = .ok (.lload_n 1, 1) := by decide +kernel
theorem d_S_steps_2 : decode b_S_steps 2 = .ok (.invokevirtual 64, 3) := by decide +kernel
theorem d_S_steps_5 : decode b_S_steps 5 = .ok (.aload_n 0, 1) := by decide +kernel
theorem d_S_steps_6 : decode b_S_steps 6 = .ok (.aload_n 0, 1) := by decide +kernel
theorem d_S_steps_7 : decode b_S_steps 7 = .ok (.getfield 12, 3) := by decide +kernel
theorem d_S_steps_10 : decode b_S_steps 10 = .ok (.aload_n 0, 1) := by decide +kernel
theorem d_S_steps_11 : decode b_S_steps 11 = .ok (.getfield 34, 3) := by decide +kernel
theorem d_S_steps_14 : decode b_S_steps 14 = .ok (.aload_n 0, 1) := by decide +kernel
theorem d_S_steps_15 : decode b_S_steps 15 = .ok (.getfield 12, 3) := by decide +kernel
theorem d_S_steps_18 : decode b_S_steps 18 = .ok (.aload_n 0, 1) := by decide +kernel
theorem d_S_steps_19 : decode b_S_steps 19 = .ok (.getfield 12, 3) := by decide +kernel
theorem d_S_steps_22 : decode b_S_steps 22 = .ok (.getfield 94, 3) := by decide +kernel
theorem d_S_steps_25 : decode b_S_steps 25 = .ok (.lload_n 1, 1) := by decide +kernel
theorem d_S_steps_26 : decode b_S_steps 26 = .ok (.invokevirtual 67, 3) := by decide +kernel
theorem d_S_steps_29 : decode b_S_steps 29 = .ok (.invokevirtual 60, 3) := by decide +kernel
theorem d_S_steps_32 : decode b_S_steps 32 = .ok (.putfield 34, 3) := by decide +kernel
theorem d_S_steps_35 : decode b_S_steps 35 = .ok (.aload_n 0, 1) := by decide +kernel
theorem d_S_steps_36 : decode b_S_steps 36 = .ok (.getfield 34, 3) := by decide +kernel
theorem d_S_steps_39 : decode b_S_steps 39 = .ok (.lreturn, 1) := by decide +kernel
theorem d_S_channel_0 : decode b_S_channel 0 = .ok (.aload_n 0, 1) := by decide +kernel
theorem d_S_channel_1 : decode b_S_channel 1 = .ok (.lload_n 1, 1) := by decide +kernel
theorem d_S_channel_2 : decode b_S_channel 2 = .ok (.invokevirtual 57, 3) := by decide +kernel
theorem d_S_channel_5 : decode b_S_channel 5 = .ok (.aload_n 0, 1) := by decide +kernel
theorem d_S_channel_6 : decode b_S_channel 6 = .ok (.getfield 19, 3) := by decide +kernel
theorem d_S_channel_9 : decode b_S_channel 9 = .ok (.getfield 97, 3) := by decide +kernel
theorem d_S_channel_12 : decode b_S_channel 12 = .ok (.istore_n 3, 1) := by decide +kernel
theorem d_S_channel_13 : decode b_S_channel 13 = .ok (.iload_n 3, 1) := by decide +kernel
theorem d_S_channel_14 : decode b_S_channel 14 = .ok (.bipush (8), 2) := by decide +kernel
theorem d_S_channel_16 : decode b_S_channel 16 = .ok (.if_icmp .lt (13), 3) := by decide +kernel
theorem d_S_channel_19 : decode b_S_channel 19 = .ok (.new 100, 3) := by decide +kernel
theorem d_S_channel_22 : decode b_S_channel 22 = .ok (.dup, 1) := by decide +kernel
theorem d_S_channel_23 : decode b_S_channel 23 = .ok (.ldc 102, 2) := by decide +kernel
theorem d_S_channel_25 : decode b_S_channel 25 = .ok (.invokespecial 104, 3) := by decide +kernel
theorem d_S_channel_28 : decode b_S_channel 28 = .ok (.athrow, 1) := by decide +kernel
theorem d_S_channel_29 : decode b_S_channel 29 = .ok (.aload_n 0, 1) := by decide +kernel
theorem d_S_channel_30 : decode b_S_channel 30 = .ok (.getfield 30, 3) := by decide +kernel
theorem d_S_channel_33 : decode b_S_channel 33 = .ok (.iload_n 3, 1) := by decide +kernel
theorem d_S_channel_34 : decode b_S_channel 34 = .ok (.lload_n 1, 1) := by decide +kernel
theorem d_S_channel_35 : decode b_S_channel 35 = .ok (.lastore, 1) := by decide +kernel
theorem d_S_channel_36 : decode b_S_channel 36 = .ok (.aload_n 0, 1) := by decide +kernel
theorem d_S_channel_37 : decode b_S_channel 37 = .ok (.getfield 19, 3) := by decide +kernel
theorem d_S_channel_40 : decode b_S_channel 40 = .ok (.iload_n 3, 1) := by decide +kernel
theorem d_S_channel_41 : decode b_S_channel 41 = .ok (.iconst (1), 1) := by decide +kernel
theorem d_S_channel_42 : decode b_S_channel 42 = .ok (.iadd, 1) := by decide +kernel
theorem d_S_channel_43 : decode b_S_channel 43 = .ok (.invokevirtual 53, 3) := by decide +kernel
theorem d_S_channel_46 : decode b_S_channel 46 = .ok (.iload_n 3, 1) := by decide +kernel
theorem d_S_channel_47 : decode b_S_channel 47 = .ok (.ireturn, 1) := by decide +kernel
theorem d_S_pattern_0 : decode b_S_pattern 0 = .ok (.aload_n 0, 1) := by decide +kernel
theorem d_S_pattern_1 : decode b_S_pattern 1 = .ok (.aload_n 0, 1) := by decide +kernel
theorem d_S_pattern_2 : decode b_S_pattern 2 = .ok (.getfield 34, 3) := by decide +kernel
theorem d_S_pattern_5 : decode b_S_pattern 5 = .ok (.invokevirtual 105, 3) := by decide +kernel
theorem d_S_pattern_8 : decode b_S_pattern 8 = .ok (.ireturn, 1) := by decide +kernel
theorem d_S_gate_0 : decode b_S_gate 0 = .ok (.iload_n 1, 1) := by decide +kernel
theorem d_S_gate_1 : decode b_S_gate 1 = .ok (.ifCond .lt (8), 3) := by decide +kernel
theorem d_S_gate_4 : decode b_S_gate 4 = .ok (.iload_n 1, 1) := by decide +kernel
theorem d_S_gate_5 : decode b_S_gate 5 = .ok (.iconst (5), 1) := by decide +kernel
theorem d_S_gate_6 : decode b_S_gate 6 = .ok (.if_icmp .le (13), 3) := by decide +kernel
theorem d_S_gate_9 : decode b_S_gate 9 = .ok (.new 42, 3) := by decide +kernel
theorem d_S_gate_12 : decode b_S_gate 12 = .ok (.dup, 1) := by decide +kernel
theorem d_S_gate_13 : decode b_S_gate 13 = .ok (.ldc 108, 2) := by decide +kernel
theorem d_S_gate_15 : decode b_S_gate 15 = .ok (.invokespecial 46, 3) := by decide +kernel
theorem d_S_gate_18 : decode b_S_gate 18 = .ok (.athrow, 1) := by decide +kernel
theorem d_S_gate_19 : decode b_S_gate 19 = .ok (.aload_n 0, 1) := by decide +kernel
theorem d_S_gate_20 : decode b_S_gate 20 = .ok (.iload_n 2, 1) := by decide +kernel
theorem d_S_gate_21 : decode b_S_gate 21 = .ok (.invokevirtual 110, 3) := by decide +kernel
theorem d_S_gate_24 : decode b_S_gate 24 = .ok (.iload_n 1, 1) := by decide +kernel
theorem d_S_gate_25 : decode b_S_gate 25 = .ok (.iconst (5), 1) := by decide +kernel
theorem d_S_gate_26 : decode b_S_gate 26 = .ok (.if_icmp .ne (7), 3) := by decide +kernel
theorem d_S_gate_29 : decode b_S_gate 29 = .ok (.iload_n 2, 1) := by decide +kernel
theorem d_S_gate_30 : decode b_S_gate 30 = .ok (.goto (4), 3) := by decide +kernel
theorem d_S_gate_33 : decode b_S_gate 33 = .ok (.iload_n 3, 1) := by decide +kernel
theorem d_S_gate_34 : decode b_S_gate 34 = .ok (.istore 4, 2) := by decide +kernel
theorem d_S_gate_36 : decode b_S_gate 36 = .ok (.aload_n 0, 1) := by decide +kernel
theorem d_S_gate_37 : decode b_S_gate 37 = .ok (.iload 4, 2) := by decide +kernel
theorem d_S_gate_39 : decode b_S_gate 39 = .ok (.invokevirtual 110, 3) := by decide +kernel
theorem d_S_gate_42 : decode b_S_gate 42 = .ok (.aload_n 0, 1) := by decide +kernel
theorem d_S_gate_43 : decode b_S_gate 43 = .ok (.getfield 19, 3) := by decide +kernel
theorem d_S_gate_46 : decode b_S_gate 46 = .ok (.getfield 113, 3) := by decide +kernel
theorem d_S_gate_49 : decode b_S_gate 49 = .ok (.bipush (24), 2) := by decide +kernel
theorem d_S_gate_51 : decode b_S_gate 51 = .ok (.if_icmp .lt (13), 3) := by decide +kernel
theorem d_S_gate_54 : decode b_S_gate 54 = .ok (.new 100, 3) := by decide +kernel
theorem d_S_gate_57 : decode b_S_gate 57 = .ok (.dup, 1) := by decide +kernel
theorem d_S_gate_58 : decode b_S_gate 58 = .ok (.ldc 116, 2) := by decide +kernel
theorem d_S_gate_60 : decode b_S_gate 60 = .ok (.invokespecial 104, 3) := by decide +kernel
theorem d_S_gate_63 : decode b_S_gate 63 = .ok (.athrow, 1) := by decide +kernel
theorem d_S_gate_64 : decode b_S_gate 64 = .ok (.aload_n 0, 1) := by decide +kernel
theorem d_S_gate_65 : decode b_S_gate 65 = .ok (.getfield 19, 3) := by decide +kernel
theorem d_S_gate_68 : decode b_S_gate 68 = .ok (.iload_n 1, 1) := by decide +kernel
theorem d_S_gate_69 : decode b_S_gate 69 = .ok (.iload_n 2, 1) := by decide +kernel
theorem d_S_gate_70 : decode b_S_gate 70 = .ok (.iload 4, 2) := by decide +kernel
theorem d_S_gate_72 : decode b_S_gate 72 = .ok (.invokevirtual 118, 3) := by decide +kernel
theorem d_S_gate_75 : decode b_S_gate 75 = .ok (.ireturn, 1) := by decide +kernel
theorem d_S_output_0 : decode b_S_output 0 = .ok (.aload_n 0, 1) := by decide +kernel
theorem d_S_output_1 : decode b_S_output 1 = .ok (.iload_n 1, 1) := by decide +kernel
theorem d_S_output_2 : decode b_S_output 2 = .ok (.invokevirtual 110, 3) := by decide +kernel
theorem d_S_output_5 : decode b_S_output 5 = .ok (.aload_n 0, 1) := by decide +kernel
theorem d_S_output_6 : decode b_S_output 6 = .ok (.getfield 19, 3) := by decide +kernel
theorem d_S_output_9 : decode b_S_output 9 = .ok (.getfield 122, 3) := by decide +kernel
theorem d_S_output_12 : decode b_S_output 12 = .ok (.bipush (16), 2) := by decide +kernel
theorem d_S_output_14 : decode b_S_output 14 = .ok (.if_icmp .lt (13), 3) := by decide +kernel
theorem d_S_output_17 : decode b_S_output 17 = .ok (.new 100, 3) := by decide +kernel
theorem d_S_output_20 : decode b_S_output 20 = .ok (.dup, 1) := by decide +kernel
theorem d_S_output_21 : decode b_S_output 21 = .ok (.ldc 125, 2) := by decide +kernel
theorem d_S_output_23 : decode b_S_output 23 = .ok (.invokespecial 104, 3) := by decide +kernel
theorem d_S_output_26 : decode b_S_output 26 = .ok (.athrow, 1) := by decide +kernel
theorem d_S_output_27 : decode b_S_output 27 = .ok (.aload_n 0, 1) := by decide +kernel
theorem d_S_output_28 : decode b_S_output 28 = .ok (.getfield 19, 3) := by decide +kernel
theorem d_S_output_31 : decode b_S_output 31 = .ok (.iload_n 1, 1) := by decide +kernel
theorem d_S_output_32 : decode b_S_output 32 = .ok (.invokevirtual 127, 3) := by decide +kernel
theorem d_S_output_35 : decode b_S_output 35 = .ok (.ireturn, 1) := by decide +kernel
theorem d_S_answer_0 : decode b_S_answer 0 = .ok (.aload_n 0, 1) := by decide +kernel
theorem d_S_answer_1 : decode b_S_answer 1 = .ok (.iload_n 2, 1) := by decide +kernel
theorem d_S_answer_2 : decode b_S_answer 2 = .ok (.invokevirtual 131, 3) := by decide +kernel
theorem d_S_answer_5 : decode b_S_answer 5 = .ok (.aload_n 0, 1) := by decide +kernel
theorem d_S_answer_6 : decode b_S_answer 6 = .ok (.getfield 19, 3) := by decide +kernel
theorem d_S_answer_9 : decode b_S_answer 9 = .ok (.iload_n 1, 1) := by decide +kernel
theorem d_S_answer_10 : decode b_S_answer 10 = .ok (.iload_n 2, 1) := by decide +kernel
theorem d_S_answer_11 : decode b_S_answer 11 = .ok (.invokevirtual 134, 3) := by decide +kernel
theorem d_S_answer_14 : decode b_S_answer 14 = .ok (.ireturn, 1) := by decide +kernel
theorem d_S_session_0 : decode b_S_session 0 = .ok (.aload_n 0, 1) := by decide +kernel
theorem d_S_session_1 : decode b_S_session 1 = .ok (.iload_n 2, 1) := by decide +kernel
theorem d_S_session_2 : decode b_S_session 2 = .ok (.invokevirtual 131, 3) := by decide +kernel
theorem d_S_session_5 : decode b_S_session 5 = .ok (.aload_n 0, 1) := by decide +kernel
theorem d_S_session_6 : decode b_S_session 6 = .ok (.iload_n 1, 1) := by decide +kernel
theorem d_S_session_7 : decode b_S_session 7 = .ok (.invokevirtual 138, 3) := by decide +kernel
theorem d_S_session_10 : decode b_S_session 10 = .ok (.aload_n 0, 1) := by decide +kernel
theorem d_S_session_11 : decode b_S_session 11 = .ok (.getfield 34, 3) := by decide +kernel
theorem d_S_session_14 : decode b_S_session 14 = .ok (.lstore_n 3, 1) := by decide +kernel
theorem d_S_session_15 : decode b_S_session 15 = .ok (.lconst 0, 1) := by decide +kernel
theorem d_S_session_16 : decode b_S_session 16 = .ok (.lstore 5, 2) := by decide +kernel
theorem d_S_session_18 : decode b_S_session 18 = .ok (.iconst (0), 1) := by decide +kernel
theorem d_S_session_19 : decode b_S_session 19 = .ok (.istore 7, 2) := by decide +kernel
theorem d_S_session_21 : decode b_S_session 21 = .ok (.iload 7, 2) := by decide +kernel
theorem d_S_session_23 : decode b_S_session 23 = .ok (.iload_n 1, 1) := by decide +kernel
theorem d_S_session_24 : decode b_S_session 24 = .ok (.if_icmp .ge (55), 3) := by decide +kernel
theorem d_S_session_27 : decode b_S_session 27 = .ok (.aload_n 0, 1) := by decide +kernel
theorem d_S_session_28 : decode b_S_session 28 = .ok (.getfield 19, 3) := by decide +kernel
theorem d_S_session_31 : decode b_S_session 31 = .ok (.aload_n 0, 1) := by decide +kernel
theorem d_S_session_32 : decode b_S_session 32 = .ok (.lload_n 3, 1) := by decide +kernel
theorem d_S_session_33 : decode b_S_session 33 = .ok (.invokevirtual 105, 3) := by decide +kernel
theorem d_S_session_36 : decode b_S_session 36 = .ok (.iload_n 2, 1) := by decide +kernel
theorem d_S_session_37 : decode b_S_session 37 = .ok (.invokevirtual 134, 3) := by decide +kernel
theorem d_S_session_40 : decode b_S_session 40 = .ok (.istore 8, 2) := by decide +kernel
theorem d_S_session_42 : decode b_S_session 42 = .ok (.aload_n 0, 1) := by decide +kernel
theorem d_S_session_43 : decode b_S_session 43 = .ok (.getfield 12, 3) := by decide +kernel
theorem d_S_session_46 : decode b_S_session 46 = .ok (.lload 5, 2) := by decide +kernel
theorem d_S_session_48 : decode b_S_session 48 = .ok (.invokevirtual 141, 3) := by decide +kernel
theorem d_S_session_51 : decode b_S_session 51 = .ok (.aload_n 0, 1) := by decide +kernel
theorem d_S_session_52 : decode b_S_session 52 = .ok (.getfield 12, 3) := by decide +kernel
theorem d_S_session_55 : decode b_S_session 55 = .ok (.iload 8, 2) := by decide +kernel
theorem d_S_session_57 : decode b_S_session 57 = .ok (.i2l, 1) := by decide +kernel
theorem d_S_session_58 : decode b_S_session 58 = .ok (.invokevirtual 70, 3) := by decide +kernel
theorem d_S_session_61 : decode b_S_session 61 = .ok (.lxor, 1) := by decide +kernel
theorem d_S_session_62 : decode b_S_session 62 = .ok (.lstore 5, 2) := by decide +kernel
theorem d_S_session_64 : decode b_S_session 64 = .ok (.aload_n 0, 1) := by decide +kernel
theorem d_S_session_65 : decode b_S_session 65 = .ok (.getfield 12, 3) := by decide +kernel
theorem d_S_session_68 : decode b_S_session 68 = .ok (.lload_n 3, 1) := by decide +kernel
theorem d_S_session_69 : decode b_S_session 69 = .ok (.invokevirtual 141, 3) := by decide +kernel
theorem d_S_session_72 : decode b_S_session 72 = .ok (.lstore_n 3, 1) := by decide +kernel
theorem d_S_session_73 : decode b_S_session 73 = .ok (.iinc 7 (1), 3) := by decide +kernel
theorem d_S_session_76 : decode b_S_session 76 = .ok (.goto (-55), 3) := by decide +kernel
theorem d_S_session_79 : decode b_S_session 79 = .ok (.lload 5, 2) := by decide +kernel
theorem d_S_session_81 : decode b_S_session 81 = .ok (.lreturn, 1) := by decide +kernel
theorem d_S_faults_0 : decode b_S_faults 0 = .ok (.iload_n 2, 1) := by decide +kernel
theorem d_S_faults_1 : decode b_S_faults 1 = .ok (.ifCond .lt (8), 3) := by decide +kernel
theorem d_S_faults_4 : decode b_S_faults 4 = .ok (.iload_n 2, 1) := by decide +kernel
theorem d_S_faults_5 : decode b_S_faults 5 = .ok (.iconst (3), 1) := by decide +kernel
theorem d_S_faults_6 : decode b_S_faults 6 = .ok (.if_icmp .le (13), 3) := by decide +kernel
theorem d_S_faults_9 : decode b_S_faults 9 = .ok (.new 144, 3) := by decide +kernel
theorem d_S_faults_12 : decode b_S_faults 12 = .ok (.dup, 1) := by decide +kernel
theorem d_S_faults_13 : decode b_S_faults 13 = .ok (.ldc 146, 2) := by decide +kernel
theorem d_S_faults_15 : decode b_S_faults 15 = .ok (.invokespecial 148, 3) := by decide +kernel
theorem d_S_faults_18 : decode b_S_faults 18 = .ok (.athrow, 1) := by decide +kernel
theorem d_S_faults_19 : decode b_S_faults 19 = .ok (.aload_n 0, 1) := by decide +kernel
theorem d_S_faults_20 : decode b_S_faults 20 = .ok (.iload_n 1, 1) := by decide +kernel
theorem d_S_faults_21 : decode b_S_faults 21 = .ok (.invokevirtual 138, 3) := by decide +kernel
theorem d_S_faults_24 : decode b_S_faults 24 = .ok (.iload_n 2, 1) := by decide +kernel
theorem d_S_faults_25 : decode b_S_faults 25 = .ok (.ifCond .ne (11), 3) := by decide +kernel
theorem d_S_faults_28 : decode b_S_faults 28 = .ok (.aload_n 0, 1) := by decide +kernel
theorem d_S_faults_29 : decode b_S_faults 29 = .ok (.getfield 19, 3) := by decide +kernel
theorem d_S_faults_32 : decode b_S_faults 32 = .ok (.invokevirtual 149, 3) := by decide +kernel
theorem d_S_faults_35 : decode b_S_faults 35 = .ok (.ireturn, 1) := by decide +kernel
theorem d_S_faults_36 : decode b_S_faults 36 = .ok (.aload_n 0, 1) := by decide +kernel
theorem d_S_faults_37 : decode b_S_faults 37 = .ok (.iload_n 1, 1) := by decide +kernel
theorem d_S_faults_38 : decode b_S_faults 38 = .ok (.invokevirtual 153, 3) := by decide +kernel
theorem d_S_faults_41 : decode b_S_faults 41 = .ok (.iload_n 2, 1) := by decide +kernel
theorem d_S_faults_42 : decode b_S_faults 42 = .ok (.iconst (1), 1) := by decide +kernel
theorem d_S_faults_43 : decode b_S_faults 43 = .ok (.if_icmp .ne (14), 3) := by decide +kernel
theorem d_S_faults_46 : decode b_S_faults 46 = .ok (.aload_n 0, 1) := by decide +kernel
theorem d_S_faults_47 : decode b_S_faults 47 = .ok (.getfield 26, 3) := by decide +kernel
theorem d_S_faults_50 : decode b_S_faults 50 = .ok (.getfield 156, 3) := by decide +kernel
theorem d_S_faults_53 : decode b_S_faults 53 = .ok (.invokestatic 159, 3) := by decide +kernel
theorem d_S_faults_56 : decode b_S_faults 56 = .ok (.ireturn, 1) := by decide +kernel
theorem d_S_faults_57 : decode b_S_faults 57 = .ok (.aload_n 0, 1) := by decide +kernel
theorem d_S_faults_58 : decode b_S_faults 58 = .ok (.getfield 26, 3) := by decide +kernel
theorem d_S_faults_61 : decode b_S_faults 61 = .ok (.invokevirtual 164, 3) := by decide +kernel
theorem d_S_faults_64 : decode b_S_faults 64 = .ok (.lstore_n 3, 1) := by decide +kernel
theorem d_S_faults_65 : decode b_S_faults 65 = .ok (.iload_n 2, 1) := by decide +kernel
theorem d_S_faults_66 : decode b_S_faults 66 = .ok (.iconst (2), 1) := by decide +kernel
theorem d_S_faults_67 : decode b_S_faults 67 = .ok (.if_icmp .ne (10), 3) := by decide +kernel
theorem d_S_faults_70 : decode b_S_faults 70 = .ok (.lload_n 3, 1) := by decide +kernel
theorem d_S_faults_71 : decode b_S_faults 71 = .ok (.invokestatic 159, 3) := by decide +kernel
theorem d_S_faults_74 : decode b_S_faults 74 = .ok (.goto (19), 3) := by decide +kernel
theorem d_S_faults_77 : decode b_S_faults 77 = .ok (.aload_n 0, 1) := by decide +kernel
theorem d_S_faults_78 : decode b_S_faults 78 = .ok (.getfield 26, 3) := by decide +kernel
theorem d_S_faults_81 : decode b_S_faults 81 = .ok (.getfield 156, 3) := by decide +kernel
theorem d_S_faults_84 : decode b_S_faults 84 = .ok (.lload_n 3, 1) := by decide +kernel
theorem d_S_faults_85 : decode b_S_faults 85 = .ok (.ldc2_w 85, 3) := by decide +kernel
theorem d_S_faults_88 : decode b_S_faults 88 = .ok (.lxor, 1) := by decide +kernel
theorem d_S_faults_89 : decode b_S_faults 89 = .ok (.land, 1) := by decide +kernel
theorem d_S_faults_90 : decode b_S_faults 90 = .ok (.invokestatic 167, 3) := by decide +kernel
theorem d_S_faults_93 : decode b_S_faults 93 = .ok (.ireturn, 1) := by decide +kernel
theorem d_S_first_0 : decode b_S_first 0 = .ok (.aload_n 0, 1) := by decide +kernel
theorem d_S_first_1 : decode b_S_first 1 = .ok (.iload_n 2, 1) := by decide +kernel
theorem d_S_first_2 : decode b_S_first 2 = .ok (.invokevirtual 170, 3) := by decide +kernel
theorem d_S_first_5 : decode b_S_first 5 = .ok (.aload_n 0, 1) := by decide +kernel
theorem d_S_first_6 : decode b_S_first 6 = .ok (.iload_n 1, 1) := by decide +kernel
theorem d_S_first_7 : decode b_S_first 7 = .ok (.invokevirtual 138, 3) := by decide +kernel
theorem d_S_first_10 : decode b_S_first 10 = .ok (.aload_n 0, 1) := by decide +kernel
theorem d_S_first_11 : decode b_S_first 11 = .ok (.getfield 34, 3) := by decide +kernel
theorem d_S_first_14 : decode b_S_first 14 = .ok (.lstore_n 3, 1) := by decide +kernel
theorem d_S_first_15 : decode b_S_first 15 = .ok (.iconst (0), 1) := by decide +kernel
theorem d_S_first_16 : decode b_S_first 16 = .ok (.istore 5, 2) := by decide +kernel
theorem d_S_first_18 : decode b_S_first 18 = .ok (.iload 5, 2) := by decide +kernel
theorem d_S_first_20 : decode b_S_first 20 = .ok (.iload_n 1, 1) := by decide +kernel
theorem d_S_first_21 : decode b_S_first 21 = .ok (.if_icmp .ge (51), 3) := by decide +kernel
theorem d_S_first_24 : decode b_S_first 24 = .ok (.aload_n 0, 1) := by decide +kernel
theorem d_S_first_25 : decode b_S_first 25 = .ok (.lload_n 3, 1) := by decide +kernel
theorem d_S_first_26 : decode b_S_first 26 = .ok (.invokevirtual 105, 3) := by decide +kernel
theorem d_S_first_29 : decode b_S_first 29 = .ok (.istore 6, 2) := by decide +kernel
theorem d_S_first_31 : decode b_S_first 31 = .ok (.aload_n 0, 1) := by decide +kernel
theorem d_S_first_32 : decode b_S_first 32 = .ok (.getfield 19, 3) := by decide +kernel
theorem d_S_first_35 : decode b_S_first 35 = .ok (.iload 6, 2) := by decide +kernel
theorem d_S_first_37 : decode b_S_first 37 = .ok (.iload_n 2, 1) := by decide +kernel
theorem d_S_first_38 : decode b_S_first 38 = .ok (.invokevirtual 134, 3) := by decide +kernel
theorem d_S_first_41 : decode b_S_first 41 = .ok (.aload_n 0, 1) := by decide +kernel
theorem d_S_first_42 : decode b_S_first 42 = .ok (.getfield 19, 3) := by decide +kernel
theorem d_S_first_45 : decode b_S_first 45 = .ok (.iload 6, 2) := by decide +kernel
theorem d_S_first_47 : decode b_S_first 47 = .ok (.iconst (-1), 1) := by decide +kernel
theorem d_S_first_48 : decode b_S_first 48 = .ok (.invokevirtual 134, 3) := by decide +kernel
theorem d_S_first_51 : decode b_S_first 51 = .ok (.if_icmp .eq (6), 3) := by decide +kernel
theorem d_S_first_54 : decode b_S_first 54 = .ok (.iload 5, 2) := by decide +kernel
theorem d_S_first_56 : decode b_S_first 56 = .ok (.ireturn, 1) := by decide +kernel
theorem d_S_first_57 : decode b_S_first 57 = .ok (.aload_n 0, 1) := by decide +kernel
theorem d_S_first_58 : decode b_S_first 58 = .ok (.getfield 12, 3) := by decide +kernel
theorem d_S_first_61 : decode b_S_first 61 = .ok (.lload_n 3, 1) := by decide +kernel
theorem d_S_first_62 : decode b_S_first 62 = .ok (.invokevirtual 141, 3) := by decide +kernel
theorem d_S_first_65 : decode b_S_first 65 = .ok (.lstore_n 3, 1) := by decide +kernel
theorem d_S_first_66 : decode b_S_first 66 = .ok (.iinc 5 (1), 3) := by decide +kernel
theorem d_S_first_69 : decode b_S_first 69 = .ok (.goto (-51), 3) := by decide +kernel
theorem d_S_first_72 : decode b_S_first 72 = .ok (.iconst (-1), 1) := by decide +kernel
theorem d_S_first_73 : decode b_S_first 73 = .ok (.ireturn, 1) := by decide +kernel
theorem d_S_requireResidue_0 : decode b_S_requireResidue 0 = .ok (.aload_n 0, 1) := by decide +kernel
theorem d_S_requireResidue_1 : decode b_S_requireResidue 1 = .ok (.getfield 12, 3) := by decide +kernel
theorem d_S_requireResidue_4 : decode b_S_requireResidue 4 = .ok (.lload_n 1, 1) := by decide +kernel
theorem d_S_requireResidue_5 : decode b_S_requireResidue 5 = .ok (.invokevirtual 173, 3) := by decide +kernel
theorem d_S_requireResidue_8 : decode b_S_requireResidue 8 = .ok (.ifCond .ne (13), 3) := by decide +kernel
theorem d_S_requireResidue_11 : decode b_S_requireResidue 11 = .ok (.new 42, 3) := by decide +kernel
theorem d_S_requireResidue_14 : decode b_S_requireResidue 14 = .ok (.dup, 1) := by decide +kernel
theorem d_S_requireResidue_15 : decode b_S_requireResidue 15 = .ok (.ldc 177, 2) := by decide +kernel
theorem d_S_requireResidue_17 : decode b_S_requireResidue 17 = .ok (.invokespecial 46, 3) := by decide +kernel
theorem d_S_requireResidue_20 : decode b_S_requireResidue 20 = .ok (.athrow, 1) := by decide +kernel
theorem d_S_requireResidue_21 : decode b_S_requireResidue 21 = .ok (.return_, 1) := by decide +kernel
theorem d_S_requireNotNegative_0 : decode b_S_requireNotNegative 0 = .ok (.lload_n 1, 1) := by decide +kernel
theorem d_S_requireNotNegative_1 : decode b_S_requireNotNegative 1 = .ok (.lconst 0, 1) := by decide +kernel
theorem d_S_requireNotNegative_2 : decode b_S_requireNotNegative 2 = .ok (.lcmp, 1) := by decide +kernel
theorem d_S_requireNotNegative_3 : decode b_S_requireNotNegative 3 = .ok (.ifCond .ge (13), 3) := by decide +kernel
theorem d_S_requireNotNegative_6 : decode b_S_requireNotNegative 6 = .ok (.new 42, 3) := by decide +kernel
theorem d_S_requireNotNegative_9 : decode b_S_requireNotNegative 9 = .ok (.dup, 1) := by decide +kernel
theorem d_S_requireNotNegative_10 : decode b_S_requireNotNegative 10 = .ok (.ldc 179, 2) := by decide +kernel
theorem d_S_requireNotNegative_12 : decode b_S_requireNotNegative 12 = .ok (.invokespecial 46, 3) := by decide +kernel
theorem d_S_requireNotNegative_15 : decode b_S_requireNotNegative 15 = .ok (.athrow, 1) := by decide +kernel
theorem d_S_requireNotNegative_16 : decode b_S_requireNotNegative 16 = .ok (.return_, 1) := by decide +kernel
theorem d_S_requirePatterns_0 : decode b_S_requirePatterns 0 = .ok (.iload_n 1, 1) := by decide +kernel
theorem d_S_requirePatterns_1 : decode b_S_requirePatterns 1 = .ok (.ifCond .lt (10), 3) := by decide +kernel
theorem d_S_requirePatterns_4 : decode b_S_requirePatterns 4 = .ok (.iload_n 1, 1) := by decide +kernel
theorem d_S_requirePatterns_5 : decode b_S_requirePatterns 5 = .ok (.sipush (256), 3) := by decide +kernel
theorem d_S_requirePatterns_8 : decode b_S_requirePatterns 8 = .ok (.if_icmp .le (13), 3) := by decide +kernel
theorem d_S_requirePatterns_11 : decode b_S_requirePatterns 11 = .ok (.new 42, 3) := by decide +kernel
theorem d_S_requirePatterns_14 : decode b_S_requirePatterns 14 = .ok (.dup, 1) := by decide +kernel
theorem d_S_requirePatterns_15 : decode b_S_requirePatterns 15 = .ok (.ldc 181, 2) := by decide +kernel
theorem d_S_requirePatterns_17 : decode b_S_requirePatterns 17 = .ok (.invokespecial 46, 3) := by decide +kernel
theorem d_S_requirePatterns_20 : decode b_S_requirePatterns 20 = .ok (.athrow, 1) := by decide +kernel
theorem d_S_requirePatterns_21 : decode b_S_requirePatterns 21 = .ok (.return_, 1) := by decide +kernel
theorem d_S_requireLine_0 : decode b_S_requireLine 0 = .ok (.iload_n 1, 1) := by decide +kernel
theorem d_S_requireLine_1 : decode b_S_requireLine 1 = .ok (.ifCond .lt (14), 3) := by decide +kernel
theorem d_S_requireLine_4 : decode b_S_requireLine 4 = .ok (.iload_n 1, 1) := by decide +kernel
theorem d_S_requireLine_5 : decode b_S_requireLine 5 = .ok (.aload_n 0, 1) := by decide +kernel
theorem d_S_requireLine_6 : decode b_S_requireLine 6 = .ok (.getfield 19, 3) := by decide +kernel
theorem d_S_requireLine_9 : decode b_S_requireLine 9 = .ok (.invokevirtual 183, 3) := by decide +kernel
theorem d_S_requireLine_12 : decode b_S_requireLine 12 = .ok (.if_icmp .lt (13), 3) := by decide +kernel
theorem d_S_requireLine_15 : decode b_S_requireLine 15 = .ok (.new 144, 3) := by decide +kernel
theorem d_S_requireLine_18 : decode b_S_requireLine 18 = .ok (.dup, 1) := by decide +kernel
theorem d_S_requireLine_19 : decode b_S_requireLine 19 = .ok (.ldc 186, 2) := by decide +kernel
theorem d_S_requireLine_21 : decode b_S_requireLine 21 = .ok (.invokespecial 148, 3) := by decide +kernel
theorem d_S_requireLine_24 : decode b_S_requireLine 24 = .ok (.athrow, 1) := by decide +kernel
theorem d_S_requireLine_25 : decode b_S_requireLine 25 = .ok (.return_, 1) := by decide +kernel
theorem d_S_requireFault_0 : decode b_S_requireFault 0 = .ok (.iload_n 1, 1) := by decide +kernel
theorem d_S_requireFault_1 : decode b_S_requireFault 1 = .ok (.ifCond .lt (14), 3) := by decide +kernel
theorem d_S_requireFault_4 : decode b_S_requireFault 4 = .ok (.iload_n 1, 1) := by decide +kernel
theorem d_S_requireFault_5 : decode b_S_requireFault 5 = .ok (.aload_n 0, 1) := by decide +kernel
theorem d_S_requireFault_6 : decode b_S_requireFault 6 = .ok (.getfield 19, 3) := by decide +kernel
theorem d_S_requireFault_9 : decode b_S_requireFault 9 = .ok (.invokevirtual 149, 3) := by decide +kernel
theorem d_S_requireFault_12 : decode b_S_requireFault 12 = .ok (.if_icmp .lt (13), 3) := by decide +kernel
theorem d_S_requireFault_15 : decode b_S_requireFault 15 = .ok (.new 144, 3) := by decide +kernel
theorem d_S_requireFault_18 : decode b_S_requireFault 18 = .ok (.dup, 1) := by decide +kernel
theorem d_S_requireFault_19 : decode b_S_requireFault 19 = .ok (.ldc 188, 2) := by decide +kernel
theorem d_S_requireFault_21 : decode b_S_requireFault 21 = .ok (.invokespecial 148, 3) := by decide +kernel
theorem d_S_requireFault_24 : decode b_S_requireFault 24 = .ok (.athrow, 1) := by decide +kernel
theorem d_S_requireFault_25 : decode b_S_requireFault 25 = .ok (.return_, 1) := by decide +kernel
theorem d_S_requireFaultOrNone_0 : decode b_S_requireFaultOrNone 0 = .ok (.iload_n 1, 1) := by decide +kernel
theorem d_S_requireFaultOrNone_1 : decode b_S_requireFaultOrNone 1 = .ok (.iconst (-1), 1) := by decide +kernel
theorem d_S_requireFaultOrNone_2 : decode b_S_requireFaultOrNone 2 = .ok (.if_icmp .eq (8), 3) := by decide +kernel
theorem d_S_requireFaultOrNone_5 : decode b_S_requireFaultOrNone 5 = .ok (.aload_n 0, 1) := by decide +kernel
theorem d_S_requireFaultOrNone_6 : decode b_S_requireFaultOrNone 6 = .ok (.iload_n 1, 1) := by decide +kernel
theorem d_S_requireFaultOrNone_7 : decode b_S_requireFaultOrNone 7 = .ok (.invokevirtual 170, 3) := by decide +kernel
theorem d_S_requireFaultOrNone_10 : decode b_S_requireFaultOrNone 10 = .ok (.return_, 1) := by decide +kernel
theorem d_S_patternOf_0 : decode b_S_patternOf 0 = .ok (.iconst (0), 1) := by decide +kernel
theorem d_S_patternOf_1 : decode b_S_patternOf 1 = .ok (.istore_n 3, 1) := by decide +kernel
theorem d_S_patternOf_2 : decode b_S_patternOf 2 = .ok (.iconst (0), 1) := by decide +kernel
theorem d_S_patternOf_3 : decode b_S_patternOf 3 = .ok (.istore 4, 2) := by decide +kernel
theorem d_S_patternOf_5 : decode b_S_patternOf 5 = .ok (.iload 4, 2) := by decide +kernel
theorem d_S_patternOf_7 : decode b_S_patternOf 7 = .ok (.aload_n 0, 1) := by decide +kernel
theorem d_S_patternOf_8 : decode b_S_patternOf 8 = .ok (.getfield 19, 3) := by decide +kernel
theorem d_S_patternOf_11 : decode b_S_patternOf 11 = .ok (.getfield 97, 3) := by decide +kernel
theorem d_S_patternOf_14 : decode b_S_patternOf 14 = .ok (.if_icmp .ge (29), 3) := by decide +kernel
theorem d_S_patternOf_17 : decode b_S_patternOf 17 = .ok (.iload_n 3, 1) := by decide +kernel
theorem d_S_patternOf_18 : decode b_S_patternOf 18 = .ok (.lload_n 1, 1) := by decide +kernel
theorem d_S_patternOf_19 : decode b_S_patternOf 19 = .ok (.aload_n 0, 1) := by decide +kernel
theorem d_S_patternOf_20 : decode b_S_patternOf 20 = .ok (.getfield 30, 3) := by decide +kernel
theorem d_S_patternOf_23 : decode b_S_patternOf 23 = .ok (.iload 4, 2) := by decide +kernel
theorem d_S_patternOf_25 : decode b_S_patternOf 25 = .ok (.laload, 1) := by decide +kernel
theorem d_S_patternOf_26 : decode b_S_patternOf 26 = .ok (.land, 1) := by decide +kernel
theorem d_S_patternOf_27 : decode b_S_patternOf 27 = .ok (.invokestatic 159, 3) := by decide +kernel
theorem d_S_patternOf_30 : decode b_S_patternOf 30 = .ok (.iconst (1), 1) := by decide +kernel
theorem d_S_patternOf_31 : decode b_S_patternOf 31 = .ok (.iand, 1) := by decide +kernel
theorem d_S_patternOf_32 : decode b_S_patternOf 32 = .ok (.iload 4, 2) := by decide +kernel
theorem d_S_patternOf_34 : decode b_S_patternOf 34 = .ok (.ishl, 1) := by decide +kernel
theorem d_S_patternOf_35 : decode b_S_patternOf 35 = .ok (.ior, 1) := by decide +kernel
theorem d_S_patternOf_36 : decode b_S_patternOf 36 = .ok (.istore_n 3, 1) := by decide +kernel
theorem d_S_patternOf_37 : decode b_S_patternOf 37 = .ok (.iinc 4 (1), 3) := by decide +kernel
theorem d_S_patternOf_40 : decode b_S_patternOf 40 = .ok (.goto (-35), 3) := by decide +kernel
theorem d_S_patternOf_43 : decode b_S_patternOf 43 = .ok (.iload_n 3, 1) := by decide +kernel
theorem d_S_patternOf_44 : decode b_S_patternOf 44 = .ok (.ireturn, 1) := by decide +kernel
theorem d_S_compareAllFaults_0 : decode b_S_compareAllFaults 0 = .ok (.aload_n 0, 1) := by decide +kernel
theorem d_S_compareAllFaults_1 : decode b_S_compareAllFaults 1 = .ok (.getfield 26, 3) := by decide +kernel
theorem d_S_compareAllFaults_4 : decode b_S_compareAllFaults 4 = .ok (.invokevirtual 190, 3) := by decide +kernel
theorem d_S_compareAllFaults_7 : decode b_S_compareAllFaults 7 = .ok (.aload_n 0, 1) := by decide +kernel
theorem d_S_compareAllFaults_8 : decode b_S_compareAllFaults 8 = .ok (.getfield 34, 3) := by decide +kernel
theorem d_S_compareAllFaults_11 : decode b_S_compareAllFaults 11 = .ok (.lstore_n 2, 1) := by decide +kernel
theorem d_S_compareAllFaults_12 : decode b_S_compareAllFaults 12 = .ok (.iconst (0), 1) := by decide +kernel
theorem d_S_compareAllFaults_13 : decode b_S_compareAllFaults 13 = .ok (.istore 4, 2) := by decide +kernel
theorem d_S_compareAllFaults_15 : decode b_S_compareAllFaults 15 = .ok (.iload 4, 2) := by decide +kernel
theorem d_S_compareAllFaults_17 : decode b_S_compareAllFaults 17 = .ok (.iload_n 1, 1) := by decide +kernel
theorem d_S_compareAllFaults_18 : decode b_S_compareAllFaults 18 = .ok (.if_icmp .ge (52), 3) := by decide +kernel
theorem d_S_compareAllFaults_21 : decode b_S_compareAllFaults 21 = .ok (.aload_n 0, 1) := by decide +kernel
theorem d_S_compareAllFaults_22 : decode b_S_compareAllFaults 22 = .ok (.getfield 26, 3) := by decide +kernel
theorem d_S_compareAllFaults_25 : decode b_S_compareAllFaults 25 = .ok (.invokevirtual 193, 3) := by decide +kernel
theorem d_S_compareAllFaults_28 : decode b_S_compareAllFaults 28 = .ok (.aload_n 0, 1) := by decide +kernel
theorem d_S_compareAllFaults_29 : decode b_S_compareAllFaults 29 = .ok (.getfield 26, 3) := by decide +kernel
theorem d_S_compareAllFaults_32 : decode b_S_compareAllFaults 32 = .ok (.aload_n 0, 1) := by decide +kernel
theorem d_S_compareAllFaults_33 : decode b_S_compareAllFaults 33 = .ok (.getfield 19, 3) := by decide +kernel
theorem d_S_compareAllFaults_36 : decode b_S_compareAllFaults 36 = .ok (.aload_n 0, 1) := by decide +kernel
theorem d_S_compareAllFaults_37 : decode b_S_compareAllFaults 37 = .ok (.lload_n 2, 1) := by decide +kernel
theorem d_S_compareAllFaults_38 : decode b_S_compareAllFaults 38 = .ok (.invokevirtual 105, 3) := by decide +kernel
theorem d_S_compareAllFaults_41 : decode b_S_compareAllFaults 41 = .ok (.invokevirtual 196, 3) := by decide +kernel
theorem d_S_compareAllFaults_44 : decode b_S_compareAllFaults 44 = .ok (.aload_n 0, 1) := by decide +kernel
theorem d_S_compareAllFaults_45 : decode b_S_compareAllFaults 45 = .ok (.getfield 26, 3) := by decide +kernel
theorem d_S_compareAllFaults_48 : decode b_S_compareAllFaults 48 = .ok (.aload_n 0, 1) := by decide +kernel
theorem d_S_compareAllFaults_49 : decode b_S_compareAllFaults 49 = .ok (.getfield 12, 3) := by decide +kernel
theorem d_S_compareAllFaults_52 : decode b_S_compareAllFaults 52 = .ok (.invokevirtual 200, 3) := by decide +kernel
theorem d_S_compareAllFaults_55 : decode b_S_compareAllFaults 55 = .ok (.aload_n 0, 1) := by decide +kernel
theorem d_S_compareAllFaults_56 : decode b_S_compareAllFaults 56 = .ok (.getfield 12, 3) := by decide +kernel
theorem d_S_compareAllFaults_59 : decode b_S_compareAllFaults 59 = .ok (.lload_n 2, 1) := by decide +kernel
theorem d_S_compareAllFaults_60 : decode b_S_compareAllFaults 60 = .ok (.invokevirtual 141, 3) := by decide +kernel
theorem d_S_compareAllFaults_63 : decode b_S_compareAllFaults 63 = .ok (.lstore_n 2, 1) := by decide +kernel
theorem d_S_compareAllFaults_64 : decode b_S_compareAllFaults 64 = .ok (.iinc 4 (1), 3) := by decide +kernel
theorem d_S_compareAllFaults_67 : decode b_S_compareAllFaults 67 = .ok (.goto (-52), 3) := by decide +kernel
theorem d_S_compareAllFaults_70 : decode b_S_compareAllFaults 70 = .ok (.return_, 1) := by decide +kernel
theorem d_S_lowestBit_0 : decode b_S_lowestBit 0 = .ok (.lload_n 0, 1) := by decide +kernel
theorem d_S_lowestBit_1 : decode b_S_lowestBit 1 = .ok (.lconst 0, 1) := by decide +kernel
theorem d_S_lowestBit_2 : decode b_S_lowestBit 2 = .ok (.lcmp, 1) := by decide +kernel
theorem d_S_lowestBit_3 : decode b_S_lowestBit 3 = .ok (.ifCond .ne (7), 3) := by decide +kernel
theorem d_S_lowestBit_6 : decode b_S_lowestBit 6 = .ok (.iconst (-1), 1) := by decide +kernel
theorem d_S_lowestBit_7 : decode b_S_lowestBit 7 = .ok (.goto (7), 3) := by decide +kernel
theorem d_S_lowestBit_10 : decode b_S_lowestBit 10 = .ok (.lload_n 0, 1) := by decide +kernel
theorem d_S_lowestBit_11 : decode b_S_lowestBit 11 = .ok (.invokestatic 204, 3) := by decide +kernel
theorem d_S_lowestBit_14 : decode b_S_lowestBit 14 = .ok (.ireturn, 1) := by decide +kernel
theorem d_O_init_0 : decode b_O_init 0 = .ok (.aload_n 0, 1) := by decide +kernel
theorem d_O_init_1 : decode b_O_init 1 = .ok (.invokespecial 1, 3) := by decide +kernel
theorem d_O_init_4 : decode b_O_init 4 = .ok (.aload_n 0, 1) := by decide +kernel
theorem d_O_init_5 : decode b_O_init 5 = .ok (.ldc2_w 7, 3) := by decide +kernel
theorem d_O_init_8 : decode b_O_init 8 = .ok (.putfield 9, 3) := by decide +kernel
theorem d_O_init_11 : decode b_O_init 11 = .ok (.aload_n 0, 1) := by decide +kernel
theorem d_O_init_12 : decode b_O_init 12 = .ok (.iconst (1), 1) := by decide +kernel
theorem d_O_init_13 : decode b_O_init 13 = .ok (.putfield 15, 3) := by decide +kernel
theorem d_O_init_16 : decode b_O_init 16 = .ok (.aload_n 0, 1) := by decide +kernel
theorem d_O_init_17 : decode b_O_init 17 = .ok (.lconst 1, 1) := by decide +kernel
theorem d_O_init_18 : decode b_O_init 18 = .ok (.putfield 19, 3) := by decide +kernel
theorem d_O_init_21 : decode b_O_init 21 = .ok (.aload_n 0, 1) := by decide +kernel
theorem d_O_init_22 : decode b_O_init 22 = .ok (.bipush (8), 2) := by decide +kernel
theorem d_O_init_24 : decode b_O_init 24 = .ok (.newarray .long, 2) := by decide +kernel
theorem d_O_init_26 : decode b_O_init 26 = .ok (.putfield 22, 3) := by decide +kernel
theorem d_O_init_29 : decode b_O_init 29 = .ok (.aload_n 0, 1) := by decide +kernel
theorem d_O_init_30 : decode b_O_init 30 = .ok (.bipush (24), 2) := by decide +kernel
theorem d_O_init_32 : decode b_O_init 32 = .ok (.newarray .int, 2) := by decide +kernel
theorem d_O_init_34 : decode b_O_init 34 = .ok (.putfield 26, 3) := by decide +kernel
theorem d_O_init_37 : decode b_O_init 37 = .ok (.aload_n 0, 1) := by decide +kernel
theorem d_O_init_38 : decode b_O_init 38 = .ok (.bipush (24), 2) := by decide +kernel
theorem d_O_init_40 : decode b_O_init 40 = .ok (.newarray .int, 2) := by decide +kernel
theorem d_O_init_42 : decode b_O_init 42 = .ok (.putfield 30, 3) := by decide +kernel
theorem d_O_init_45 : decode b_O_init 45 = .ok (.aload_n 0, 1) := by decide +kernel
theorem d_O_init_46 : decode b_O_init 46 = .ok (.bipush (24), 2) := by decide +kernel
theorem d_O_init_48 : decode b_O_init 48 = .ok (.newarray .int, 2) := by decide +kernel
theorem d_O_init_50 : decode b_O_init 50 = .ok (.putfield 33, 3) := by decide +kernel
theorem d_O_init_53 : decode b_O_init 53 = .ok (.aload_n 0, 1) := by decide +kernel
theorem d_O_init_54 : decode b_O_init 54 = .ok (.bipush (16), 2) := by decide +kernel
theorem d_O_init_56 : decode b_O_init 56 = .ok (.newarray .int, 2) := by decide +kernel
theorem d_O_init_58 : decode b_O_init 58 = .ok (.putfield 36, 3) := by decide +kernel
theorem d_O_init_61 : decode b_O_init 61 = .ok (.aload_n 0, 1) := by decide +kernel
theorem d_O_init_62 : decode b_O_init 62 = .ok (.bipush (32), 2) := by decide +kernel
theorem d_O_init_64 : decode b_O_init 64 = .ok (.newarray .int, 2) := by decide +kernel
theorem d_O_init_66 : decode b_O_init 66 = .ok (.putfield 39, 3) := by decide +kernel
theorem d_O_init_69 : decode b_O_init 69 = .ok (.aload_n 0, 1) := by decide +kernel
theorem d_O_init_70 : decode b_O_init 70 = .ok (.sipush (256), 3) := by decide +kernel
theorem d_O_init_73 : decode b_O_init 73 = .ok (.newarray .int, 2) := by decide +kernel
theorem d_O_init_75 : decode b_O_init 75 = .ok (.putfield 42, 3) := by decide +kernel
theorem d_O_init_78 : decode b_O_init 78 = .ok (.aload_n 0, 1) := by decide +kernel
theorem d_O_init_79 : decode b_O_init 79 = .ok (.sipush (256), 3) := by decide +kernel
theorem d_O_init_82 : decode b_O_init 82 = .ok (.newarray .int, 2) := by decide +kernel
theorem d_O_init_84 : decode b_O_init 84 = .ok (.putfield 45, 3) := by decide +kernel
theorem d_O_init_87 : decode b_O_init 87 = .ok (.return_, 1) := by decide +kernel
theorem d_O_thrown_0 : decode b_O_thrown 0 = .ok (.aload_n 0, 1) := by decide +kernel
theorem d_O_thrown_1 : decode b_O_thrown 1 = .ok (.getfield 48, 3) := by decide +kernel
theorem d_O_thrown_4 : decode b_O_thrown 4 = .ok (.ireturn, 1) := by decide +kernel
theorem d_O_refused_0 : decode b_O_refused 0 = .ok (.aload_n 0, 1) := by decide +kernel
theorem d_O_refused_1 : decode b_O_refused 1 = .ok (.iload_n 1, 1) := by decide +kernel
theorem d_O_refused_2 : decode b_O_refused 2 = .ok (.putfield 48, 3) := by decide +kernel
theorem d_O_refused_5 : decode b_O_refused 5 = .ok (.iload_n 1, 1) := by decide +kernel
theorem d_O_refused_6 : decode b_O_refused 6 = .ok (.ifCond .le (7), 3) := by decide +kernel
theorem d_O_refused_9 : decode b_O_refused 9 = .ok (.iconst (1), 1) := by decide +kernel
theorem d_O_refused_10 : decode b_O_refused 10 = .ok (.goto (4), 3) := by decide +kernel
theorem d_O_refused_13 : decode b_O_refused 13 = .ok (.iconst (0), 1) := by decide +kernel
theorem d_O_refused_14 : decode b_O_refused 14 = .ok (.ireturn, 1) := by decide +kernel
theorem d_O_clearCircuit_0 : decode b_O_clearCircuit 0 = .ok (.aload_n 0, 1) := by decide +kernel
theorem d_O_clearCircuit_1 : decode b_O_clearCircuit 1 = .ok (.iconst (0), 1) := by decide +kernel
theorem d_O_clearCircuit_2 : decode b_O_clearCircuit 2 = .ok (.putfield 51, 3) := by decide +kernel
theorem d_O_clearCircuit_5 : decode b_O_clearCircuit 5 = .ok (.aload_n 0, 1) := by decide +kernel
theorem d_O_clearCircuit_6 : decode b_O_clearCircuit 6 = .ok (.iconst (0), 1) := by decide +kernel
theorem d_O_clearCircuit_7 : decode b_O_clearCircuit 7 = .ok (.putfield 54, 3) := by decide +kernel
theorem d_O_clearCircuit_10 : decode b_O_clearCircuit 10 = .ok (.return_, 1) := by decide +kernel
theorem d_O_polynomial_0 : decode b_O_polynomial 0 = .ok (.iconst (-1), 1) := by decide +kernel
theorem d_O_polynomial_1 : decode b_O_polynomial 1 = .ok (.istore_n 3, 1) := by decide +kernel
theorem d_O_polynomial_2 : decode b_O_polynomial 2 = .ok (.iconst (0), 1) := by decide +kernel
theorem d_O_polynomial_3 : decode b_O_polynomial 3 = .ok (.istore 4, 2) := by decide +kernel
theorem d_O_polynomial_5 : decode b_O_polynomial 5 = .ok (.iload 4, 2) := by decide +kernel
theorem d_O_polynomial_7 : decode b_O_polynomial 7 = .ok (.bipush (64), 2) := by decide +kernel
theorem d_O_polynomial_9 : decode b_O_polynomial 9 = .ok (.if_icmp .ge (27), 3) := by decide +kernel
theorem d_O_polynomial_12 : decode b_O_polynomial 12 = .ok (.lload_n 1, 1) := by decide +kernel
theorem d_O_polynomial_13 : decode b_O_polynomial 13 = .ok (.iload 4, 2) := by decide +kernel
theorem d_O_polynomial_15 : decode b_O_polynomial 15 = .ok (.lshr, 1) := by decide +kernel
theorem d_O_polynomial_16 : decode b_O_polynomial 16 = .ok (.lconst 1, 1) := by decide +kernel
theorem d_O_polynomial_17 : decode b_O_polynomial 17 = .ok (.land, 1) := by decide +kernel
theorem d_O_polynomial_18 : decode b_O_polynomial 18 = .ok (.lconst 1, 1) := by decide +kernel
theorem d_O_polynomial_19 : decode b_O_polynomial 19 = .ok (.lcmp, 1) := by decide +kernel
theorem d_O_polynomial_20 : decode b_O_polynomial 20 = .ok (.ifCond .ne (8), 3) := by decide +kernel
theorem d_O_polynomial_23 : decode b_O_polynomial 23 = .ok (.iload 4, 2) := by decide +kernel
theorem d_O_polynomial_25 : decode b_O_polynomial 25 = .ok (.goto (4), 3) := by decide +kernel
theorem d_O_polynomial_28 : decode b_O_polynomial 28 = .ok (.iload_n 3, 1) := by decide +kernel
theorem d_O_polynomial_29 : decode b_O_polynomial 29 = .ok (.istore_n 3, 1) := by decide +kernel
theorem d_O_polynomial_30 : decode b_O_polynomial 30 = .ok (.iinc 4 (1), 3) := by decide +kernel
theorem d_O_polynomial_33 : decode b_O_polynomial 33 = .ok (.goto (-28), 3) := by decide +kernel
theorem d_O_polynomial_36 : decode b_O_polynomial 36 = .ok (.aload_n 0, 1) := by decide +kernel
theorem d_O_polynomial_37 : decode b_O_polynomial 37 = .ok (.iload_n 3, 1) := by decide +kernel
theorem d_O_polynomial_38 : decode b_O_polynomial 38 = .ok (.iconst (1), 1) := by decide +kernel
theorem d_O_polynomial_39 : decode b_O_polynomial 39 = .ok (.if_icmp .lt (17), 3) := by decide +kernel
theorem d_O_polynomial_42 : decode b_O_polynomial 42 = .ok (.iload_n 3, 1) := by decide +kernel
theorem d_O_polynomial_43 : decode b_O_polynomial 43 = .ok (.bipush (32), 2) := by decide +kernel
theorem d_O_polynomial_45 : decode b_O_polynomial 45 = .ok (.if_icmp .gt (11), 3) := by decide +kernel
theorem d_O_polynomial_48 : decode b_O_polynomial 48 = .ok (.lload_n 1, 1) := by decide +kernel
theorem d_O_polynomial_49 : decode b_O_polynomial 49 = .ok (.lconst 1, 1) := by decide +kernel
theorem d_O_polynomial_50 : decode b_O_polynomial 50 = .ok (.land, 1) := by decide +kernel
theorem d_O_polynomial_51 : decode b_O_polynomial 51 = .ok (.lconst 0, 1) := by decide +kernel
theorem d_O_polynomial_52 : decode b_O_polynomial 52 = .ok (.lcmp, 1) := by decide +kernel
theorem d_O_polynomial_53 : decode b_O_polynomial 53 = .ok (.ifCond .ne (7), 3) := by decide +kernel
theorem d_O_polynomial_56 : decode b_O_polynomial 56 = .ok (.iconst (1), 1) := by decide +kernel
theorem d_O_polynomial_57 : decode b_O_polynomial 57 = .ok (.goto (4), 3) := by decide +kernel
theorem d_O_polynomial_60 : decode b_O_polynomial 60 = .ok (.iconst (0), 1) := by decide +kernel
theorem d_O_polynomial_61 : decode b_O_polynomial 61 = .ok (.invokevirtual 57, 3) := by decide +kernel
theorem d_O_polynomial_64 : decode b_O_polynomial 64 = .ok (.ifCond .eq (5), 3) := by decide +kernel
theorem d_O_polynomial_67 : decode b_O_polynomial 67 = .ok (.iconst (0), 1) := by decide +kernel
theorem d_O_polynomial_68 : decode b_O_polynomial 68 = .ok (.ireturn, 1) := by decide +kernel
theorem d_O_polynomial_69 : decode b_O_polynomial 69 = .ok (.aload_n 0, 1) := by decide +kernel
theorem d_O_polynomial_70 : decode b_O_polynomial 70 = .ok (.lload_n 1, 1) := by decide +kernel
theorem d_O_polynomial_71 : decode b_O_polynomial 71 = .ok (.putfield 9, 3) := by decide +kernel
theorem d_O_polynomial_74 : decode b_O_polynomial 74 = .ok (.aload_n 0, 1) := by decide +kernel
theorem d_O_polynomial_75 : decode b_O_polynomial 75 = .ok (.iload_n 3, 1) := by decide +kernel
theorem d_O_polynomial_76 : decode b_O_polynomial 76 = .ok (.putfield 15, 3) := by decide +kernel
theorem d_O_polynomial_79 : decode b_O_polynomial 79 = .ok (.aload_n 0, 1) := by decide +kernel
theorem d_O_polynomial_80 : decode b_O_polynomial 80 = .ok (.lconst 1, 1) := by decide +kernel
theorem d_O_polynomial_81 : decode b_O_polynomial 81 = .ok (.putfield 19, 3) := by decide +kernel
theorem d_O_polynomial_84 : decode b_O_polynomial 84 = .ok (.aload_n 0, 1) := by decide +kernel
theorem d_O_polynomial_85 : decode b_O_polynomial 85 = .ok (.iconst (0), 1) := by decide +kernel
theorem d_O_polynomial_86 : decode b_O_polynomial 86 = .ok (.putfield 61, 3) := by decide +kernel
theorem d_O_polynomial_89 : decode b_O_polynomial 89 = .ok (.aload_n 0, 1) := by decide +kernel
theorem d_O_polynomial_90 : decode b_O_polynomial 90 = .ok (.lconst 0, 1) := by decide +kernel
theorem d_O_polynomial_91 : decode b_O_polynomial 91 = .ok (.putfield 64, 3) := by decide +kernel
theorem d_O_polynomial_94 : decode b_O_polynomial 94 = .ok (.aload_n 0, 1) := by decide +kernel
theorem d_O_polynomial_95 : decode b_O_polynomial 95 = .ok (.iconst (0), 1) := by decide +kernel
theorem d_O_polynomial_96 : decode b_O_polynomial 96 = .ok (.putfield 67, 3) := by decide +kernel
theorem d_O_polynomial_99 : decode b_O_polynomial 99 = .ok (.aload_n 0, 1) := by decide +kernel
theorem d_O_polynomial_100 : decode b_O_polynomial 100 = .ok (.invokevirtual 70, 3) := by decide +kernel
theorem d_O_polynomial_103 : decode b_O_polynomial 103 = .ok (.iload_n 3, 1) := by decide +kernel
theorem d_O_polynomial_104 : decode b_O_polynomial 104 = .ok (.ireturn, 1) := by decide +kernel
theorem d_O_isResidue_0 : decode b_O_isResidue 0 = .ok (.lload_n 1, 1) := by decide +kernel
theorem d_O_isResidue_1 : decode b_O_isResidue 1 = .ok (.lconst 0, 1) := by decide +kernel
theorem d_O_isResidue_2 : decode b_O_isResidue 2 = .ok (.lcmp, 1) := by decide +kernel
theorem d_O_isResidue_3 : decode b_O_isResidue 3 = .ok (.ifCond .lt (18), 3) := by decide +kernel
theorem d_O_isResidue_6 : decode b_O_isResidue 6 = .ok (.lload_n 1, 1) := by decide +kernel
theorem d_O_isResidue_7 : decode b_O_isResidue 7 = .ok (.lconst 1, 1) := by decide +kernel
theorem d_O_isResidue_8 : decode b_O_isResidue 8 = .ok (.aload_n 0, 1) := by decide +kernel
theorem d_O_isResidue_9 : decode b_O_isResidue 9 = .ok (.getfield 15, 3) := by decide +kernel
theorem d_O_isResidue_12 : decode b_O_isResidue 12 = .ok (.lshl, 1) := by decide +kernel
theorem d_O_isResidue_13 : decode b_O_isResidue 13 = .ok (.lcmp, 1) := by decide +kernel
theorem d_O_isResidue_14 : decode b_O_isResidue 14 = .ok (.ifCond .ge (7), 3) := by decide +kernel
theorem d_O_isResidue_17 : decode b_O_isResidue 17 = .ok (.iconst (1), 1) := by decide +kernel
theorem d_O_isResidue_18 : decode b_O_isResidue 18 = .ok (.goto (4), 3) := by decide +kernel
theorem d_O_isResidue_21 : decode b_O_isResidue 21 = .ok (.iconst (0), 1) := by decide +kernel
theorem d_O_isResidue_22 : decode b_O_isResidue 22 = .ok (.ireturn, 1) := by decide +kernel
theorem d_O_step_0 : decode b_O_step 0 = .ok (.ldc2_w 73, 3) := by decide +kernel
theorem d_O_step_3 : decode b_O_step 3 = .ok (.lload_n 1, 1) := by decide +kernel
theorem d_O_step_4 : decode b_O_step 4 = .ok (.lmul, 1) := by decide +kernel
theorem d_O_step_5 : decode b_O_step 5 = .ok (.lstore_n 3, 1) := by decide +kernel
theorem d_O_step_6 : decode b_O_step 6 = .ok (.lload_n 3, 1) := by decide +kernel
theorem d_O_step_7 : decode b_O_step 7 = .ok (.aload_n 0, 1) := by decide +kernel
theorem d_O_step_8 : decode b_O_step 8 = .ok (.getfield 15, 3) := by decide +kernel
theorem d_O_step_11 : decode b_O_step 11 = .ok (.lshr, 1) := by decide +kernel
theorem d_O_step_12 : decode b_O_step 12 = .ok (.lconst 1, 1) := by decide +kernel
theorem d_O_step_13 : decode b_O_step 13 = .ok (.land, 1) := by decide +kernel
theorem d_O_step_14 : decode b_O_step 14 = .ok (.lconst 1, 1) := by decide +kernel
theorem d_O_step_15 : decode b_O_step 15 = .ok (.lcmp, 1) := by decide +kernel
theorem d_O_step_16 : decode b_O_step 16 = .ok (.ifCond .ne (12), 3) := by decide +kernel
theorem d_O_step_19 : decode b_O_step 19 = .ok (.lload_n 3, 1) := by decide +kernel
theorem d_O_step_20 : decode b_O_step 20 = .ok (.aload_n 0, 1) := by decide +kernel
theorem d_O_step_21 : decode b_O_step 21 = .ok (.getfield 9, 3) := by decide +kernel
theorem d_O_step_24 : decode b_O_step 24 = .ok (.lxor, 1) := by decide +kernel
theorem d_O_step_25 : decode b_O_step 25 = .ok (.goto (4), 3) := by decide +kernel
theorem d_O_step_28 : decode b_O_step 28 = .ok (.lload_n 3, 1) := by decide +kernel
theorem d_O_step_29 : decode b_O_step 29 = .ok (.lreturn, 1) := by decide +kernel
theorem d_O_product_0 : decode b_O_product 0 = .ok (.lconst 0, 1) := by decide +kernel
theorem d_O_product_1 : decode b_O_product 1 = .ok (.lstore 5, 2) := by decide +kernel
theorem d_O_product_3 : decode b_O_product 3 = .ok (.aload_n 0, 1) := by decide +kernel
theorem d_O_product_4 : decode b_O_product 4 = .ok (.getfield 15, 3) := by decide +kernel
theorem d_O_product_7 : decode b_O_product 7 = .ok (.iconst (1), 1) := by decide +kernel
theorem d_O_product_8 : decode b_O_product 8 = .ok (.isub, 1) := by decide +kernel
theorem d_O_product_9 : decode b_O_product 9 = .ok (.istore 7, 2) := by decide +kernel
theorem d_O_product_11 : decode b_O_product 11 = .ok (.iload 7, 2) := by decide +kernel
theorem d_O_product_13 : decode b_O_product 13 = .ok (.ifCond .lt (39), 3) := by decide +kernel
theorem d_O_product_16 : decode b_O_product 16 = .ok (.aload_n 0, 1) := by decide +kernel
theorem d_O_product_17 : decode b_O_product 17 = .ok (.lload 5, 2) := by decide +kernel
theorem d_O_product_19 : decode b_O_product 19 = .ok (.invokevirtual 75, 3) := by decide +kernel
theorem d_O_product_22 : decode b_O_product 22 = .ok (.lstore 5, 2) := by decide +kernel
theorem d_O_product_24 : decode b_O_product 24 = .ok (.lload_n 3, 1) := by decide +kernel
theorem d_O_product_25 : decode b_O_product 25 = .ok (.iload 7, 2) := by decide +kernel
theorem d_O_product_27 : decode b_O_product 27 = .ok (.lshr, 1) := by decide +kernel
theorem d_O_product_28 : decode b_O_product 28 = .ok (.lconst 1, 1) := by decide +kernel
theorem d_O_product_29 : decode b_O_product 29 = .ok (.land, 1) := by decide +kernel
theorem d_O_product_30 : decode b_O_product 30 = .ok (.lconst 1, 1) := by decide +kernel
theorem d_O_product_31 : decode b_O_product 31 = .ok (.lcmp, 1) := by decide +kernel
theorem d_O_product_32 : decode b_O_product 32 = .ok (.ifCond .ne (10), 3) := by decide +kernel
theorem d_O_product_35 : decode b_O_product 35 = .ok (.lload 5, 2) := by decide +kernel
theorem d_O_product_37 : decode b_O_product 37 = .ok (.lload_n 1, 1) := by decide +kernel
theorem d_O_product_38 : decode b_O_product 38 = .ok (.lxor, 1) := by decide +kernel
theorem d_O_product_39 : decode b_O_product 39 = .ok (.goto (5), 3) := by decide +kernel
theorem d_O_product_42 : decode b_O_product 42 = .ok (.lload 5, 2) := by decide +kernel
theorem d_O_product_44 : decode b_O_product 44 = .ok (.lstore 5, 2) := by decide +kernel
theorem d_O_product_46 : decode b_O_product 46 = .ok (.iinc 7 (-1), 3) := by decide +kernel
theorem d_O_product_49 : decode b_O_product 49 = .ok (.goto (-38), 3) := by decide +kernel
theorem d_O_product_52 : decode b_O_product 52 = .ok (.lload 5, 2) := by decide +kernel
end
section
theorem d_O_product_54 : decode b_O_product 54 = .ok (.lreturn, 1) := by decide +kernel
theorem d_O_raised_0 : decode b_O_raised 0 = .ok (.aload_n 0, 1) := by decide +kernel
theorem d_O_raised_1 : decode b_O_raised 1 = .ok (.lconst 1, 1) := by decide +kernel
theorem d_O_raised_2 : decode b_O_raised 2 = .ok (.invokevirtual 79, 3) := by decide +kernel
theorem d_O_raised_5 : decode b_O_raised 5 = .ok (.lstore 5, 2) := by decide +kernel
theorem d_O_raised_7 : decode b_O_raised 7 = .ok (.bipush (62), 2) := by decide +kernel
theorem d_O_raised_9 : decode b_O_raised 9 = .ok (.istore 7, 2) := by decide +kernel
theorem d_O_raised_11 : decode b_O_raised 11 = .ok (.iload 7, 2) := by decide +kernel
theorem d_O_raised_13 : decode b_O_raised 13 = .ok (.ifCond .lt (44), 3) := by decide +kernel
theorem d_O_raised_16 : decode b_O_raised 16 = .ok (.aload_n 0, 1) := by decide +kernel
theorem d_O_raised_17 : decode b_O_raised 17 = .ok (.lload 5, 2) := by decide +kernel
theorem d_O_raised_19 : decode b_O_raised 19 = .ok (.lload 5, 2) := by decide +kernel
theorem d_O_raised_21 : decode b_O_raised 21 = .ok (.invokevirtual 82, 3) := by decide +kernel
theorem d_O_raised_24 : decode b_O_raised 24 = .ok (.lstore 5, 2) := by decide +kernel
theorem d_O_raised_26 : decode b_O_raised 26 = .ok (.lload_n 3, 1) := by decide +kernel
theorem d_O_raised_27 : decode b_O_raised 27 = .ok (.iload 7, 2) := by decide +kernel
theorem d_O_raised_29 : decode b_O_raised 29 = .ok (.lshr, 1) := by decide +kernel
theorem d_O_raised_30 : decode b_O_raised 30 = .ok (.lconst 1, 1) := by decide +kernel
theorem d_O_raised_31 : decode b_O_raised 31 = .ok (.land, 1) := by decide +kernel
theorem d_O_raised_32 : decode b_O_raised 32 = .ok (.lconst 1, 1) := by decide +kernel
theorem d_O_raised_33 : decode b_O_raised 33 = .ok (.lcmp, 1) := by decide +kernel
theorem d_O_raised_34 : decode b_O_raised 34 = .ok (.ifCond .ne (13), 3) := by decide +kernel
theorem d_O_raised_37 : decode b_O_raised 37 = .ok (.aload_n 0, 1) := by decide +kernel
theorem d_O_raised_38 : decode b_O_raised 38 = .ok (.lload 5, 2) := by decide +kernel
theorem d_O_raised_40 : decode b_O_raised 40 = .ok (.lload_n 1, 1) := by decide +kernel
theorem d_O_raised_41 : decode b_O_raised 41 = .ok (.invokevirtual 82, 3) := by decide +kernel
theorem d_O_raised_44 : decode b_O_raised 44 = .ok (.goto (5), 3) := by decide +kernel
theorem d_O_raised_47 : decode b_O_raised 47 = .ok (.lload 5, 2) := by decide +kernel
theorem d_O_raised_49 : decode b_O_raised 49 = .ok (.lstore 5, 2) := by decide +kernel
theorem d_O_raised_51 : decode b_O_raised 51 = .ok (.iinc 7 (-1), 3) := by decide +kernel
theorem d_O_raised_54 : decode b_O_raised 54 = .ok (.goto (-43), 3) := by decide +kernel
theorem d_O_raised_57 : decode b_O_raised 57 = .ok (.lload 5, 2) := by decide +kernel
theorem d_O_raised_59 : decode b_O_raised 59 = .ok (.lreturn, 1) := by decide +kernel
theorem d_O_left_0 : decode b_O_left 0 = .ok (.lload_n 0, 1) := by decide +kernel
theorem d_O_left_1 : decode b_O_left 1 = .ok (.lstore 5, 2) := by decide +kernel
theorem d_O_left_3 : decode b_O_left 3 = .ok (.bipush (63), 2) := by decide +kernel
theorem d_O_left_5 : decode b_O_left 5 = .ok (.istore 7, 2) := by decide +kernel
theorem d_O_left_7 : decode b_O_left 7 = .ok (.iload 7, 2) := by decide +kernel
theorem d_O_left_9 : decode b_O_left 9 = .ok (.iload 4, 2) := by decide +kernel
theorem d_O_left_11 : decode b_O_left 11 = .ok (.if_icmp .lt (38), 3) := by decide +kernel
theorem d_O_left_14 : decode b_O_left 14 = .ok (.lload 5, 2) := by decide +kernel
theorem d_O_left_16 : decode b_O_left 16 = .ok (.iload 7, 2) := by decide +kernel
theorem d_O_left_18 : decode b_O_left 18 = .ok (.lshr, 1) := by decide +kernel
theorem d_O_left_19 : decode b_O_left 19 = .ok (.lconst 1, 1) := by decide +kernel
theorem d_O_left_20 : decode b_O_left 20 = .ok (.land, 1) := by decide +kernel
theorem d_O_left_21 : decode b_O_left 21 = .ok (.lconst 1, 1) := by decide +kernel
theorem d_O_left_22 : decode b_O_left 22 = .ok (.lcmp, 1) := by decide +kernel
theorem d_O_left_23 : decode b_O_left 23 = .ok (.ifCond .ne (16), 3) := by decide +kernel
theorem d_O_left_26 : decode b_O_left 26 = .ok (.lload 5, 2) := by decide +kernel
theorem d_O_left_28 : decode b_O_left 28 = .ok (.lload_n 2, 1) := by decide +kernel
theorem d_O_left_29 : decode b_O_left 29 = .ok (.iload 7, 2) := by decide +kernel
theorem d_O_left_31 : decode b_O_left 31 = .ok (.iload 4, 2) := by decide +kernel
theorem d_O_left_33 : decode b_O_left 33 = .ok (.isub, 1) := by decide +kernel
theorem d_O_left_34 : decode b_O_left 34 = .ok (.lshl, 1) := by decide +kernel
theorem d_O_left_35 : decode b_O_left 35 = .ok (.lxor, 1) := by decide +kernel
theorem d_O_left_36 : decode b_O_left 36 = .ok (.goto (5), 3) := by decide +kernel
theorem d_O_left_39 : decode b_O_left 39 = .ok (.lload 5, 2) := by decide +kernel
theorem d_O_left_41 : decode b_O_left 41 = .ok (.lstore 5, 2) := by decide +kernel
theorem d_O_left_43 : decode b_O_left 43 = .ok (.iinc 7 (-1), 3) := by decide +kernel
theorem d_O_left_46 : decode b_O_left 46 = .ok (.goto (-39), 3) := by decide +kernel
theorem d_O_left_49 : decode b_O_left 49 = .ok (.lload 5, 2) := by decide +kernel
theorem d_O_left_51 : decode b_O_left 51 = .ok (.lreturn, 1) := by decide +kernel
theorem d_O_reduced_0 : decode b_O_reduced 0 = .ok (.lload_n 1, 1) := by decide +kernel
theorem d_O_reduced_1 : decode b_O_reduced 1 = .ok (.aload_n 0, 1) := by decide +kernel
theorem d_O_reduced_2 : decode b_O_reduced 2 = .ok (.getfield 9, 3) := by decide +kernel
theorem d_O_reduced_5 : decode b_O_reduced 5 = .ok (.aload_n 0, 1) := by decide +kernel
theorem d_O_reduced_6 : decode b_O_reduced 6 = .ok (.getfield 15, 3) := by decide +kernel
theorem d_O_reduced_9 : decode b_O_reduced 9 = .ok (.invokestatic 86, 3) := by decide +kernel
theorem d_O_reduced_12 : decode b_O_reduced 12 = .ok (.lreturn, 1) := by decide +kernel
theorem d_O_times_0 : decode b_O_times 0 = .ok (.aload_n 0, 1) := by decide +kernel
theorem d_O_times_1 : decode b_O_times 1 = .ok (.aload_n 0, 1) := by decide +kernel
theorem d_O_times_2 : decode b_O_times 2 = .ok (.lload_n 1, 1) := by decide +kernel
theorem d_O_times_3 : decode b_O_times 3 = .ok (.invokevirtual 90, 3) := by decide +kernel
theorem d_O_times_6 : decode b_O_times 6 = .ok (.ifCond .eq (15), 3) := by decide +kernel
theorem d_O_times_9 : decode b_O_times 9 = .ok (.aload_n 0, 1) := by decide +kernel
theorem d_O_times_10 : decode b_O_times 10 = .ok (.lload_n 3, 1) := by decide +kernel
theorem d_O_times_11 : decode b_O_times 11 = .ok (.invokevirtual 90, 3) := by decide +kernel
theorem d_O_times_14 : decode b_O_times 14 = .ok (.ifCond .eq (7), 3) := by decide +kernel
theorem d_O_times_17 : decode b_O_times 17 = .ok (.iconst (0), 1) := by decide +kernel
theorem d_O_times_18 : decode b_O_times 18 = .ok (.goto (4), 3) := by decide +kernel
theorem d_O_times_21 : decode b_O_times 21 = .ok (.iconst (1), 1) := by decide +kernel
theorem d_O_times_22 : decode b_O_times 22 = .ok (.invokevirtual 57, 3) := by decide +kernel
theorem d_O_times_25 : decode b_O_times 25 = .ok (.ifCond .eq (7), 3) := by decide +kernel
theorem d_O_times_28 : decode b_O_times 28 = .ok (.lconst 0, 1) := by decide +kernel
theorem d_O_times_29 : decode b_O_times 29 = .ok (.goto (9), 3) := by decide +kernel
theorem d_O_times_32 : decode b_O_times 32 = .ok (.aload_n 0, 1) := by decide +kernel
theorem d_O_times_33 : decode b_O_times 33 = .ok (.lload_n 1, 1) := by decide +kernel
theorem d_O_times_34 : decode b_O_times 34 = .ok (.lload_n 3, 1) := by decide +kernel
theorem d_O_times_35 : decode b_O_times 35 = .ok (.invokevirtual 82, 3) := by decide +kernel
theorem d_O_times_38 : decode b_O_times 38 = .ok (.lreturn, 1) := by decide +kernel
theorem d_O_power_0 : decode b_O_power 0 = .ok (.aload_n 0, 1) := by decide +kernel
theorem d_O_power_1 : decode b_O_power 1 = .ok (.aload_n 0, 1) := by decide +kernel
theorem d_O_power_2 : decode b_O_power 2 = .ok (.lload_n 1, 1) := by decide +kernel
theorem d_O_power_3 : decode b_O_power 3 = .ok (.invokevirtual 90, 3) := by decide +kernel
theorem d_O_power_6 : decode b_O_power 6 = .ok (.ifCond .eq (13), 3) := by decide +kernel
theorem d_O_power_9 : decode b_O_power 9 = .ok (.lload_n 3, 1) := by decide +kernel
theorem d_O_power_10 : decode b_O_power 10 = .ok (.lconst 0, 1) := by decide +kernel
theorem d_O_power_11 : decode b_O_power 11 = .ok (.lcmp, 1) := by decide +kernel
theorem d_O_power_12 : decode b_O_power 12 = .ok (.ifCond .lt (7), 3) := by decide +kernel
theorem d_O_power_15 : decode b_O_power 15 = .ok (.iconst (0), 1) := by decide +kernel
theorem d_O_power_16 : decode b_O_power 16 = .ok (.goto (4), 3) := by decide +kernel
theorem d_O_power_19 : decode b_O_power 19 = .ok (.iconst (1), 1) := by decide +kernel
theorem d_O_power_20 : decode b_O_power 20 = .ok (.invokevirtual 57, 3) := by decide +kernel
theorem d_O_power_23 : decode b_O_power 23 = .ok (.ifCond .eq (7), 3) := by decide +kernel
theorem d_O_power_26 : decode b_O_power 26 = .ok (.lconst 0, 1) := by decide +kernel
theorem d_O_power_27 : decode b_O_power 27 = .ok (.goto (9), 3) := by decide +kernel
theorem d_O_power_30 : decode b_O_power 30 = .ok (.aload_n 0, 1) := by decide +kernel
theorem d_O_power_31 : decode b_O_power 31 = .ok (.lload_n 1, 1) := by decide +kernel
theorem d_O_power_32 : decode b_O_power 32 = .ok (.lload_n 3, 1) := by decide +kernel
theorem d_O_power_33 : decode b_O_power 33 = .ok (.invokevirtual 94, 3) := by decide +kernel
theorem d_O_power_36 : decode b_O_power 36 = .ok (.lreturn, 1) := by decide +kernel
theorem d_O_residue_0 : decode b_O_residue 0 = .ok (.aload_n 0, 1) := by decide +kernel
theorem d_O_residue_1 : decode b_O_residue 1 = .ok (.iconst (0), 1) := by decide +kernel
theorem d_O_residue_2 : decode b_O_residue 2 = .ok (.putfield 48, 3) := by decide +kernel
theorem d_O_residue_5 : decode b_O_residue 5 = .ok (.aload_n 0, 1) := by decide +kernel
theorem d_O_residue_6 : decode b_O_residue 6 = .ok (.lload_n 1, 1) := by decide +kernel
theorem d_O_residue_7 : decode b_O_residue 7 = .ok (.invokevirtual 79, 3) := by decide +kernel
theorem d_O_residue_10 : decode b_O_residue 10 = .ok (.lreturn, 1) := by decide +kernel
theorem d_O_isProduct_0 : decode b_O_isProduct 0 = .ok (.iconst (1), 1) := by decide +kernel
theorem d_O_isProduct_1 : decode b_O_isProduct 1 = .ok (.istore_n 1, 1) := by decide +kernel
theorem d_O_isProduct_2 : decode b_O_isProduct 2 = .ok (.iconst (2), 1) := by decide +kernel
theorem d_O_isProduct_3 : decode b_O_isProduct 3 = .ok (.iload_n 1, 1) := by decide +kernel
theorem d_O_isProduct_4 : decode b_O_isProduct 4 = .ok (.imul, 1) := by decide +kernel
theorem d_O_isProduct_5 : decode b_O_isProduct 5 = .ok (.aload_n 0, 1) := by decide +kernel
theorem d_O_isProduct_6 : decode b_O_isProduct 6 = .ok (.getfield 15, 3) := by decide +kernel
theorem d_O_isProduct_9 : decode b_O_isProduct 9 = .ok (.if_icmp .gt (95), 3) := by decide +kernel
theorem d_O_isProduct_12 : decode b_O_isProduct 12 = .ok (.lconst 1, 1) := by decide +kernel
theorem d_O_isProduct_13 : decode b_O_isProduct 13 = .ok (.iload_n 1, 1) := by decide +kernel
theorem d_O_isProduct_14 : decode b_O_isProduct 14 = .ok (.lshl, 1) := by decide +kernel
theorem d_O_isProduct_15 : decode b_O_isProduct 15 = .ok (.lconst 1, 1) := by decide +kernel
theorem d_O_isProduct_16 : decode b_O_isProduct 16 = .ok (.ladd, 1) := by decide +kernel
theorem d_O_isProduct_17 : decode b_O_isProduct 17 = .ok (.lstore_n 2, 1) := by decide +kernel
theorem d_O_isProduct_18 : decode b_O_isProduct 18 = .ok (.lload_n 2, 1) := by decide +kernel
theorem d_O_isProduct_19 : decode b_O_isProduct 19 = .ok (.ldc2_w 73, 3) := by decide +kernel
theorem d_O_isProduct_22 : decode b_O_isProduct 22 = .ok (.iload_n 1, 1) := by decide +kernel
theorem d_O_isProduct_23 : decode b_O_isProduct 23 = .ok (.lshl, 1) := by decide +kernel
theorem d_O_isProduct_24 : decode b_O_isProduct 24 = .ok (.lcmp, 1) := by decide +kernel
theorem d_O_isProduct_25 : decode b_O_isProduct 25 = .ok (.ifCond .ge (73), 3) := by decide +kernel
theorem d_O_isProduct_28 : decode b_O_isProduct 28 = .ok (.aload_n 0, 1) := by decide +kernel
theorem d_O_isProduct_29 : decode b_O_isProduct 29 = .ok (.getfield 9, 3) := by decide +kernel
theorem d_O_isProduct_32 : decode b_O_isProduct 32 = .ok (.lstore 4, 2) := by decide +kernel
theorem d_O_isProduct_34 : decode b_O_isProduct 34 = .ok (.aload_n 0, 1) := by decide +kernel
theorem d_O_isProduct_35 : decode b_O_isProduct 35 = .ok (.getfield 15, 3) := by decide +kernel
theorem d_O_isProduct_38 : decode b_O_isProduct 38 = .ok (.istore 6, 2) := by decide +kernel
theorem d_O_isProduct_40 : decode b_O_isProduct 40 = .ok (.iload 6, 2) := by decide +kernel
theorem d_O_isProduct_42 : decode b_O_isProduct 42 = .ok (.iload_n 1, 1) := by decide +kernel
theorem d_O_isProduct_43 : decode b_O_isProduct 43 = .ok (.if_icmp .lt (37), 3) := by decide +kernel
theorem d_O_isProduct_46 : decode b_O_isProduct 46 = .ok (.lload 4, 2) := by decide +kernel
theorem d_O_isProduct_48 : decode b_O_isProduct 48 = .ok (.iload 6, 2) := by decide +kernel
theorem d_O_isProduct_50 : decode b_O_isProduct 50 = .ok (.lshr, 1) := by decide +kernel
theorem d_O_isProduct_51 : decode b_O_isProduct 51 = .ok (.lconst 1, 1) := by decide +kernel
theorem d_O_isProduct_52 : decode b_O_isProduct 52 = .ok (.land, 1) := by decide +kernel
theorem d_O_isProduct_53 : decode b_O_isProduct 53 = .ok (.lconst 1, 1) := by decide +kernel
theorem d_O_isProduct_54 : decode b_O_isProduct 54 = .ok (.lcmp, 1) := by decide +kernel
theorem d_O_isProduct_55 : decode b_O_isProduct 55 = .ok (.ifCond .ne (15), 3) := by decide +kernel
theorem d_O_isProduct_58 : decode b_O_isProduct 58 = .ok (.lload 4, 2) := by decide +kernel
theorem d_O_isProduct_60 : decode b_O_isProduct 60 = .ok (.lload_n 2, 1) := by decide +kernel
theorem d_O_isProduct_61 : decode b_O_isProduct 61 = .ok (.iload 6, 2) := by decide +kernel
theorem d_O_isProduct_63 : decode b_O_isProduct 63 = .ok (.iload_n 1, 1) := by decide +kernel
theorem d_O_isProduct_64 : decode b_O_isProduct 64 = .ok (.isub, 1) := by decide +kernel
theorem d_O_isProduct_65 : decode b_O_isProduct 65 = .ok (.lshl, 1) := by decide +kernel
theorem d_O_isProduct_66 : decode b_O_isProduct 66 = .ok (.lxor, 1) := by decide +kernel
theorem d_O_isProduct_67 : decode b_O_isProduct 67 = .ok (.goto (5), 3) := by decide +kernel
theorem d_O_isProduct_70 : decode b_O_isProduct 70 = .ok (.lload 4, 2) := by decide +kernel
theorem d_O_isProduct_72 : decode b_O_isProduct 72 = .ok (.lstore 4, 2) := by decide +kernel
theorem d_O_isProduct_74 : decode b_O_isProduct 74 = .ok (.iinc 6 (-1), 3) := by decide +kernel
theorem d_O_isProduct_77 : decode b_O_isProduct 77 = .ok (.goto (-37), 3) := by decide +kernel
theorem d_O_isProduct_80 : decode b_O_isProduct 80 = .ok (.lload 4, 2) := by decide +kernel
theorem d_O_isProduct_82 : decode b_O_isProduct 82 = .ok (.lconst 0, 1) := by decide +kernel
theorem d_O_isProduct_83 : decode b_O_isProduct 83 = .ok (.lcmp, 1) := by decide +kernel
theorem d_O_isProduct_84 : decode b_O_isProduct 84 = .ok (.ifCond .ne (5), 3) := by decide +kernel
theorem d_O_isProduct_87 : decode b_O_isProduct 87 = .ok (.iconst (1), 1) := by decide +kernel
theorem d_O_isProduct_88 : decode b_O_isProduct 88 = .ok (.ireturn, 1) := by decide +kernel
theorem d_O_isProduct_89 : decode b_O_isProduct 89 = .ok (.lload_n 2, 1) := by decide +kernel
theorem d_O_isProduct_90 : decode b_O_isProduct 90 = .ok (.ldc2_w 73, 3) := by decide +kernel
theorem d_O_isProduct_93 : decode b_O_isProduct 93 = .ok (.ladd, 1) := by decide +kernel
theorem d_O_isProduct_94 : decode b_O_isProduct 94 = .ok (.lstore_n 2, 1) := by decide +kernel
theorem d_O_isProduct_95 : decode b_O_isProduct 95 = .ok (.goto (-77), 3) := by decide +kernel
theorem d_O_isProduct_98 : decode b_O_isProduct 98 = .ok (.iinc 1 (1), 3) := by decide +kernel
theorem d_O_isProduct_101 : decode b_O_isProduct 101 = .ok (.goto (-99), 3) := by decide +kernel
theorem d_O_isProduct_104 : decode b_O_isProduct 104 = .ok (.iconst (0), 1) := by decide +kernel
theorem d_O_isProduct_105 : decode b_O_isProduct 105 = .ok (.ireturn, 1) := by decide +kernel
theorem d_O_irreducible_0 : decode b_O_irreducible 0 = .ok (.aload_n 0, 1) := by decide +kernel
theorem d_O_irreducible_1 : decode b_O_irreducible 1 = .ok (.iconst (0), 1) := by decide +kernel
theorem d_O_irreducible_2 : decode b_O_irreducible 2 = .ok (.putfield 48, 3) := by decide +kernel
theorem d_O_irreducible_5 : decode b_O_irreducible 5 = .ok (.aload_n 0, 1) := by decide +kernel
theorem d_O_irreducible_6 : decode b_O_irreducible 6 = .ok (.getfield 61, 3) := by decide +kernel
theorem d_O_irreducible_9 : decode b_O_irreducible 9 = .ok (.ifCond .ne (19), 3) := by decide +kernel
theorem d_O_irreducible_12 : decode b_O_irreducible 12 = .ok (.aload_n 0, 1) := by decide +kernel
theorem d_O_irreducible_13 : decode b_O_irreducible 13 = .ok (.aload_n 0, 1) := by decide +kernel
theorem d_O_irreducible_14 : decode b_O_irreducible 14 = .ok (.invokevirtual 97, 3) := by decide +kernel
theorem d_O_irreducible_17 : decode b_O_irreducible 17 = .ok (.ifCond .eq (7), 3) := by decide +kernel
theorem d_O_irreducible_20 : decode b_O_irreducible 20 = .ok (.iconst (1), 1) := by decide +kernel
theorem d_O_irreducible_21 : decode b_O_irreducible 21 = .ok (.goto (4), 3) := by decide +kernel
theorem d_O_irreducible_24 : decode b_O_irreducible 24 = .ok (.iconst (2), 1) := by decide +kernel
theorem d_O_irreducible_25 : decode b_O_irreducible 25 = .ok (.putfield 61, 3) := by decide +kernel
theorem d_O_irreducible_28 : decode b_O_irreducible 28 = .ok (.aload_n 0, 1) := by decide +kernel
theorem d_O_irreducible_29 : decode b_O_irreducible 29 = .ok (.getfield 61, 3) := by decide +kernel
theorem d_O_irreducible_32 : decode b_O_irreducible 32 = .ok (.iconst (2), 1) := by decide +kernel
theorem d_O_irreducible_33 : decode b_O_irreducible 33 = .ok (.if_icmp .ne (7), 3) := by decide +kernel
theorem d_O_irreducible_36 : decode b_O_irreducible 36 = .ok (.iconst (1), 1) := by decide +kernel
theorem d_O_irreducible_37 : decode b_O_irreducible 37 = .ok (.goto (4), 3) := by decide +kernel
theorem d_O_irreducible_40 : decode b_O_irreducible 40 = .ok (.iconst (0), 1) := by decide +kernel
theorem d_O_irreducible_41 : decode b_O_irreducible 41 = .ok (.ireturn, 1) := by decide +kernel
theorem d_O_primitive_0 : decode b_O_primitive 0 = .ok (.aload_n 0, 1) := by decide +kernel
theorem d_O_primitive_1 : decode b_O_primitive 1 = .ok (.iconst (0), 1) := by decide +kernel
theorem d_O_primitive_2 : decode b_O_primitive 2 = .ok (.putfield 48, 3) := by decide +kernel
theorem d_O_primitive_5 : decode b_O_primitive 5 = .ok (.lconst 1, 1) := by decide +kernel
theorem d_O_primitive_6 : decode b_O_primitive 6 = .ok (.aload_n 0, 1) := by decide +kernel
theorem d_O_primitive_7 : decode b_O_primitive 7 = .ok (.getfield 15, 3) := by decide +kernel
theorem d_O_primitive_10 : decode b_O_primitive 10 = .ok (.lshl, 1) := by decide +kernel
theorem d_O_primitive_11 : decode b_O_primitive 11 = .ok (.lconst 1, 1) := by decide +kernel
theorem d_O_primitive_12 : decode b_O_primitive 12 = .ok (.lsub, 1) := by decide +kernel
theorem d_O_primitive_13 : decode b_O_primitive 13 = .ok (.lstore_n 1, 1) := by decide +kernel
theorem d_O_primitive_14 : decode b_O_primitive 14 = .ok (.aload_n 0, 1) := by decide +kernel
theorem d_O_primitive_15 : decode b_O_primitive 15 = .ok (.ldc2_w 73, 3) := by decide +kernel
theorem d_O_primitive_18 : decode b_O_primitive 18 = .ok (.invokevirtual 79, 3) := by decide +kernel
theorem d_O_primitive_21 : decode b_O_primitive 21 = .ok (.lstore_n 3, 1) := by decide +kernel
theorem d_O_primitive_22 : decode b_O_primitive 22 = .ok (.aload_n 0, 1) := by decide +kernel
theorem d_O_primitive_23 : decode b_O_primitive 23 = .ok (.lload_n 3, 1) := by decide +kernel
theorem d_O_primitive_24 : decode b_O_primitive 24 = .ok (.lload_n 1, 1) := by decide +kernel
theorem d_O_primitive_25 : decode b_O_primitive 25 = .ok (.invokevirtual 94, 3) := by decide +kernel
theorem d_O_primitive_28 : decode b_O_primitive 28 = .ok (.lconst 1, 1) := by decide +kernel
theorem d_O_primitive_29 : decode b_O_primitive 29 = .ok (.lcmp, 1) := by decide +kernel
theorem d_O_primitive_30 : decode b_O_primitive 30 = .ok (.ifCond .eq (5), 3) := by decide +kernel
theorem d_O_primitive_33 : decode b_O_primitive 33 = .ok (.iconst (0), 1) := by decide +kernel
theorem d_O_primitive_34 : decode b_O_primitive 34 = .ok (.ireturn, 1) := by decide +kernel
theorem d_O_primitive_35 : decode b_O_primitive 35 = .ok (.lload_n 1, 1) := by decide +kernel
theorem d_O_primitive_36 : decode b_O_primitive 36 = .ok (.lstore 5, 2) := by decide +kernel
theorem d_O_primitive_38 : decode b_O_primitive 38 = .ok (.iconst (1), 1) := by decide +kernel
theorem d_O_primitive_39 : decode b_O_primitive 39 = .ok (.istore 7, 2) := by decide +kernel
theorem d_O_primitive_41 : decode b_O_primitive 41 = .ok (.ldc2_w 73, 3) := by decide +kernel
theorem d_O_primitive_44 : decode b_O_primitive 44 = .ok (.lstore 8, 2) := by decide +kernel
theorem d_O_primitive_46 : decode b_O_primitive 46 = .ok (.lload 8, 2) := by decide +kernel
theorem d_O_primitive_48 : decode b_O_primitive 48 = .ok (.lload 8, 2) := by decide +kernel
theorem d_O_primitive_50 : decode b_O_primitive 50 = .ok (.lmul, 1) := by decide +kernel
theorem d_O_primitive_51 : decode b_O_primitive 51 = .ok (.lload_n 1, 1) := by decide +kernel
theorem d_O_primitive_52 : decode b_O_primitive 52 = .ok (.lcmp, 1) := by decide +kernel
theorem d_O_primitive_53 : decode b_O_primitive 53 = .ok (.ifCond .gt (68), 3) := by decide +kernel
theorem d_O_primitive_56 : decode b_O_primitive 56 = .ok (.lload 5, 2) := by decide +kernel
theorem d_O_primitive_58 : decode b_O_primitive 58 = .ok (.lload 8, 2) := by decide +kernel
theorem d_O_primitive_60 : decode b_O_primitive 60 = .ok (.lrem, 1) := by decide +kernel
theorem d_O_primitive_61 : decode b_O_primitive 61 = .ok (.lconst 0, 1) := by decide +kernel
theorem d_O_primitive_62 : decode b_O_primitive 62 = .ok (.lcmp, 1) := by decide +kernel
theorem d_O_primitive_63 : decode b_O_primitive 63 = .ok (.ifCond .ne (29), 3) := by decide +kernel
theorem d_O_primitive_66 : decode b_O_primitive 66 = .ok (.iload 7, 2) := by decide +kernel
theorem d_O_primitive_68 : decode b_O_primitive 68 = .ok (.ifCond .eq (21), 3) := by decide +kernel
theorem d_O_primitive_71 : decode b_O_primitive 71 = .ok (.aload_n 0, 1) := by decide +kernel
theorem d_O_primitive_72 : decode b_O_primitive 72 = .ok (.lload_n 3, 1) := by decide +kernel
theorem d_O_primitive_73 : decode b_O_primitive 73 = .ok (.lload_n 1, 1) := by decide +kernel
theorem d_O_primitive_74 : decode b_O_primitive 74 = .ok (.lload 8, 2) := by decide +kernel
theorem d_O_primitive_76 : decode b_O_primitive 76 = .ok (.ldiv, 1) := by decide +kernel
theorem d_O_primitive_77 : decode b_O_primitive 77 = .ok (.invokevirtual 94, 3) := by decide +kernel
theorem d_O_primitive_80 : decode b_O_primitive 80 = .ok (.lconst 1, 1) := by decide +kernel
theorem d_O_primitive_81 : decode b_O_primitive 81 = .ok (.lcmp, 1) := by decide +kernel
theorem d_O_primitive_82 : decode b_O_primitive 82 = .ok (.ifCond .eq (7), 3) := by decide +kernel
theorem d_O_primitive_85 : decode b_O_primitive 85 = .ok (.iconst (1), 1) := by decide +kernel
theorem d_O_primitive_86 : decode b_O_primitive 86 = .ok (.goto (4), 3) := by decide +kernel
theorem d_O_primitive_89 : decode b_O_primitive 89 = .ok (.iconst (0), 1) := by decide +kernel
theorem d_O_primitive_90 : decode b_O_primitive 90 = .ok (.istore 7, 2) := by decide +kernel
theorem d_O_primitive_92 : decode b_O_primitive 92 = .ok (.lload 5, 2) := by decide +kernel
theorem d_O_primitive_94 : decode b_O_primitive 94 = .ok (.lload 8, 2) := by decide +kernel
theorem d_O_primitive_96 : decode b_O_primitive 96 = .ok (.lrem, 1) := by decide +kernel
theorem d_O_primitive_97 : decode b_O_primitive 97 = .ok (.lconst 0, 1) := by decide +kernel
theorem d_O_primitive_98 : decode b_O_primitive 98 = .ok (.lcmp, 1) := by decide +kernel
theorem d_O_primitive_99 : decode b_O_primitive 99 = .ok (.ifCond .ne (13), 3) := by decide +kernel
theorem d_O_primitive_102 : decode b_O_primitive 102 = .ok (.lload 5, 2) := by decide +kernel
theorem d_O_primitive_104 : decode b_O_primitive 104 = .ok (.lload 8, 2) := by decide +kernel
theorem d_O_primitive_106 : decode b_O_primitive 106 = .ok (.ldiv, 1) := by decide +kernel
theorem d_O_primitive_107 : decode b_O_primitive 107 = .ok (.lstore 5, 2) := by decide +kernel
theorem d_O_primitive_109 : decode b_O_primitive 109 = .ok (.goto (-17), 3) := by decide +kernel
theorem d_O_primitive_112 : decode b_O_primitive 112 = .ok (.lload 8, 2) := by decide +kernel
theorem d_O_primitive_114 : decode b_O_primitive 114 = .ok (.lconst 1, 1) := by decide +kernel
theorem d_O_primitive_115 : decode b_O_primitive 115 = .ok (.ladd, 1) := by decide +kernel
theorem d_O_primitive_116 : decode b_O_primitive 116 = .ok (.lstore 8, 2) := by decide +kernel
theorem d_O_primitive_118 : decode b_O_primitive 118 = .ok (.goto (-72), 3) := by decide +kernel
theorem d_O_primitive_121 : decode b_O_primitive 121 = .ok (.iload 7, 2) := by decide +kernel
theorem d_O_primitive_123 : decode b_O_primitive 123 = .ok (.ifCond .eq (41), 3) := by decide +kernel
theorem d_O_primitive_126 : decode b_O_primitive 126 = .ok (.lload 5, 2) := by decide +kernel
theorem d_O_primitive_128 : decode b_O_primitive 128 = .ok (.lconst 1, 1) := by decide +kernel
theorem d_O_primitive_129 : decode b_O_primitive 129 = .ok (.lcmp, 1) := by decide +kernel
theorem d_O_primitive_130 : decode b_O_primitive 130 = .ok (.ifCond .eq (30), 3) := by decide +kernel
theorem d_O_primitive_133 : decode b_O_primitive 133 = .ok (.lload 5, 2) := by decide +kernel
theorem d_O_primitive_135 : decode b_O_primitive 135 = .ok (.lload_n 1, 1) := by decide +kernel
theorem d_O_primitive_136 : decode b_O_primitive 136 = .ok (.lcmp, 1) := by decide +kernel
theorem d_O_primitive_137 : decode b_O_primitive 137 = .ok (.ifCond .ne (9), 3) := by decide +kernel
theorem d_O_primitive_140 : decode b_O_primitive 140 = .ok (.lload_n 1, 1) := by decide +kernel
theorem d_O_primitive_141 : decode b_O_primitive 141 = .ok (.lconst 1, 1) := by decide +kernel
theorem d_O_primitive_142 : decode b_O_primitive 142 = .ok (.lcmp, 1) := by decide +kernel
theorem d_O_primitive_143 : decode b_O_primitive 143 = .ok (.ifCond .eq (17), 3) := by decide +kernel
theorem d_O_primitive_146 : decode b_O_primitive 146 = .ok (.aload_n 0, 1) := by decide +kernel
theorem d_O_primitive_147 : decode b_O_primitive 147 = .ok (.lload_n 3, 1) := by decide +kernel
theorem d_O_primitive_148 : decode b_O_primitive 148 = .ok (.lload_n 1, 1) := by decide +kernel
theorem d_O_primitive_149 : decode b_O_primitive 149 = .ok (.lload 5, 2) := by decide +kernel
theorem d_O_primitive_151 : decode b_O_primitive 151 = .ok (.ldiv, 1) := by decide +kernel
theorem d_O_primitive_152 : decode b_O_primitive 152 = .ok (.invokevirtual 94, 3) := by decide +kernel
theorem d_O_primitive_155 : decode b_O_primitive 155 = .ok (.lconst 1, 1) := by decide +kernel
theorem d_O_primitive_156 : decode b_O_primitive 156 = .ok (.lcmp, 1) := by decide +kernel
theorem d_O_primitive_157 : decode b_O_primitive 157 = .ok (.ifCond .eq (7), 3) := by decide +kernel
theorem d_O_primitive_160 : decode b_O_primitive 160 = .ok (.iconst (1), 1) := by decide +kernel
theorem d_O_primitive_161 : decode b_O_primitive 161 = .ok (.goto (4), 3) := by decide +kernel
theorem d_O_primitive_164 : decode b_O_primitive 164 = .ok (.iconst (0), 1) := by decide +kernel
theorem d_O_primitive_165 : decode b_O_primitive 165 = .ok (.ireturn, 1) := by decide +kernel
theorem d_O_order_0 : decode b_O_order 0 = .ok (.aload_n 0, 1) := by decide +kernel
theorem d_O_order_1 : decode b_O_order 1 = .ok (.iconst (0), 1) := by decide +kernel
theorem d_O_order_2 : decode b_O_order 2 = .ok (.putfield 48, 3) := by decide +kernel
theorem d_O_order_5 : decode b_O_order 5 = .ok (.aload_n 0, 1) := by decide +kernel
theorem d_O_order_6 : decode b_O_order 6 = .ok (.getfield 15, 3) := by decide +kernel
theorem d_O_order_9 : decode b_O_order 9 = .ok (.bipush (18), 2) := by decide +kernel
theorem d_O_order_11 : decode b_O_order 11 = .ok (.if_icmp .le (7), 3) := by decide +kernel
theorem d_O_order_14 : decode b_O_order 14 = .ok (.ldc2_w 101, 3) := by decide +kernel
theorem d_O_order_17 : decode b_O_order 17 = .ok (.lreturn, 1) := by decide +kernel
theorem d_O_order_18 : decode b_O_order 18 = .ok (.aload_n 0, 1) := by decide +kernel
theorem d_O_order_19 : decode b_O_order 19 = .ok (.getfield 64, 3) := by decide +kernel
theorem d_O_order_22 : decode b_O_order 22 = .ok (.lconst 0, 1) := by decide +kernel
theorem d_O_order_23 : decode b_O_order 23 = .ok (.lcmp, 1) := by decide +kernel
theorem d_O_order_24 : decode b_O_order 24 = .ok (.ifCond .ne (41), 3) := by decide +kernel
theorem d_O_order_27 : decode b_O_order 27 = .ok (.aload_n 0, 1) := by decide +kernel
theorem d_O_order_28 : decode b_O_order 28 = .ok (.ldc2_w 73, 3) := by decide +kernel
theorem d_O_order_31 : decode b_O_order 31 = .ok (.invokevirtual 79, 3) := by decide +kernel
theorem d_O_order_34 : decode b_O_order 34 = .ok (.lstore_n 1, 1) := by decide +kernel
theorem d_O_order_35 : decode b_O_order 35 = .ok (.aload_n 0, 1) := by decide +kernel
theorem d_O_order_36 : decode b_O_order 36 = .ok (.lconst 1, 1) := by decide +kernel
theorem d_O_order_37 : decode b_O_order 37 = .ok (.putfield 64, 3) := by decide +kernel
theorem d_O_order_40 : decode b_O_order 40 = .ok (.lload_n 1, 1) := by decide +kernel
theorem d_O_order_41 : decode b_O_order 41 = .ok (.lconst 1, 1) := by decide +kernel
theorem d_O_order_42 : decode b_O_order 42 = .ok (.lcmp, 1) := by decide +kernel
theorem d_O_order_43 : decode b_O_order 43 = .ok (.ifCond .eq (22), 3) := by decide +kernel
theorem d_O_order_46 : decode b_O_order 46 = .ok (.aload_n 0, 1) := by decide +kernel
theorem d_O_order_47 : decode b_O_order 47 = .ok (.lload_n 1, 1) := by decide +kernel
theorem d_O_order_48 : decode b_O_order 48 = .ok (.invokevirtual 75, 3) := by decide +kernel
theorem d_O_order_51 : decode b_O_order 51 = .ok (.lstore_n 1, 1) := by decide +kernel
theorem d_O_order_52 : decode b_O_order 52 = .ok (.aload_n 0, 1) := by decide +kernel
theorem d_O_order_53 : decode b_O_order 53 = .ok (.dup, 1) := by decide +kernel
theorem d_O_order_54 : decode b_O_order 54 = .ok (.getfield 64, 3) := by decide +kernel
theorem d_O_order_57 : decode b_O_order 57 = .ok (.lconst 1, 1) := by decide +kernel
theorem d_O_order_58 : decode b_O_order 58 = .ok (.ladd, 1) := by decide +kernel
theorem d_O_order_59 : decode b_O_order 59 = .ok (.putfield 64, 3) := by decide +kernel
theorem d_O_order_62 : decode b_O_order 62 = .ok (.goto (-22), 3) := by decide +kernel
theorem d_O_order_65 : decode b_O_order 65 = .ok (.aload_n 0, 1) := by decide +kernel
theorem d_O_order_66 : decode b_O_order 66 = .ok (.getfield 64, 3) := by decide +kernel
theorem d_O_order_69 : decode b_O_order 69 = .ok (.lreturn, 1) := by decide +kernel
theorem d_O_load_0 : decode b_O_load 0 = .ok (.aload_n 0, 1) := by decide +kernel
theorem d_O_load_1 : decode b_O_load 1 = .ok (.aload_n 0, 1) := by decide +kernel
theorem d_O_load_2 : decode b_O_load 2 = .ok (.lload_n 1, 1) := by decide +kernel
theorem d_O_load_3 : decode b_O_load 3 = .ok (.invokevirtual 90, 3) := by decide +kernel
theorem d_O_load_6 : decode b_O_load 6 = .ok (.ifCond .eq (7), 3) := by decide +kernel
theorem d_O_load_9 : decode b_O_load 9 = .ok (.iconst (0), 1) := by decide +kernel
theorem d_O_load_10 : decode b_O_load 10 = .ok (.goto (4), 3) := by decide +kernel
theorem d_O_load_13 : decode b_O_load 13 = .ok (.iconst (1), 1) := by decide +kernel
theorem d_O_load_14 : decode b_O_load 14 = .ok (.invokevirtual 57, 3) := by decide +kernel
theorem d_O_load_17 : decode b_O_load 17 = .ok (.ifCond .eq (5), 3) := by decide +kernel
theorem d_O_load_20 : decode b_O_load 20 = .ok (.lconst 0, 1) := by decide +kernel
theorem d_O_load_21 : decode b_O_load 21 = .ok (.lreturn, 1) := by decide +kernel
theorem d_O_load_22 : decode b_O_load 22 = .ok (.aload_n 0, 1) := by decide +kernel
theorem d_O_load_23 : decode b_O_load 23 = .ok (.getfield 19, 3) := by decide +kernel
theorem d_O_load_26 : decode b_O_load 26 = .ok (.lstore_n 3, 1) := by decide +kernel
theorem d_O_load_27 : decode b_O_load 27 = .ok (.aload_n 0, 1) := by decide +kernel
theorem d_O_load_28 : decode b_O_load 28 = .ok (.lload_n 1, 1) := by decide +kernel
theorem d_O_load_29 : decode b_O_load 29 = .ok (.putfield 19, 3) := by decide +kernel
theorem d_O_load_32 : decode b_O_load 32 = .ok (.lload_n 3, 1) := by decide +kernel
theorem d_O_load_33 : decode b_O_load 33 = .ok (.lreturn, 1) := by decide +kernel
theorem d_O_steps_0 : decode b_O_steps 0 = .ok (.aload_n 0, 1) := by decide +kernel
theorem d_O_steps_1 : decode b_O_steps 1 = .ok (.lload_n 1, 1) := by decide +kernel
theorem d_O_steps_2 : decode b_O_steps 2 = .ok (.lconst 0, 1) := by decide +kernel
theorem d_O_steps_3 : decode b_O_steps 3 = .ok (.lcmp, 1) := by decide +kernel
theorem d_O_steps_4 : decode b_O_steps 4 = .ok (.ifCond .ge (7), 3) := by decide +kernel
theorem d_O_steps_7 : decode b_O_steps 7 = .ok (.iconst (1), 1) := by decide +kernel
theorem d_O_steps_8 : decode b_O_steps 8 = .ok (.goto (4), 3) := by decide +kernel
theorem d_O_steps_11 : decode b_O_steps 11 = .ok (.iconst (0), 1) := by decide +kernel
theorem d_O_steps_12 : decode b_O_steps 12 = .ok (.invokevirtual 57, 3) := by decide +kernel
theorem d_O_steps_15 : decode b_O_steps 15 = .ok (.ifCond .eq (5), 3) := by decide +kernel
theorem d_O_steps_18 : decode b_O_steps 18 = .ok (.lconst 0, 1) := by decide +kernel
theorem d_O_steps_19 : decode b_O_steps 19 = .ok (.lreturn, 1) := by decide +kernel
theorem d_O_steps_20 : decode b_O_steps 20 = .ok (.aload_n 0, 1) := by decide +kernel
theorem d_O_steps_21 : decode b_O_steps 21 = .ok (.aload_n 0, 1) := by decide +kernel
theorem d_O_steps_22 : decode b_O_steps 22 = .ok (.aload_n 0, 1) := by decide +kernel
theorem d_O_steps_23 : decode b_O_steps 23 = .ok (.getfield 19, 3) := by decide +kernel
theorem d_O_steps_26 : decode b_O_steps 26 = .ok (.aload_n 0, 1) := by decide +kernel
theorem d_O_steps_27 : decode b_O_steps 27 = .ok (.aload_n 0, 1) := by decide +kernel
theorem d_O_steps_28 : decode b_O_steps 28 = .ok (.ldc2_w 73, 3) := by decide +kernel
theorem d_O_steps_31 : decode b_O_steps 31 = .ok (.invokevirtual 79, 3) := by decide +kernel
theorem d_O_steps_34 : decode b_O_steps 34 = .ok (.lload_n 1, 1) := by decide +kernel
theorem d_O_steps_35 : decode b_O_steps 35 = .ok (.invokevirtual 94, 3) := by decide +kernel
theorem d_O_steps_38 : decode b_O_steps 38 = .ok (.invokevirtual 82, 3) := by decide +kernel
theorem d_O_steps_41 : decode b_O_steps 41 = .ok (.putfield 19, 3) := by decide +kernel
theorem d_O_steps_44 : decode b_O_steps 44 = .ok (.aload_n 0, 1) := by decide +kernel
theorem d_O_steps_45 : decode b_O_steps 45 = .ok (.getfield 19, 3) := by decide +kernel
theorem d_O_steps_48 : decode b_O_steps 48 = .ok (.lreturn, 1) := by decide +kernel
theorem d_O_channel_0 : decode b_O_channel 0 = .ok (.aload_n 0, 1) := by decide +kernel
theorem d_O_channel_1 : decode b_O_channel 1 = .ok (.aload_n 0, 1) := by decide +kernel
theorem d_O_channel_2 : decode b_O_channel 2 = .ok (.lload_n 1, 1) := by decide +kernel
theorem d_O_channel_3 : decode b_O_channel 3 = .ok (.invokevirtual 90, 3) := by decide +kernel
theorem d_O_channel_6 : decode b_O_channel 6 = .ok (.ifCond .ne (7), 3) := by decide +kernel
theorem d_O_channel_9 : decode b_O_channel 9 = .ok (.iconst (1), 1) := by decide +kernel
theorem d_O_channel_10 : decode b_O_channel 10 = .ok (.goto (17), 3) := by decide +kernel
theorem d_O_channel_13 : decode b_O_channel 13 = .ok (.aload_n 0, 1) := by decide +kernel
theorem d_O_channel_14 : decode b_O_channel 14 = .ok (.getfield 67, 3) := by decide +kernel
theorem d_O_channel_17 : decode b_O_channel 17 = .ok (.bipush (8), 2) := by decide +kernel
theorem d_O_channel_19 : decode b_O_channel 19 = .ok (.if_icmp .ne (7), 3) := by decide +kernel
theorem d_O_channel_22 : decode b_O_channel 22 = .ok (.iconst (2), 1) := by decide +kernel
theorem d_O_channel_23 : decode b_O_channel 23 = .ok (.goto (4), 3) := by decide +kernel
theorem d_O_channel_26 : decode b_O_channel 26 = .ok (.iconst (0), 1) := by decide +kernel
theorem d_O_channel_27 : decode b_O_channel 27 = .ok (.invokevirtual 57, 3) := by decide +kernel
theorem d_O_channel_30 : decode b_O_channel 30 = .ok (.ifCond .eq (5), 3) := by decide +kernel
theorem d_O_channel_33 : decode b_O_channel 33 = .ok (.iconst (0), 1) := by decide +kernel
theorem d_O_channel_34 : decode b_O_channel 34 = .ok (.ireturn, 1) := by decide +kernel
theorem d_O_channel_35 : decode b_O_channel 35 = .ok (.aload_n 0, 1) := by decide +kernel
theorem d_O_channel_36 : decode b_O_channel 36 = .ok (.getfield 22, 3) := by decide +kernel
theorem d_O_channel_39 : decode b_O_channel 39 = .ok (.aload_n 0, 1) := by decide +kernel
theorem d_O_channel_40 : decode b_O_channel 40 = .ok (.getfield 67, 3) := by decide +kernel
theorem d_O_channel_43 : decode b_O_channel 43 = .ok (.lload_n 1, 1) := by decide +kernel
theorem d_O_channel_44 : decode b_O_channel 44 = .ok (.lastore, 1) := by decide +kernel
theorem d_O_channel_45 : decode b_O_channel 45 = .ok (.aload_n 0, 1) := by decide +kernel
theorem d_O_channel_46 : decode b_O_channel 46 = .ok (.dup, 1) := by decide +kernel
theorem d_O_channel_47 : decode b_O_channel 47 = .ok (.getfield 67, 3) := by decide +kernel
theorem d_O_channel_50 : decode b_O_channel 50 = .ok (.iconst (1), 1) := by decide +kernel
theorem d_O_channel_51 : decode b_O_channel 51 = .ok (.iadd, 1) := by decide +kernel
theorem d_O_channel_52 : decode b_O_channel 52 = .ok (.putfield 67, 3) := by decide +kernel
theorem d_O_channel_55 : decode b_O_channel 55 = .ok (.aload_n 0, 1) := by decide +kernel
theorem d_O_channel_56 : decode b_O_channel 56 = .ok (.invokevirtual 70, 3) := by decide +kernel
theorem d_O_channel_59 : decode b_O_channel 59 = .ok (.aload_n 0, 1) := by decide +kernel
theorem d_O_channel_60 : decode b_O_channel 60 = .ok (.getfield 67, 3) := by decide +kernel
theorem d_O_channel_63 : decode b_O_channel 63 = .ok (.iconst (1), 1) := by decide +kernel
theorem d_O_channel_64 : decode b_O_channel 64 = .ok (.isub, 1) := by decide +kernel
theorem d_O_channel_65 : decode b_O_channel 65 = .ok (.ireturn, 1) := by decide +kernel
theorem d_O_patternOf_0 : decode b_O_patternOf 0 = .ok (.iconst (0), 1) := by decide +kernel
theorem d_O_patternOf_1 : decode b_O_patternOf 1 = .ok (.istore_n 3, 1) := by decide +kernel
theorem d_O_patternOf_2 : decode b_O_patternOf 2 = .ok (.iconst (0), 1) := by decide +kernel
theorem d_O_patternOf_3 : decode b_O_patternOf 3 = .ok (.istore 4, 2) := by decide +kernel
theorem d_O_patternOf_5 : decode b_O_patternOf 5 = .ok (.iload 4, 2) := by decide +kernel
theorem d_O_patternOf_7 : decode b_O_patternOf 7 = .ok (.aload_n 0, 1) := by decide +kernel
theorem d_O_patternOf_8 : decode b_O_patternOf 8 = .ok (.getfield 67, 3) := by decide +kernel
theorem d_O_patternOf_11 : decode b_O_patternOf 11 = .ok (.if_icmp .ge (62), 3) := by decide +kernel
theorem d_O_patternOf_14 : decode b_O_patternOf 14 = .ok (.lload_n 1, 1) := by decide +kernel
theorem d_O_patternOf_15 : decode b_O_patternOf 15 = .ok (.aload_n 0, 1) := by decide +kernel
theorem d_O_patternOf_16 : decode b_O_patternOf 16 = .ok (.getfield 22, 3) := by decide +kernel
theorem d_O_patternOf_19 : decode b_O_patternOf 19 = .ok (.iload 4, 2) := by decide +kernel
theorem d_O_patternOf_21 : decode b_O_patternOf 21 = .ok (.laload, 1) := by decide +kernel
theorem d_O_patternOf_22 : decode b_O_patternOf 22 = .ok (.land, 1) := by decide +kernel
theorem d_O_patternOf_23 : decode b_O_patternOf 23 = .ok (.lstore 5, 2) := by decide +kernel
theorem d_O_patternOf_25 : decode b_O_patternOf 25 = .ok (.iconst (0), 1) := by decide +kernel
theorem d_O_patternOf_26 : decode b_O_patternOf 26 = .ok (.istore 7, 2) := by decide +kernel
theorem d_O_patternOf_28 : decode b_O_patternOf 28 = .ok (.iconst (0), 1) := by decide +kernel
theorem d_O_patternOf_29 : decode b_O_patternOf 29 = .ok (.istore 8, 2) := by decide +kernel
theorem d_O_patternOf_31 : decode b_O_patternOf 31 = .ok (.iload 8, 2) := by decide +kernel
theorem d_O_patternOf_33 : decode b_O_patternOf 33 = .ok (.bipush (32), 2) := by decide +kernel
theorem d_O_patternOf_35 : decode b_O_patternOf 35 = .ok (.if_icmp .ge (22), 3) := by decide +kernel
theorem d_O_patternOf_38 : decode b_O_patternOf 38 = .ok (.iload 7, 2) := by decide +kernel
theorem d_O_patternOf_40 : decode b_O_patternOf 40 = .ok (.lload 5, 2) := by decide +kernel
theorem d_O_patternOf_42 : decode b_O_patternOf 42 = .ok (.iload 8, 2) := by decide +kernel
theorem d_O_patternOf_44 : decode b_O_patternOf 44 = .ok (.lshr, 1) := by decide +kernel
theorem d_O_patternOf_45 : decode b_O_patternOf 45 = .ok (.lconst 1, 1) := by decide +kernel
theorem d_O_patternOf_46 : decode b_O_patternOf 46 = .ok (.land, 1) := by decide +kernel
theorem d_O_patternOf_47 : decode b_O_patternOf 47 = .ok (.l2i, 1) := by decide +kernel
theorem d_O_patternOf_48 : decode b_O_patternOf 48 = .ok (.ixor, 1) := by decide +kernel
theorem d_O_patternOf_49 : decode b_O_patternOf 49 = .ok (.istore 7, 2) := by decide +kernel
theorem d_O_patternOf_51 : decode b_O_patternOf 51 = .ok (.iinc 8 (1), 3) := by decide +kernel
theorem d_O_patternOf_54 : decode b_O_patternOf 54 = .ok (.goto (-23), 3) := by decide +kernel
theorem d_O_patternOf_57 : decode b_O_patternOf 57 = .ok (.iload_n 3, 1) := by decide +kernel
theorem d_O_patternOf_58 : decode b_O_patternOf 58 = .ok (.iload 7, 2) := by decide +kernel
theorem d_O_patternOf_60 : decode b_O_patternOf 60 = .ok (.iconst (1), 1) := by decide +kernel
theorem d_O_patternOf_61 : decode b_O_patternOf 61 = .ok (.iload 4, 2) := by decide +kernel
theorem d_O_patternOf_63 : decode b_O_patternOf 63 = .ok (.ishl, 1) := by decide +kernel
theorem d_O_patternOf_64 : decode b_O_patternOf 64 = .ok (.imul, 1) := by decide +kernel
theorem d_O_patternOf_65 : decode b_O_patternOf 65 = .ok (.iadd, 1) := by decide +kernel
theorem d_O_patternOf_66 : decode b_O_patternOf 66 = .ok (.istore_n 3, 1) := by decide +kernel
theorem d_O_patternOf_67 : decode b_O_patternOf 67 = .ok (.iinc 4 (1), 3) := by decide +kernel
theorem d_O_patternOf_70 : decode b_O_patternOf 70 = .ok (.goto (-65), 3) := by decide +kernel
theorem d_O_patternOf_73 : decode b_O_patternOf 73 = .ok (.iload_n 3, 1) := by decide +kernel
theorem d_O_patternOf_74 : decode b_O_patternOf 74 = .ok (.ireturn, 1) := by decide +kernel
theorem d_O_pattern_0 : decode b_O_pattern 0 = .ok (.aload_n 0, 1) := by decide +kernel
theorem d_O_pattern_1 : decode b_O_pattern 1 = .ok (.iconst (0), 1) := by decide +kernel
theorem d_O_pattern_2 : decode b_O_pattern 2 = .ok (.putfield 48, 3) := by decide +kernel
theorem d_O_pattern_5 : decode b_O_pattern 5 = .ok (.aload_n 0, 1) := by decide +kernel
theorem d_O_pattern_6 : decode b_O_pattern 6 = .ok (.aload_n 0, 1) := by decide +kernel
theorem d_O_pattern_7 : decode b_O_pattern 7 = .ok (.getfield 19, 3) := by decide +kernel
theorem d_O_pattern_10 : decode b_O_pattern 10 = .ok (.invokevirtual 103, 3) := by decide +kernel
theorem d_O_pattern_13 : decode b_O_pattern 13 = .ok (.ireturn, 1) := by decide +kernel
theorem d_O_isLine_0 : decode b_O_isLine 0 = .ok (.iload_n 1, 1) := by decide +kernel
theorem d_O_isLine_1 : decode b_O_isLine 1 = .ok (.ifCond .lt (20), 3) := by decide +kernel
theorem d_O_isLine_4 : decode b_O_isLine 4 = .ok (.iload_n 1, 1) := by decide +kernel
theorem d_O_isLine_5 : decode b_O_isLine 5 = .ok (.aload_n 0, 1) := by decide +kernel
theorem d_O_isLine_6 : decode b_O_isLine 6 = .ok (.getfield 67, 3) := by decide +kernel
theorem d_O_isLine_9 : decode b_O_isLine 9 = .ok (.aload_n 0, 1) := by decide +kernel
theorem d_O_isLine_10 : decode b_O_isLine 10 = .ok (.getfield 51, 3) := by decide +kernel
theorem d_O_isLine_13 : decode b_O_isLine 13 = .ok (.iadd, 1) := by decide +kernel
theorem d_O_isLine_14 : decode b_O_isLine 14 = .ok (.if_icmp .ge (7), 3) := by decide +kernel
theorem d_O_isLine_17 : decode b_O_isLine 17 = .ok (.iconst (1), 1) := by decide +kernel
theorem d_O_isLine_18 : decode b_O_isLine 18 = .ok (.goto (4), 3) := by decide +kernel
theorem d_O_isLine_21 : decode b_O_isLine 21 = .ok (.iconst (0), 1) := by decide +kernel
theorem d_O_isLine_22 : decode b_O_isLine 22 = .ok (.ireturn, 1) := by decide +kernel
theorem d_O_gate_0 : decode b_O_gate 0 = .ok (.aload_n 0, 1) := by decide +kernel
theorem d_O_gate_1 : decode b_O_gate 1 = .ok (.iload_n 2, 1) := by decide +kernel
theorem d_O_gate_2 : decode b_O_gate 2 = .ok (.invokevirtual 107, 3) := by decide +kernel
theorem d_O_gate_5 : decode b_O_gate 5 = .ok (.ifCond .eq (20), 3) := by decide +kernel
theorem d_O_gate_8 : decode b_O_gate 8 = .ok (.iload_n 1, 1) := by decide +kernel
theorem d_O_gate_9 : decode b_O_gate 9 = .ok (.iconst (5), 1) := by decide +kernel
theorem d_O_gate_10 : decode b_O_gate 10 = .ok (.if_icmp .eq (11), 3) := by decide +kernel
theorem d_O_gate_13 : decode b_O_gate 13 = .ok (.aload_n 0, 1) := by decide +kernel
theorem d_O_gate_14 : decode b_O_gate 14 = .ok (.iload_n 3, 1) := by decide +kernel
theorem d_O_gate_15 : decode b_O_gate 15 = .ok (.invokevirtual 107, 3) := by decide +kernel
theorem d_O_gate_18 : decode b_O_gate 18 = .ok (.ifCond .eq (7), 3) := by decide +kernel
theorem d_O_gate_21 : decode b_O_gate 21 = .ok (.iconst (1), 1) := by decide +kernel
theorem d_O_gate_22 : decode b_O_gate 22 = .ok (.goto (4), 3) := by decide +kernel
theorem d_O_gate_25 : decode b_O_gate 25 = .ok (.iconst (0), 1) := by decide +kernel
theorem d_O_gate_26 : decode b_O_gate 26 = .ok (.istore 4, 2) := by decide +kernel
theorem d_O_gate_28 : decode b_O_gate 28 = .ok (.aload_n 0, 1) := by decide +kernel
theorem d_O_gate_29 : decode b_O_gate 29 = .ok (.iload_n 1, 1) := by decide +kernel
theorem d_O_gate_30 : decode b_O_gate 30 = .ok (.ifCond .lt (8), 3) := by decide +kernel
theorem d_O_gate_33 : decode b_O_gate 33 = .ok (.iload_n 1, 1) := by decide +kernel
theorem d_O_gate_34 : decode b_O_gate 34 = .ok (.iconst (5), 1) := by decide +kernel
theorem d_O_gate_35 : decode b_O_gate 35 = .ok (.if_icmp .le (7), 3) := by decide +kernel
theorem d_O_gate_38 : decode b_O_gate 38 = .ok (.iconst (1), 1) := by decide +kernel
theorem d_O_gate_39 : decode b_O_gate 39 = .ok (.goto (26), 3) := by decide +kernel
theorem d_O_gate_42 : decode b_O_gate 42 = .ok (.iload 4, 2) := by decide +kernel
theorem d_O_gate_44 : decode b_O_gate 44 = .ok (.ifCond .ne (7), 3) := by decide +kernel
theorem d_O_gate_47 : decode b_O_gate 47 = .ok (.iconst (2), 1) := by decide +kernel
theorem d_O_gate_48 : decode b_O_gate 48 = .ok (.goto (17), 3) := by decide +kernel
theorem d_O_gate_51 : decode b_O_gate 51 = .ok (.aload_n 0, 1) := by decide +kernel
theorem d_O_gate_52 : decode b_O_gate 52 = .ok (.getfield 51, 3) := by decide +kernel
theorem d_O_gate_55 : decode b_O_gate 55 = .ok (.bipush (24), 2) := by decide +kernel
theorem d_O_gate_57 : decode b_O_gate 57 = .ok (.if_icmp .ne (7), 3) := by decide +kernel
theorem d_O_gate_60 : decode b_O_gate 60 = .ok (.iconst (3), 1) := by decide +kernel
theorem d_O_gate_61 : decode b_O_gate 61 = .ok (.goto (4), 3) := by decide +kernel
theorem d_O_gate_64 : decode b_O_gate 64 = .ok (.iconst (0), 1) := by decide +kernel
theorem d_O_gate_65 : decode b_O_gate 65 = .ok (.invokevirtual 57, 3) := by decide +kernel
theorem d_O_gate_68 : decode b_O_gate 68 = .ok (.ifCond .eq (5), 3) := by decide +kernel
theorem d_O_gate_71 : decode b_O_gate 71 = .ok (.iconst (0), 1) := by decide +kernel
theorem d_O_gate_72 : decode b_O_gate 72 = .ok (.ireturn, 1) := by decide +kernel
theorem d_O_gate_73 : decode b_O_gate 73 = .ok (.aload_n 0, 1) := by decide +kernel
theorem d_O_gate_74 : decode b_O_gate 74 = .ok (.getfield 26, 3) := by decide +kernel
theorem d_O_gate_77 : decode b_O_gate 77 = .ok (.aload_n 0, 1) := by decide +kernel
theorem d_O_gate_78 : decode b_O_gate 78 = .ok (.getfield 51, 3) := by decide +kernel
theorem d_O_gate_81 : decode b_O_gate 81 = .ok (.iload_n 1, 1) := by decide +kernel
theorem d_O_gate_82 : decode b_O_gate 82 = .ok (.iastore, 1) := by decide +kernel
theorem d_O_gate_83 : decode b_O_gate 83 = .ok (.aload_n 0, 1) := by decide +kernel
theorem d_O_gate_84 : decode b_O_gate 84 = .ok (.getfield 30, 3) := by decide +kernel
theorem d_O_gate_87 : decode b_O_gate 87 = .ok (.aload_n 0, 1) := by decide +kernel
theorem d_O_gate_88 : decode b_O_gate 88 = .ok (.getfield 51, 3) := by decide +kernel
theorem d_O_gate_91 : decode b_O_gate 91 = .ok (.iload_n 2, 1) := by decide +kernel
theorem d_O_gate_92 : decode b_O_gate 92 = .ok (.iastore, 1) := by decide +kernel
theorem d_O_gate_93 : decode b_O_gate 93 = .ok (.aload_n 0, 1) := by decide +kernel
theorem d_O_gate_94 : decode b_O_gate 94 = .ok (.getfield 33, 3) := by decide +kernel
theorem d_O_gate_97 : decode b_O_gate 97 = .ok (.aload_n 0, 1) := by decide +kernel
theorem d_O_gate_98 : decode b_O_gate 98 = .ok (.getfield 51, 3) := by decide +kernel
theorem d_O_gate_101 : decode b_O_gate 101 = .ok (.iload_n 1, 1) := by decide +kernel
theorem d_O_gate_102 : decode b_O_gate 102 = .ok (.iconst (5), 1) := by decide +kernel
theorem d_O_gate_103 : decode b_O_gate 103 = .ok (.if_icmp .ne (7), 3) := by decide +kernel
theorem d_O_gate_106 : decode b_O_gate 106 = .ok (.iload_n 2, 1) := by decide +kernel
theorem d_O_gate_107 : decode b_O_gate 107 = .ok (.goto (4), 3) := by decide +kernel
theorem d_O_gate_110 : decode b_O_gate 110 = .ok (.iload_n 3, 1) := by decide +kernel
theorem d_O_gate_111 : decode b_O_gate 111 = .ok (.iastore, 1) := by decide +kernel
theorem d_O_gate_112 : decode b_O_gate 112 = .ok (.aload_n 0, 1) := by decide +kernel
theorem d_O_gate_113 : decode b_O_gate 113 = .ok (.dup, 1) := by decide +kernel
theorem d_O_gate_114 : decode b_O_gate 114 = .ok (.getfield 51, 3) := by decide +kernel
theorem d_O_gate_117 : decode b_O_gate 117 = .ok (.iconst (1), 1) := by decide +kernel
theorem d_O_gate_118 : decode b_O_gate 118 = .ok (.iadd, 1) := by decide +kernel
theorem d_O_gate_119 : decode b_O_gate 119 = .ok (.putfield 51, 3) := by decide +kernel
theorem d_O_gate_122 : decode b_O_gate 122 = .ok (.aload_n 0, 1) := by decide +kernel
theorem d_O_gate_123 : decode b_O_gate 123 = .ok (.getfield 67, 3) := by decide +kernel
theorem d_O_gate_126 : decode b_O_gate 126 = .ok (.aload_n 0, 1) := by decide +kernel
theorem d_O_gate_127 : decode b_O_gate 127 = .ok (.getfield 51, 3) := by decide +kernel
theorem d_O_gate_130 : decode b_O_gate 130 = .ok (.iadd, 1) := by decide +kernel
theorem d_O_gate_131 : decode b_O_gate 131 = .ok (.iconst (1), 1) := by decide +kernel
theorem d_O_gate_132 : decode b_O_gate 132 = .ok (.isub, 1) := by decide +kernel
theorem d_O_gate_133 : decode b_O_gate 133 = .ok (.ireturn, 1) := by decide +kernel
theorem d_O_output_0 : decode b_O_output 0 = .ok (.aload_n 0, 1) := by decide +kernel
theorem d_O_output_1 : decode b_O_output 1 = .ok (.aload_n 0, 1) := by decide +kernel
theorem d_O_output_2 : decode b_O_output 2 = .ok (.iload_n 1, 1) := by decide +kernel
theorem d_O_output_3 : decode b_O_output 3 = .ok (.invokevirtual 107, 3) := by decide +kernel
theorem d_O_output_6 : decode b_O_output 6 = .ok (.ifCond .ne (7), 3) := by decide +kernel
theorem d_O_output_9 : decode b_O_output 9 = .ok (.iconst (1), 1) := by decide +kernel
theorem d_O_output_10 : decode b_O_output 10 = .ok (.goto (17), 3) := by decide +kernel
theorem d_O_output_13 : decode b_O_output 13 = .ok (.aload_n 0, 1) := by decide +kernel
theorem d_O_output_14 : decode b_O_output 14 = .ok (.getfield 54, 3) := by decide +kernel
theorem d_O_output_17 : decode b_O_output 17 = .ok (.bipush (16), 2) := by decide +kernel
theorem d_O_output_19 : decode b_O_output 19 = .ok (.if_icmp .ne (7), 3) := by decide +kernel
theorem d_O_output_22 : decode b_O_output 22 = .ok (.iconst (2), 1) := by decide +kernel
theorem d_O_output_23 : decode b_O_output 23 = .ok (.goto (4), 3) := by decide +kernel
theorem d_O_output_26 : decode b_O_output 26 = .ok (.iconst (0), 1) := by decide +kernel
theorem d_O_output_27 : decode b_O_output 27 = .ok (.invokevirtual 57, 3) := by decide +kernel
theorem d_O_output_30 : decode b_O_output 30 = .ok (.ifCond .eq (5), 3) := by decide +kernel
theorem d_O_output_33 : decode b_O_output 33 = .ok (.iconst (0), 1) := by decide +kernel
theorem d_O_output_34 : decode b_O_output 34 = .ok (.ireturn, 1) := by decide +kernel
theorem d_O_output_35 : decode b_O_output 35 = .ok (.aload_n 0, 1) := by decide +kernel
theorem d_O_output_36 : decode b_O_output 36 = .ok (.getfield 36, 3) := by decide +kernel
theorem d_O_output_39 : decode b_O_output 39 = .ok (.aload_n 0, 1) := by decide +kernel
theorem d_O_output_40 : decode b_O_output 40 = .ok (.getfield 54, 3) := by decide +kernel
theorem d_O_output_43 : decode b_O_output 43 = .ok (.iload_n 1, 1) := by decide +kernel
theorem d_O_output_44 : decode b_O_output 44 = .ok (.iastore, 1) := by decide +kernel
theorem d_O_output_45 : decode b_O_output 45 = .ok (.aload_n 0, 1) := by decide +kernel
theorem d_O_output_46 : decode b_O_output 46 = .ok (.dup, 1) := by decide +kernel
theorem d_O_output_47 : decode b_O_output 47 = .ok (.getfield 54, 3) := by decide +kernel
theorem d_O_output_50 : decode b_O_output 50 = .ok (.iconst (1), 1) := by decide +kernel
theorem d_O_output_51 : decode b_O_output 51 = .ok (.iadd, 1) := by decide +kernel
theorem d_O_output_52 : decode b_O_output 52 = .ok (.putfield 54, 3) := by decide +kernel
theorem d_O_output_55 : decode b_O_output 55 = .ok (.aload_n 0, 1) := by decide +kernel
theorem d_O_output_56 : decode b_O_output 56 = .ok (.getfield 54, 3) := by decide +kernel
theorem d_O_output_59 : decode b_O_output 59 = .ok (.iconst (1), 1) := by decide +kernel
theorem d_O_output_60 : decode b_O_output 60 = .ok (.isub, 1) := by decide +kernel
theorem d_O_output_61 : decode b_O_output 61 = .ok (.ireturn, 1) := by decide +kernel
theorem d_O_worth_0 : decode b_O_worth 0 = .ok (.iload_n 0, 1) := by decide +kernel
theorem d_O_worth_1 : decode b_O_worth 1 = .ok (.tableswitch (59) (0) (4) #[(35), (39), (43), (47), (53)], 35) := by decide +kernel
theorem d_O_worth_36 : decode b_O_worth 36 = .ok (.iload_n 1, 1) := by decide +kernel
theorem d_O_worth_37 : decode b_O_worth 37 = .ok (.iload_n 2, 1) := by decide +kernel
theorem d_O_worth_38 : decode b_O_worth 38 = .ok (.iand, 1) := by decide +kernel
theorem d_O_worth_39 : decode b_O_worth 39 = .ok (.ireturn, 1) := by decide +kernel
theorem d_O_worth_40 : decode b_O_worth 40 = .ok (.iload_n 1, 1) := by decide +kernel
theorem d_O_worth_41 : decode b_O_worth 41 = .ok (.iload_n 2, 1) := by decide +kernel
theorem d_O_worth_42 : decode b_O_worth 42 = .ok (.ior, 1) := by decide +kernel
theorem d_O_worth_43 : decode b_O_worth 43 = .ok (.ireturn, 1) := by decide +kernel
theorem d_O_worth_44 : decode b_O_worth 44 = .ok (.iload_n 1, 1) := by decide +kernel
theorem d_O_worth_45 : decode b_O_worth 45 = .ok (.iload_n 2, 1) := by decide +kernel
theorem d_O_worth_46 : decode b_O_worth 46 = .ok (.ixor, 1) := by decide +kernel
theorem d_O_worth_47 : decode b_O_worth 47 = .ok (.ireturn, 1) := by decide +kernel
theorem d_O_worth_48 : decode b_O_worth 48 = .ok (.iconst (1), 1) := by decide +kernel
theorem d_O_worth_49 : decode b_O_worth 49 = .ok (.iload_n 1, 1) := by decide +kernel
theorem d_O_worth_50 : decode b_O_worth 50 = .ok (.iload_n 2, 1) := by decide +kernel
theorem d_O_worth_51 : decode b_O_worth 51 = .ok (.iand, 1) := by decide +kernel
theorem d_O_worth_52 : decode b_O_worth 52 = .ok (.isub, 1) := by decide +kernel
theorem d_O_worth_53 : decode b_O_worth 53 = .ok (.ireturn, 1) := by decide +kernel
theorem d_O_worth_54 : decode b_O_worth 54 = .ok (.iconst (1), 1) := by decide +kernel
theorem d_O_worth_55 : decode b_O_worth 55 = .ok (.iload_n 1, 1) := by decide +kernel
theorem d_O_worth_56 : decode b_O_worth 56 = .ok (.iload_n 2, 1) := by decide +kernel
theorem d_O_worth_57 : decode b_O_worth 57 = .ok (.ior, 1) := by decide +kernel
theorem d_O_worth_58 : decode b_O_worth 58 = .ok (.isub, 1) := by decide +kernel
theorem d_O_worth_59 : decode b_O_worth 59 = .ok (.ireturn, 1) := by decide +kernel
theorem d_O_worth_60 : decode b_O_worth 60 = .ok (.iconst (1), 1) := by decide +kernel
theorem d_O_worth_61 : decode b_O_worth 61 = .ok (.iload_n 1, 1) := by decide +kernel
theorem d_O_worth_62 : decode b_O_worth 62 = .ok (.isub, 1) := by decide +kernel
theorem d_O_worth_63 : decode b_O_worth 63 = .ok (.ireturn, 1) := by decide +kernel
theorem d_O_answerTo_0 : decode b_O_answerTo 0 = .ok (.iconst (0), 1) := by decide +kernel
theorem d_O_answerTo_1 : decode b_O_answerTo 1 = .ok (.istore_n 3, 1) := by decide +kernel
theorem d_O_answerTo_2 : decode b_O_answerTo 2 = .ok (.iload_n 3, 1) := by decide +kernel
theorem d_O_answerTo_3 : decode b_O_answerTo 3 = .ok (.aload_n 0, 1) := by decide +kernel
theorem d_O_answerTo_4 : decode b_O_answerTo 4 = .ok (.getfield 67, 3) := by decide +kernel
theorem d_O_answerTo_7 : decode b_O_answerTo 7 = .ok (.aload_n 0, 1) := by decide +kernel
theorem d_O_answerTo_8 : decode b_O_answerTo 8 = .ok (.getfield 51, 3) := by decide +kernel
theorem d_O_answerTo_11 : decode b_O_answerTo 11 = .ok (.iadd, 1) := by decide +kernel
theorem d_O_answerTo_12 : decode b_O_answerTo 12 = .ok (.if_icmp .ge (99), 3) := by decide +kernel
theorem d_O_answerTo_15 : decode b_O_answerTo 15 = .ok (.iload_n 3, 1) := by decide +kernel
theorem d_O_answerTo_16 : decode b_O_answerTo 16 = .ok (.aload_n 0, 1) := by decide +kernel
theorem d_O_answerTo_17 : decode b_O_answerTo 17 = .ok (.getfield 67, 3) := by decide +kernel
theorem d_O_answerTo_20 : decode b_O_answerTo 20 = .ok (.isub, 1) := by decide +kernel
theorem d_O_answerTo_21 : decode b_O_answerTo 21 = .ok (.istore 4, 2) := by decide +kernel
theorem d_O_answerTo_23 : decode b_O_answerTo 23 = .ok (.aload_n 0, 1) := by decide +kernel
theorem d_O_answerTo_24 : decode b_O_answerTo 24 = .ok (.getfield 39, 3) := by decide +kernel
theorem d_O_answerTo_27 : decode b_O_answerTo 27 = .ok (.iload_n 3, 1) := by decide +kernel
theorem d_O_answerTo_28 : decode b_O_answerTo 28 = .ok (.iload 4, 2) := by decide +kernel
theorem d_O_answerTo_30 : decode b_O_answerTo 30 = .ok (.ifCond .ge (11), 3) := by decide +kernel
theorem d_O_answerTo_33 : decode b_O_answerTo 33 = .ok (.iload_n 1, 1) := by decide +kernel
theorem d_O_answerTo_34 : decode b_O_answerTo 34 = .ok (.iload_n 3, 1) := by decide +kernel
theorem d_O_answerTo_35 : decode b_O_answerTo 35 = .ok (.ishr, 1) := by decide +kernel
theorem d_O_answerTo_36 : decode b_O_answerTo 36 = .ok (.iconst (1), 1) := by decide +kernel
theorem d_O_answerTo_37 : decode b_O_answerTo 37 = .ok (.iand, 1) := by decide +kernel
theorem d_O_answerTo_38 : decode b_O_answerTo 38 = .ok (.goto (37), 3) := by decide +kernel
theorem d_O_answerTo_41 : decode b_O_answerTo 41 = .ok (.aload_n 0, 1) := by decide +kernel
theorem d_O_answerTo_42 : decode b_O_answerTo 42 = .ok (.getfield 26, 3) := by decide +kernel
theorem d_O_answerTo_45 : decode b_O_answerTo 45 = .ok (.iload 4, 2) := by decide +kernel
theorem d_O_answerTo_47 : decode b_O_answerTo 47 = .ok (.iaload, 1) := by decide +kernel
theorem d_O_answerTo_48 : decode b_O_answerTo 48 = .ok (.aload_n 0, 1) := by decide +kernel
theorem d_O_answerTo_49 : decode b_O_answerTo 49 = .ok (.getfield 39, 3) := by decide +kernel
theorem d_O_answerTo_52 : decode b_O_answerTo 52 = .ok (.aload_n 0, 1) := by decide +kernel
theorem d_O_answerTo_53 : decode b_O_answerTo 53 = .ok (.getfield 30, 3) := by decide +kernel
theorem d_O_answerTo_56 : decode b_O_answerTo 56 = .ok (.iload 4, 2) := by decide +kernel
theorem d_O_answerTo_58 : decode b_O_answerTo 58 = .ok (.iaload, 1) := by decide +kernel
theorem d_O_answerTo_59 : decode b_O_answerTo 59 = .ok (.iaload, 1) := by decide +kernel
theorem d_O_answerTo_60 : decode b_O_answerTo 60 = .ok (.aload_n 0, 1) := by decide +kernel
theorem d_O_answerTo_61 : decode b_O_answerTo 61 = .ok (.getfield 39, 3) := by decide +kernel
theorem d_O_answerTo_64 : decode b_O_answerTo 64 = .ok (.aload_n 0, 1) := by decide +kernel
theorem d_O_answerTo_65 : decode b_O_answerTo 65 = .ok (.getfield 33, 3) := by decide +kernel
theorem d_O_answerTo_68 : decode b_O_answerTo 68 = .ok (.iload 4, 2) := by decide +kernel
theorem d_O_answerTo_70 : decode b_O_answerTo 70 = .ok (.iaload, 1) := by decide +kernel
theorem d_O_answerTo_71 : decode b_O_answerTo 71 = .ok (.iaload, 1) := by decide +kernel
theorem d_O_answerTo_72 : decode b_O_answerTo 72 = .ok (.invokestatic 110, 3) := by decide +kernel
theorem d_O_answerTo_75 : decode b_O_answerTo 75 = .ok (.iastore, 1) := by decide +kernel
theorem d_O_answerTo_76 : decode b_O_answerTo 76 = .ok (.aload_n 0, 1) := by decide +kernel
theorem d_O_answerTo_77 : decode b_O_answerTo 77 = .ok (.getfield 39, 3) := by decide +kernel
theorem d_O_answerTo_80 : decode b_O_answerTo 80 = .ok (.iload_n 3, 1) := by decide +kernel
theorem d_O_answerTo_81 : decode b_O_answerTo 81 = .ok (.iload_n 2, 1) := by decide +kernel
theorem d_O_answerTo_82 : decode b_O_answerTo 82 = .ok (.ifCond .lt (16), 3) := by decide +kernel
theorem d_O_answerTo_85 : decode b_O_answerTo 85 = .ok (.iload_n 2, 1) := by decide +kernel
theorem d_O_answerTo_86 : decode b_O_answerTo 86 = .ok (.iconst (2), 1) := by decide +kernel
theorem d_O_answerTo_87 : decode b_O_answerTo 87 = .ok (.idiv, 1) := by decide +kernel
theorem d_O_answerTo_88 : decode b_O_answerTo 88 = .ok (.iload_n 3, 1) := by decide +kernel
theorem d_O_answerTo_89 : decode b_O_answerTo 89 = .ok (.if_icmp .ne (9), 3) := by decide +kernel
theorem d_O_answerTo_92 : decode b_O_answerTo 92 = .ok (.iload_n 2, 1) := by decide +kernel
theorem d_O_answerTo_93 : decode b_O_answerTo 93 = .ok (.iconst (2), 1) := by decide +kernel
theorem d_O_answerTo_94 : decode b_O_answerTo 94 = .ok (.irem, 1) := by decide +kernel
theorem d_O_answerTo_95 : decode b_O_answerTo 95 = .ok (.goto (9), 3) := by decide +kernel
theorem d_O_answerTo_98 : decode b_O_answerTo 98 = .ok (.aload_n 0, 1) := by decide +kernel
theorem d_O_answerTo_99 : decode b_O_answerTo 99 = .ok (.getfield 39, 3) := by decide +kernel
theorem d_O_answerTo_102 : decode b_O_answerTo 102 = .ok (.iload_n 3, 1) := by decide +kernel
theorem d_O_answerTo_103 : decode b_O_answerTo 103 = .ok (.iaload, 1) := by decide +kernel
theorem d_O_answerTo_104 : decode b_O_answerTo 104 = .ok (.iastore, 1) := by decide +kernel
theorem d_O_answerTo_105 : decode b_O_answerTo 105 = .ok (.iinc 3 (1), 3) := by decide +kernel
theorem d_O_answerTo_108 : decode b_O_answerTo 108 = .ok (.goto (-106), 3) := by decide +kernel
theorem d_O_answerTo_111 : decode b_O_answerTo 111 = .ok (.iconst (0), 1) := by decide +kernel
theorem d_O_answerTo_112 : decode b_O_answerTo 112 = .ok (.istore_n 3, 1) := by decide +kernel
end
section
theorem d_O_answerTo_113 : decode b_O_answerTo 113 = .ok (.iconst (0), 1) := by decide +kernel
theorem d_O_answerTo_114 : decode b_O_answerTo 114 = .ok (.istore 4, 2) := by decide +kernel
theorem d_O_answerTo_116 : decode b_O_answerTo 116 = .ok (.iload 4, 2) := by decide +kernel
theorem d_O_answerTo_118 : decode b_O_answerTo 118 = .ok (.aload_n 0, 1) := by decide +kernel
theorem d_O_answerTo_119 : decode b_O_answerTo 119 = .ok (.getfield 54, 3) := by decide +kernel
theorem d_O_answerTo_122 : decode b_O_answerTo 122 = .ok (.if_icmp .ge (27), 3) := by decide +kernel
theorem d_O_answerTo_125 : decode b_O_answerTo 125 = .ok (.iload_n 3, 1) := by decide +kernel
theorem d_O_answerTo_126 : decode b_O_answerTo 126 = .ok (.aload_n 0, 1) := by decide +kernel
theorem d_O_answerTo_127 : decode b_O_answerTo 127 = .ok (.getfield 39, 3) := by decide +kernel
theorem d_O_answerTo_130 : decode b_O_answerTo 130 = .ok (.aload_n 0, 1) := by decide +kernel
theorem d_O_answerTo_131 : decode b_O_answerTo 131 = .ok (.getfield 36, 3) := by decide +kernel
theorem d_O_answerTo_134 : decode b_O_answerTo 134 = .ok (.iload 4, 2) := by decide +kernel
theorem d_O_answerTo_136 : decode b_O_answerTo 136 = .ok (.iaload, 1) := by decide +kernel
theorem d_O_answerTo_137 : decode b_O_answerTo 137 = .ok (.iaload, 1) := by decide +kernel
theorem d_O_answerTo_138 : decode b_O_answerTo 138 = .ok (.iload 4, 2) := by decide +kernel
theorem d_O_answerTo_140 : decode b_O_answerTo 140 = .ok (.ishl, 1) := by decide +kernel
theorem d_O_answerTo_141 : decode b_O_answerTo 141 = .ok (.ior, 1) := by decide +kernel
theorem d_O_answerTo_142 : decode b_O_answerTo 142 = .ok (.istore_n 3, 1) := by decide +kernel
theorem d_O_answerTo_143 : decode b_O_answerTo 143 = .ok (.iinc 4 (1), 3) := by decide +kernel
theorem d_O_answerTo_146 : decode b_O_answerTo 146 = .ok (.goto (-30), 3) := by decide +kernel
theorem d_O_answerTo_149 : decode b_O_answerTo 149 = .ok (.iload_n 3, 1) := by decide +kernel
theorem d_O_answerTo_150 : decode b_O_answerTo 150 = .ok (.ireturn, 1) := by decide +kernel
theorem d_O_isFault_0 : decode b_O_isFault 0 = .ok (.iload_n 1, 1) := by decide +kernel
theorem d_O_isFault_1 : decode b_O_isFault 1 = .ok (.ifCond .lt (22), 3) := by decide +kernel
theorem d_O_isFault_4 : decode b_O_isFault 4 = .ok (.iload_n 1, 1) := by decide +kernel
theorem d_O_isFault_5 : decode b_O_isFault 5 = .ok (.iconst (2), 1) := by decide +kernel
theorem d_O_isFault_6 : decode b_O_isFault 6 = .ok (.aload_n 0, 1) := by decide +kernel
theorem d_O_isFault_7 : decode b_O_isFault 7 = .ok (.getfield 67, 3) := by decide +kernel
theorem d_O_isFault_10 : decode b_O_isFault 10 = .ok (.aload_n 0, 1) := by decide +kernel
theorem d_O_isFault_11 : decode b_O_isFault 11 = .ok (.getfield 51, 3) := by decide +kernel
theorem d_O_isFault_14 : decode b_O_isFault 14 = .ok (.iadd, 1) := by decide +kernel
theorem d_O_isFault_15 : decode b_O_isFault 15 = .ok (.imul, 1) := by decide +kernel
theorem d_O_isFault_16 : decode b_O_isFault 16 = .ok (.if_icmp .ge (7), 3) := by decide +kernel
theorem d_O_isFault_19 : decode b_O_isFault 19 = .ok (.iconst (1), 1) := by decide +kernel
theorem d_O_isFault_20 : decode b_O_isFault 20 = .ok (.goto (4), 3) := by decide +kernel
theorem d_O_isFault_23 : decode b_O_isFault 23 = .ok (.iconst (0), 1) := by decide +kernel
theorem d_O_isFault_24 : decode b_O_isFault 24 = .ok (.ireturn, 1) := by decide +kernel
theorem d_O_answer_0 : decode b_O_answer 0 = .ok (.aload_n 0, 1) := by decide +kernel
theorem d_O_answer_1 : decode b_O_answer 1 = .ok (.iload_n 2, 1) := by decide +kernel
theorem d_O_answer_2 : decode b_O_answer 2 = .ok (.iconst (-1), 1) := by decide +kernel
theorem d_O_answer_3 : decode b_O_answer 3 = .ok (.if_icmp .eq (11), 3) := by decide +kernel
theorem d_O_answer_6 : decode b_O_answer 6 = .ok (.aload_n 0, 1) := by decide +kernel
theorem d_O_answer_7 : decode b_O_answer 7 = .ok (.iload_n 2, 1) := by decide +kernel
theorem d_O_answer_8 : decode b_O_answer 8 = .ok (.invokevirtual 114, 3) := by decide +kernel
theorem d_O_answer_11 : decode b_O_answer 11 = .ok (.ifCond .eq (7), 3) := by decide +kernel
theorem d_O_answer_14 : decode b_O_answer 14 = .ok (.iconst (0), 1) := by decide +kernel
theorem d_O_answer_15 : decode b_O_answer 15 = .ok (.goto (4), 3) := by decide +kernel
theorem d_O_answer_18 : decode b_O_answer 18 = .ok (.iconst (1), 1) := by decide +kernel
theorem d_O_answer_19 : decode b_O_answer 19 = .ok (.invokevirtual 57, 3) := by decide +kernel
theorem d_O_answer_22 : decode b_O_answer 22 = .ok (.ifCond .eq (7), 3) := by decide +kernel
theorem d_O_answer_25 : decode b_O_answer 25 = .ok (.iconst (0), 1) := by decide +kernel
theorem d_O_answer_26 : decode b_O_answer 26 = .ok (.goto (9), 3) := by decide +kernel
theorem d_O_answer_29 : decode b_O_answer 29 = .ok (.aload_n 0, 1) := by decide +kernel
theorem d_O_answer_30 : decode b_O_answer 30 = .ok (.iload_n 1, 1) := by decide +kernel
theorem d_O_answer_31 : decode b_O_answer 31 = .ok (.iload_n 2, 1) := by decide +kernel
theorem d_O_answer_32 : decode b_O_answer 32 = .ok (.invokevirtual 117, 3) := by decide +kernel
theorem d_O_answer_35 : decode b_O_answer 35 = .ok (.ireturn, 1) := by decide +kernel
theorem d_O_prepare_0 : decode b_O_prepare 0 = .ok (.aload_n 0, 1) := by decide +kernel
theorem d_O_prepare_1 : decode b_O_prepare 1 = .ok (.getfield 19, 3) := by decide +kernel
theorem d_O_prepare_4 : decode b_O_prepare 4 = .ok (.lstore_n 2, 1) := by decide +kernel
theorem d_O_prepare_5 : decode b_O_prepare 5 = .ok (.iconst (0), 1) := by decide +kernel
theorem d_O_prepare_6 : decode b_O_prepare 6 = .ok (.istore 4, 2) := by decide +kernel
theorem d_O_prepare_8 : decode b_O_prepare 8 = .ok (.iload 4, 2) := by decide +kernel
theorem d_O_prepare_10 : decode b_O_prepare 10 = .ok (.iload_n 1, 1) := by decide +kernel
theorem d_O_prepare_11 : decode b_O_prepare 11 = .ok (.if_icmp .ge (46), 3) := by decide +kernel
theorem d_O_prepare_14 : decode b_O_prepare 14 = .ok (.aload_n 0, 1) := by decide +kernel
theorem d_O_prepare_15 : decode b_O_prepare 15 = .ok (.getfield 42, 3) := by decide +kernel
theorem d_O_prepare_18 : decode b_O_prepare 18 = .ok (.iload 4, 2) := by decide +kernel
theorem d_O_prepare_20 : decode b_O_prepare 20 = .ok (.aload_n 0, 1) := by decide +kernel
theorem d_O_prepare_21 : decode b_O_prepare 21 = .ok (.lload_n 2, 1) := by decide +kernel
theorem d_O_prepare_22 : decode b_O_prepare 22 = .ok (.invokevirtual 103, 3) := by decide +kernel
theorem d_O_prepare_25 : decode b_O_prepare 25 = .ok (.iastore, 1) := by decide +kernel
theorem d_O_prepare_26 : decode b_O_prepare 26 = .ok (.aload_n 0, 1) := by decide +kernel
theorem d_O_prepare_27 : decode b_O_prepare 27 = .ok (.getfield 45, 3) := by decide +kernel
theorem d_O_prepare_30 : decode b_O_prepare 30 = .ok (.iload 4, 2) := by decide +kernel
theorem d_O_prepare_32 : decode b_O_prepare 32 = .ok (.aload_n 0, 1) := by decide +kernel
theorem d_O_prepare_33 : decode b_O_prepare 33 = .ok (.aload_n 0, 1) := by decide +kernel
theorem d_O_prepare_34 : decode b_O_prepare 34 = .ok (.getfield 42, 3) := by decide +kernel
theorem d_O_prepare_37 : decode b_O_prepare 37 = .ok (.iload 4, 2) := by decide +kernel
theorem d_O_prepare_39 : decode b_O_prepare 39 = .ok (.iaload, 1) := by decide +kernel
theorem d_O_prepare_40 : decode b_O_prepare 40 = .ok (.iconst (-1), 1) := by decide +kernel
theorem d_O_prepare_41 : decode b_O_prepare 41 = .ok (.invokevirtual 117, 3) := by decide +kernel
theorem d_O_prepare_44 : decode b_O_prepare 44 = .ok (.iastore, 1) := by decide +kernel
theorem d_O_prepare_45 : decode b_O_prepare 45 = .ok (.aload_n 0, 1) := by decide +kernel
theorem d_O_prepare_46 : decode b_O_prepare 46 = .ok (.lload_n 2, 1) := by decide +kernel
theorem d_O_prepare_47 : decode b_O_prepare 47 = .ok (.invokevirtual 75, 3) := by decide +kernel
theorem d_O_prepare_50 : decode b_O_prepare 50 = .ok (.lstore_n 2, 1) := by decide +kernel
theorem d_O_prepare_51 : decode b_O_prepare 51 = .ok (.iinc 4 (1), 3) := by decide +kernel
theorem d_O_prepare_54 : decode b_O_prepare 54 = .ok (.goto (-46), 3) := by decide +kernel
theorem d_O_prepare_57 : decode b_O_prepare 57 = .ok (.return_, 1) := by decide +kernel
theorem d_O_signature_0 : decode b_O_signature 0 = .ok (.lconst 0, 1) := by decide +kernel
theorem d_O_signature_1 : decode b_O_signature 1 = .ok (.lstore_n 3, 1) := by decide +kernel
theorem d_O_signature_2 : decode b_O_signature 2 = .ok (.iconst (0), 1) := by decide +kernel
theorem d_O_signature_3 : decode b_O_signature 3 = .ok (.istore 5, 2) := by decide +kernel
theorem d_O_signature_5 : decode b_O_signature 5 = .ok (.iload 5, 2) := by decide +kernel
theorem d_O_signature_7 : decode b_O_signature 7 = .ok (.iload_n 1, 1) := by decide +kernel
theorem d_O_signature_8 : decode b_O_signature 8 = .ok (.if_icmp .ge (33), 3) := by decide +kernel
theorem d_O_signature_11 : decode b_O_signature 11 = .ok (.aload_n 0, 1) := by decide +kernel
theorem d_O_signature_12 : decode b_O_signature 12 = .ok (.lload_n 3, 1) := by decide +kernel
theorem d_O_signature_13 : decode b_O_signature 13 = .ok (.invokevirtual 75, 3) := by decide +kernel
theorem d_O_signature_16 : decode b_O_signature 16 = .ok (.aload_n 0, 1) := by decide +kernel
theorem d_O_signature_17 : decode b_O_signature 17 = .ok (.aload_n 0, 1) := by decide +kernel
theorem d_O_signature_18 : decode b_O_signature 18 = .ok (.aload_n 0, 1) := by decide +kernel
theorem d_O_signature_19 : decode b_O_signature 19 = .ok (.getfield 42, 3) := by decide +kernel
theorem d_O_signature_22 : decode b_O_signature 22 = .ok (.iload 5, 2) := by decide +kernel
theorem d_O_signature_24 : decode b_O_signature 24 = .ok (.iaload, 1) := by decide +kernel
theorem d_O_signature_25 : decode b_O_signature 25 = .ok (.iload_n 2, 1) := by decide +kernel
theorem d_O_signature_26 : decode b_O_signature 26 = .ok (.invokevirtual 117, 3) := by decide +kernel
theorem d_O_signature_29 : decode b_O_signature 29 = .ok (.i2l, 1) := by decide +kernel
theorem d_O_signature_30 : decode b_O_signature 30 = .ok (.invokevirtual 79, 3) := by decide +kernel
theorem d_O_signature_33 : decode b_O_signature 33 = .ok (.lxor, 1) := by decide +kernel
theorem d_O_signature_34 : decode b_O_signature 34 = .ok (.lstore_n 3, 1) := by decide +kernel
theorem d_O_signature_35 : decode b_O_signature 35 = .ok (.iinc 5 (1), 3) := by decide +kernel
theorem d_O_signature_38 : decode b_O_signature 38 = .ok (.goto (-33), 3) := by decide +kernel
theorem d_O_signature_41 : decode b_O_signature 41 = .ok (.lload_n 3, 1) := by decide +kernel
theorem d_O_signature_42 : decode b_O_signature 42 = .ok (.lreturn, 1) := by decide +kernel
theorem d_O_firstSeen_0 : decode b_O_firstSeen 0 = .ok (.iconst (0), 1) := by decide +kernel
theorem d_O_firstSeen_1 : decode b_O_firstSeen 1 = .ok (.istore_n 3, 1) := by decide +kernel
theorem d_O_firstSeen_2 : decode b_O_firstSeen 2 = .ok (.iload_n 3, 1) := by decide +kernel
theorem d_O_firstSeen_3 : decode b_O_firstSeen 3 = .ok (.iload_n 1, 1) := by decide +kernel
theorem d_O_firstSeen_4 : decode b_O_firstSeen 4 = .ok (.if_icmp .ge (31), 3) := by decide +kernel
theorem d_O_firstSeen_7 : decode b_O_firstSeen 7 = .ok (.aload_n 0, 1) := by decide +kernel
theorem d_O_firstSeen_8 : decode b_O_firstSeen 8 = .ok (.aload_n 0, 1) := by decide +kernel
theorem d_O_firstSeen_9 : decode b_O_firstSeen 9 = .ok (.getfield 42, 3) := by decide +kernel
theorem d_O_firstSeen_12 : decode b_O_firstSeen 12 = .ok (.iload_n 3, 1) := by decide +kernel
theorem d_O_firstSeen_13 : decode b_O_firstSeen 13 = .ok (.iaload, 1) := by decide +kernel
theorem d_O_firstSeen_14 : decode b_O_firstSeen 14 = .ok (.iload_n 2, 1) := by decide +kernel
theorem d_O_firstSeen_15 : decode b_O_firstSeen 15 = .ok (.invokevirtual 117, 3) := by decide +kernel
theorem d_O_firstSeen_18 : decode b_O_firstSeen 18 = .ok (.aload_n 0, 1) := by decide +kernel
theorem d_O_firstSeen_19 : decode b_O_firstSeen 19 = .ok (.getfield 45, 3) := by decide +kernel
theorem d_O_firstSeen_22 : decode b_O_firstSeen 22 = .ok (.iload_n 3, 1) := by decide +kernel
theorem d_O_firstSeen_23 : decode b_O_firstSeen 23 = .ok (.iaload, 1) := by decide +kernel
theorem d_O_firstSeen_24 : decode b_O_firstSeen 24 = .ok (.if_icmp .eq (5), 3) := by decide +kernel
theorem d_O_firstSeen_27 : decode b_O_firstSeen 27 = .ok (.iload_n 3, 1) := by decide +kernel
theorem d_O_firstSeen_28 : decode b_O_firstSeen 28 = .ok (.ireturn, 1) := by decide +kernel
theorem d_O_firstSeen_29 : decode b_O_firstSeen 29 = .ok (.iinc 3 (1), 3) := by decide +kernel
theorem d_O_firstSeen_32 : decode b_O_firstSeen 32 = .ok (.goto (-30), 3) := by decide +kernel
theorem d_O_firstSeen_35 : decode b_O_firstSeen 35 = .ok (.iconst (-1), 1) := by decide +kernel
theorem d_O_firstSeen_36 : decode b_O_firstSeen 36 = .ok (.ireturn, 1) := by decide +kernel
theorem d_O_isCount_0 : decode b_O_isCount 0 = .ok (.iload_n 0, 1) := by decide +kernel
theorem d_O_isCount_1 : decode b_O_isCount 1 = .ok (.ifCond .lt (14), 3) := by decide +kernel
theorem d_O_isCount_4 : decode b_O_isCount 4 = .ok (.iload_n 0, 1) := by decide +kernel
theorem d_O_isCount_5 : decode b_O_isCount 5 = .ok (.sipush (256), 3) := by decide +kernel
theorem d_O_isCount_8 : decode b_O_isCount 8 = .ok (.if_icmp .gt (7), 3) := by decide +kernel
theorem d_O_isCount_11 : decode b_O_isCount 11 = .ok (.iconst (1), 1) := by decide +kernel
theorem d_O_isCount_12 : decode b_O_isCount 12 = .ok (.goto (4), 3) := by decide +kernel
theorem d_O_isCount_15 : decode b_O_isCount 15 = .ok (.iconst (0), 1) := by decide +kernel
theorem d_O_isCount_16 : decode b_O_isCount 16 = .ok (.ireturn, 1) := by decide +kernel
theorem d_O_session_0 : decode b_O_session 0 = .ok (.iload_n 2, 1) := by decide +kernel
theorem d_O_session_1 : decode b_O_session 1 = .ok (.iconst (-1), 1) := by decide +kernel
theorem d_O_session_2 : decode b_O_session 2 = .ok (.if_icmp .eq (11), 3) := by decide +kernel
theorem d_O_session_5 : decode b_O_session 5 = .ok (.aload_n 0, 1) := by decide +kernel
theorem d_O_session_6 : decode b_O_session 6 = .ok (.iload_n 2, 1) := by decide +kernel
theorem d_O_session_7 : decode b_O_session 7 = .ok (.invokevirtual 114, 3) := by decide +kernel
theorem d_O_session_10 : decode b_O_session 10 = .ok (.ifCond .eq (7), 3) := by decide +kernel
theorem d_O_session_13 : decode b_O_session 13 = .ok (.iconst (1), 1) := by decide +kernel
theorem d_O_session_14 : decode b_O_session 14 = .ok (.goto (4), 3) := by decide +kernel
theorem d_O_session_17 : decode b_O_session 17 = .ok (.iconst (0), 1) := by decide +kernel
theorem d_O_session_18 : decode b_O_session 18 = .ok (.istore_n 3, 1) := by decide +kernel
theorem d_O_session_19 : decode b_O_session 19 = .ok (.aload_n 0, 1) := by decide +kernel
theorem d_O_session_20 : decode b_O_session 20 = .ok (.iload_n 3, 1) := by decide +kernel
theorem d_O_session_21 : decode b_O_session 21 = .ok (.ifCond .ne (7), 3) := by decide +kernel
theorem d_O_session_24 : decode b_O_session 24 = .ok (.iconst (1), 1) := by decide +kernel
theorem d_O_session_25 : decode b_O_session 25 = .ok (.goto (15), 3) := by decide +kernel
theorem d_O_session_28 : decode b_O_session 28 = .ok (.iload_n 1, 1) := by decide +kernel
theorem d_O_session_29 : decode b_O_session 29 = .ok (.invokestatic 121, 3) := by decide +kernel
theorem d_O_session_32 : decode b_O_session 32 = .ok (.ifCond .ne (7), 3) := by decide +kernel
theorem d_O_session_35 : decode b_O_session 35 = .ok (.iconst (2), 1) := by decide +kernel
theorem d_O_session_36 : decode b_O_session 36 = .ok (.goto (4), 3) := by decide +kernel
theorem d_O_session_39 : decode b_O_session 39 = .ok (.iconst (0), 1) := by decide +kernel
theorem d_O_session_40 : decode b_O_session 40 = .ok (.invokevirtual 57, 3) := by decide +kernel
theorem d_O_session_43 : decode b_O_session 43 = .ok (.ifCond .eq (5), 3) := by decide +kernel
theorem d_O_session_46 : decode b_O_session 46 = .ok (.lconst 0, 1) := by decide +kernel
theorem d_O_session_47 : decode b_O_session 47 = .ok (.lreturn, 1) := by decide +kernel
theorem d_O_session_48 : decode b_O_session 48 = .ok (.aload_n 0, 1) := by decide +kernel
theorem d_O_session_49 : decode b_O_session 49 = .ok (.iload_n 1, 1) := by decide +kernel
theorem d_O_session_50 : decode b_O_session 50 = .ok (.invokevirtual 124, 3) := by decide +kernel
theorem d_O_session_53 : decode b_O_session 53 = .ok (.aload_n 0, 1) := by decide +kernel
theorem d_O_session_54 : decode b_O_session 54 = .ok (.iload_n 1, 1) := by decide +kernel
theorem d_O_session_55 : decode b_O_session 55 = .ok (.iload_n 2, 1) := by decide +kernel
theorem d_O_session_56 : decode b_O_session 56 = .ok (.invokevirtual 128, 3) := by decide +kernel
theorem d_O_session_59 : decode b_O_session 59 = .ok (.lreturn, 1) := by decide +kernel
theorem d_O_faults_0 : decode b_O_faults 0 = .ok (.aload_n 0, 1) := by decide +kernel
theorem d_O_faults_1 : decode b_O_faults 1 = .ok (.iload_n 2, 1) := by decide +kernel
theorem d_O_faults_2 : decode b_O_faults 2 = .ok (.ifCond .lt (8), 3) := by decide +kernel
theorem d_O_faults_5 : decode b_O_faults 5 = .ok (.iload_n 2, 1) := by decide +kernel
theorem d_O_faults_6 : decode b_O_faults 6 = .ok (.iconst (3), 1) := by decide +kernel
theorem d_O_faults_7 : decode b_O_faults 7 = .ok (.if_icmp .le (7), 3) := by decide +kernel
theorem d_O_faults_10 : decode b_O_faults 10 = .ok (.iconst (1), 1) := by decide +kernel
theorem d_O_faults_11 : decode b_O_faults 11 = .ok (.goto (15), 3) := by decide +kernel
theorem d_O_faults_14 : decode b_O_faults 14 = .ok (.iload_n 1, 1) := by decide +kernel
theorem d_O_faults_15 : decode b_O_faults 15 = .ok (.invokestatic 121, 3) := by decide +kernel
theorem d_O_faults_18 : decode b_O_faults 18 = .ok (.ifCond .ne (7), 3) := by decide +kernel
theorem d_O_faults_21 : decode b_O_faults 21 = .ok (.iconst (2), 1) := by decide +kernel
theorem d_O_faults_22 : decode b_O_faults 22 = .ok (.goto (4), 3) := by decide +kernel
theorem d_O_faults_25 : decode b_O_faults 25 = .ok (.iconst (0), 1) := by decide +kernel
theorem d_O_faults_26 : decode b_O_faults 26 = .ok (.invokevirtual 57, 3) := by decide +kernel
theorem d_O_faults_29 : decode b_O_faults 29 = .ok (.ifCond .eq (5), 3) := by decide +kernel
theorem d_O_faults_32 : decode b_O_faults 32 = .ok (.iconst (0), 1) := by decide +kernel
theorem d_O_faults_33 : decode b_O_faults 33 = .ok (.ireturn, 1) := by decide +kernel
theorem d_O_faults_34 : decode b_O_faults 34 = .ok (.aload_n 0, 1) := by decide +kernel
theorem d_O_faults_35 : decode b_O_faults 35 = .ok (.iload_n 1, 1) := by decide +kernel
theorem d_O_faults_36 : decode b_O_faults 36 = .ok (.invokevirtual 124, 3) := by decide +kernel
theorem d_O_faults_39 : decode b_O_faults 39 = .ok (.aload_n 0, 1) := by decide +kernel
theorem d_O_faults_40 : decode b_O_faults 40 = .ok (.iload_n 1, 1) := by decide +kernel
theorem d_O_faults_41 : decode b_O_faults 41 = .ok (.iconst (-1), 1) := by decide +kernel
theorem d_O_faults_42 : decode b_O_faults 42 = .ok (.invokevirtual 128, 3) := by decide +kernel
theorem d_O_faults_45 : decode b_O_faults 45 = .ok (.lstore_n 3, 1) := by decide +kernel
theorem d_O_faults_46 : decode b_O_faults 46 = .ok (.iconst (2), 1) := by decide +kernel
theorem d_O_faults_47 : decode b_O_faults 47 = .ok (.aload_n 0, 1) := by decide +kernel
theorem d_O_faults_48 : decode b_O_faults 48 = .ok (.getfield 67, 3) := by decide +kernel
theorem d_O_faults_51 : decode b_O_faults 51 = .ok (.aload_n 0, 1) := by decide +kernel
theorem d_O_faults_52 : decode b_O_faults 52 = .ok (.getfield 51, 3) := by decide +kernel
theorem d_O_faults_55 : decode b_O_faults 55 = .ok (.iadd, 1) := by decide +kernel
theorem d_O_faults_56 : decode b_O_faults 56 = .ok (.imul, 1) := by decide +kernel
theorem d_O_faults_57 : decode b_O_faults 57 = .ok (.istore 5, 2) := by decide +kernel
theorem d_O_faults_59 : decode b_O_faults 59 = .ok (.iconst (0), 1) := by decide +kernel
theorem d_O_faults_60 : decode b_O_faults 60 = .ok (.istore 6, 2) := by decide +kernel
theorem d_O_faults_62 : decode b_O_faults 62 = .ok (.iconst (0), 1) := by decide +kernel
theorem d_O_faults_63 : decode b_O_faults 63 = .ok (.istore 7, 2) := by decide +kernel
theorem d_O_faults_65 : decode b_O_faults 65 = .ok (.iconst (-1), 1) := by decide +kernel
theorem d_O_faults_66 : decode b_O_faults 66 = .ok (.istore 8, 2) := by decide +kernel
theorem d_O_faults_68 : decode b_O_faults 68 = .ok (.iload 5, 2) := by decide +kernel
theorem d_O_faults_70 : decode b_O_faults 70 = .ok (.iconst (1), 1) := by decide +kernel
theorem d_O_faults_71 : decode b_O_faults 71 = .ok (.isub, 1) := by decide +kernel
theorem d_O_faults_72 : decode b_O_faults 72 = .ok (.istore 9, 2) := by decide +kernel
theorem d_O_faults_74 : decode b_O_faults 74 = .ok (.iload 9, 2) := by decide +kernel
theorem d_O_faults_76 : decode b_O_faults 76 = .ok (.ifCond .lt (101), 3) := by decide +kernel
theorem d_O_faults_79 : decode b_O_faults 79 = .ok (.aload_n 0, 1) := by decide +kernel
theorem d_O_faults_80 : decode b_O_faults 80 = .ok (.iload_n 1, 1) := by decide +kernel
theorem d_O_faults_81 : decode b_O_faults 81 = .ok (.iload 9, 2) := by decide +kernel
theorem d_O_faults_83 : decode b_O_faults 83 = .ok (.invokevirtual 132, 3) := by decide +kernel
theorem d_O_faults_86 : decode b_O_faults 86 = .ok (.ifCond .lt (7), 3) := by decide +kernel
theorem d_O_faults_89 : decode b_O_faults 89 = .ok (.iconst (1), 1) := by decide +kernel
theorem d_O_faults_90 : decode b_O_faults 90 = .ok (.goto (4), 3) := by decide +kernel
theorem d_O_faults_93 : decode b_O_faults 93 = .ok (.iconst (0), 1) := by decide +kernel
theorem d_O_faults_94 : decode b_O_faults 94 = .ok (.istore 10, 2) := by decide +kernel
theorem d_O_faults_96 : decode b_O_faults 96 = .ok (.iload 10, 2) := by decide +kernel
theorem d_O_faults_98 : decode b_O_faults 98 = .ok (.ifCond .eq (19), 3) := by decide +kernel
theorem d_O_faults_101 : decode b_O_faults 101 = .ok (.aload_n 0, 1) := by decide +kernel
theorem d_O_faults_102 : decode b_O_faults 102 = .ok (.iload_n 1, 1) := by decide +kernel
theorem d_O_faults_103 : decode b_O_faults 103 = .ok (.iload 9, 2) := by decide +kernel
theorem d_O_faults_105 : decode b_O_faults 105 = .ok (.invokevirtual 128, 3) := by decide +kernel
theorem d_O_faults_108 : decode b_O_faults 108 = .ok (.lload_n 3, 1) := by decide +kernel
theorem d_O_faults_109 : decode b_O_faults 109 = .ok (.lcmp, 1) := by decide +kernel
theorem d_O_faults_110 : decode b_O_faults 110 = .ok (.ifCond .eq (7), 3) := by decide +kernel
theorem d_O_faults_113 : decode b_O_faults 113 = .ok (.iconst (1), 1) := by decide +kernel
theorem d_O_faults_114 : decode b_O_faults 114 = .ok (.goto (4), 3) := by decide +kernel
theorem d_O_faults_117 : decode b_O_faults 117 = .ok (.iconst (0), 1) := by decide +kernel
theorem d_O_faults_118 : decode b_O_faults 118 = .ok (.istore 11, 2) := by decide +kernel
theorem d_O_faults_120 : decode b_O_faults 120 = .ok (.iload 10, 2) := by decide +kernel
theorem d_O_faults_122 : decode b_O_faults 122 = .ok (.ifCond .eq (10), 3) := by decide +kernel
theorem d_O_faults_125 : decode b_O_faults 125 = .ok (.iload 6, 2) := by decide +kernel
theorem d_O_faults_127 : decode b_O_faults 127 = .ok (.iconst (1), 1) := by decide +kernel
theorem d_O_faults_128 : decode b_O_faults 128 = .ok (.iadd, 1) := by decide +kernel
theorem d_O_faults_129 : decode b_O_faults 129 = .ok (.goto (5), 3) := by decide +kernel
theorem d_O_faults_132 : decode b_O_faults 132 = .ok (.iload 6, 2) := by decide +kernel
theorem d_O_faults_134 : decode b_O_faults 134 = .ok (.istore 6, 2) := by decide +kernel
theorem d_O_faults_136 : decode b_O_faults 136 = .ok (.iload 11, 2) := by decide +kernel
theorem d_O_faults_138 : decode b_O_faults 138 = .ok (.ifCond .eq (10), 3) := by decide +kernel
theorem d_O_faults_141 : decode b_O_faults 141 = .ok (.iload 7, 2) := by decide +kernel
theorem d_O_faults_143 : decode b_O_faults 143 = .ok (.iconst (1), 1) := by decide +kernel
theorem d_O_faults_144 : decode b_O_faults 144 = .ok (.iadd, 1) := by decide +kernel
theorem d_O_faults_145 : decode b_O_faults 145 = .ok (.goto (5), 3) := by decide +kernel
theorem d_O_faults_148 : decode b_O_faults 148 = .ok (.iload 7, 2) := by decide +kernel
theorem d_O_faults_150 : decode b_O_faults 150 = .ok (.istore 7, 2) := by decide +kernel
theorem d_O_faults_152 : decode b_O_faults 152 = .ok (.iload 10, 2) := by decide +kernel
theorem d_O_faults_154 : decode b_O_faults 154 = .ok (.ifCond .eq (13), 3) := by decide +kernel
theorem d_O_faults_157 : decode b_O_faults 157 = .ok (.iload 11, 2) := by decide +kernel
theorem d_O_faults_159 : decode b_O_faults 159 = .ok (.ifCond .ne (8), 3) := by decide +kernel
theorem d_O_faults_162 : decode b_O_faults 162 = .ok (.iload 9, 2) := by decide +kernel
theorem d_O_faults_164 : decode b_O_faults 164 = .ok (.goto (5), 3) := by decide +kernel
theorem d_O_faults_167 : decode b_O_faults 167 = .ok (.iload 8, 2) := by decide +kernel
theorem d_O_faults_169 : decode b_O_faults 169 = .ok (.istore 8, 2) := by decide +kernel
theorem d_O_faults_171 : decode b_O_faults 171 = .ok (.iinc 9 (-1), 3) := by decide +kernel
theorem d_O_faults_174 : decode b_O_faults 174 = .ok (.goto (-100), 3) := by decide +kernel
theorem d_O_faults_177 : decode b_O_faults 177 = .ok (.iload_n 2, 1) := by decide +kernel
theorem d_O_faults_178 : decode b_O_faults 178 = .ok (.ifCond .ne (8), 3) := by decide +kernel
theorem d_O_faults_181 : decode b_O_faults 181 = .ok (.iload 5, 2) := by decide +kernel
theorem d_O_faults_183 : decode b_O_faults 183 = .ok (.goto (25), 3) := by decide +kernel
theorem d_O_faults_186 : decode b_O_faults 186 = .ok (.iload_n 2, 1) := by decide +kernel
theorem d_O_faults_187 : decode b_O_faults 187 = .ok (.iconst (1), 1) := by decide +kernel
theorem d_O_faults_188 : decode b_O_faults 188 = .ok (.if_icmp .ne (8), 3) := by decide +kernel
theorem d_O_faults_191 : decode b_O_faults 191 = .ok (.iload 6, 2) := by decide +kernel
theorem d_O_faults_193 : decode b_O_faults 193 = .ok (.goto (15), 3) := by decide +kernel
theorem d_O_faults_196 : decode b_O_faults 196 = .ok (.iload_n 2, 1) := by decide +kernel
theorem d_O_faults_197 : decode b_O_faults 197 = .ok (.iconst (2), 1) := by decide +kernel
theorem d_O_faults_198 : decode b_O_faults 198 = .ok (.if_icmp .ne (8), 3) := by decide +kernel
theorem d_O_faults_201 : decode b_O_faults 201 = .ok (.iload 7, 2) := by decide +kernel
theorem d_O_faults_203 : decode b_O_faults 203 = .ok (.goto (5), 3) := by decide +kernel
theorem d_O_faults_206 : decode b_O_faults 206 = .ok (.iload 8, 2) := by decide +kernel
theorem d_O_faults_208 : decode b_O_faults 208 = .ok (.ireturn, 1) := by decide +kernel
theorem d_O_first_0 : decode b_O_first 0 = .ok (.aload_n 0, 1) := by decide +kernel
theorem d_O_first_1 : decode b_O_first 1 = .ok (.aload_n 0, 1) := by decide +kernel
theorem d_O_first_2 : decode b_O_first 2 = .ok (.iload_n 2, 1) := by decide +kernel
theorem d_O_first_3 : decode b_O_first 3 = .ok (.invokevirtual 114, 3) := by decide +kernel
theorem d_O_first_6 : decode b_O_first 6 = .ok (.ifCond .ne (7), 3) := by decide +kernel
theorem d_O_first_9 : decode b_O_first 9 = .ok (.iconst (1), 1) := by decide +kernel
theorem d_O_first_10 : decode b_O_first 10 = .ok (.goto (15), 3) := by decide +kernel
theorem d_O_first_13 : decode b_O_first 13 = .ok (.iload_n 1, 1) := by decide +kernel
theorem d_O_first_14 : decode b_O_first 14 = .ok (.invokestatic 121, 3) := by decide +kernel
theorem d_O_first_17 : decode b_O_first 17 = .ok (.ifCond .ne (7), 3) := by decide +kernel
theorem d_O_first_20 : decode b_O_first 20 = .ok (.iconst (2), 1) := by decide +kernel
theorem d_O_first_21 : decode b_O_first 21 = .ok (.goto (4), 3) := by decide +kernel
theorem d_O_first_24 : decode b_O_first 24 = .ok (.iconst (0), 1) := by decide +kernel
theorem d_O_first_25 : decode b_O_first 25 = .ok (.invokevirtual 57, 3) := by decide +kernel
theorem d_O_first_28 : decode b_O_first 28 = .ok (.ifCond .eq (5), 3) := by decide +kernel
theorem d_O_first_31 : decode b_O_first 31 = .ok (.iconst (0), 1) := by decide +kernel
theorem d_O_first_32 : decode b_O_first 32 = .ok (.ireturn, 1) := by decide +kernel
theorem d_O_first_33 : decode b_O_first 33 = .ok (.aload_n 0, 1) := by decide +kernel
theorem d_O_first_34 : decode b_O_first 34 = .ok (.iload_n 1, 1) := by decide +kernel
theorem d_O_first_35 : decode b_O_first 35 = .ok (.invokevirtual 124, 3) := by decide +kernel
theorem d_O_first_38 : decode b_O_first 38 = .ok (.aload_n 0, 1) := by decide +kernel
theorem d_O_first_39 : decode b_O_first 39 = .ok (.iload_n 1, 1) := by decide +kernel
theorem d_O_first_40 : decode b_O_first 40 = .ok (.iload_n 2, 1) := by decide +kernel
theorem d_O_first_41 : decode b_O_first 41 = .ok (.invokevirtual 132, 3) := by decide +kernel
theorem d_O_first_44 : decode b_O_first 44 = .ok (.ireturn, 1) := by decide +kernel
theorem d_C_init_0 : decode b_C_init 0 = .ok (.aload_n 0, 1) := by decide +kernel
theorem d_C_init_1 : decode b_C_init 1 = .ok (.invokespecial 3, 3) := by decide +kernel
theorem d_C_init_4 : decode b_C_init 4 = .ok (.aload_n 0, 1) := by decide +kernel
theorem d_C_init_5 : decode b_C_init 5 = .ok (.bipush (24), 2) := by decide +kernel
theorem d_C_init_7 : decode b_C_init 7 = .ok (.newarray .int, 2) := by decide +kernel
theorem d_C_init_9 : decode b_C_init 9 = .ok (.putfield 9, 3) := by decide +kernel
theorem d_C_init_12 : decode b_C_init 12 = .ok (.aload_n 0, 1) := by decide +kernel
theorem d_C_init_13 : decode b_C_init 13 = .ok (.bipush (24), 2) := by decide +kernel
theorem d_C_init_15 : decode b_C_init 15 = .ok (.newarray .int, 2) := by decide +kernel
theorem d_C_init_17 : decode b_C_init 17 = .ok (.putfield 15, 3) := by decide +kernel
theorem d_C_init_20 : decode b_C_init 20 = .ok (.aload_n 0, 1) := by decide +kernel
theorem d_C_init_21 : decode b_C_init 21 = .ok (.bipush (24), 2) := by decide +kernel
theorem d_C_init_23 : decode b_C_init 23 = .ok (.newarray .int, 2) := by decide +kernel
theorem d_C_init_25 : decode b_C_init 25 = .ok (.putfield 18, 3) := by decide +kernel
theorem d_C_init_28 : decode b_C_init 28 = .ok (.aload_n 0, 1) := by decide +kernel
theorem d_C_init_29 : decode b_C_init 29 = .ok (.bipush (16), 2) := by decide +kernel
theorem d_C_init_31 : decode b_C_init 31 = .ok (.newarray .int, 2) := by decide +kernel
theorem d_C_init_33 : decode b_C_init 33 = .ok (.putfield 21, 3) := by decide +kernel
theorem d_C_init_36 : decode b_C_init 36 = .ok (.aload_n 0, 1) := by decide +kernel
theorem d_C_init_37 : decode b_C_init 37 = .ok (.bipush (32), 2) := by decide +kernel
theorem d_C_init_39 : decode b_C_init 39 = .ok (.newarray .long, 2) := by decide +kernel
theorem d_C_init_41 : decode b_C_init 41 = .ok (.putfield 24, 3) := by decide +kernel
theorem d_C_init_44 : decode b_C_init 44 = .ok (.return_, 1) := by decide +kernel
theorem d_C_restart_0 : decode b_C_restart 0 = .ok (.aload_n 0, 1) := by decide +kernel
theorem d_C_restart_1 : decode b_C_restart 1 = .ok (.iload_n 1, 1) := by decide +kernel
theorem d_C_restart_2 : decode b_C_restart 2 = .ok (.putfield 28, 3) := by decide +kernel
theorem d_C_restart_5 : decode b_C_restart 5 = .ok (.aload_n 0, 1) := by decide +kernel
theorem d_C_restart_6 : decode b_C_restart 6 = .ok (.iconst (0), 1) := by decide +kernel
theorem d_C_restart_7 : decode b_C_restart 7 = .ok (.putfield 32, 3) := by decide +kernel
theorem d_C_restart_10 : decode b_C_restart 10 = .ok (.aload_n 0, 1) := by decide +kernel
theorem d_C_restart_11 : decode b_C_restart 11 = .ok (.iconst (0), 1) := by decide +kernel
theorem d_C_restart_12 : decode b_C_restart 12 = .ok (.putfield 35, 3) := by decide +kernel
theorem d_C_restart_15 : decode b_C_restart 15 = .ok (.return_, 1) := by decide +kernel
theorem d_C_countLines_0 : decode b_C_countLines 0 = .ok (.aload_n 0, 1) := by decide +kernel
theorem d_C_countLines_1 : decode b_C_countLines 1 = .ok (.getfield 28, 3) := by decide +kernel
theorem d_C_countLines_4 : decode b_C_countLines 4 = .ok (.aload_n 0, 1) := by decide +kernel
theorem d_C_countLines_5 : decode b_C_countLines 5 = .ok (.getfield 32, 3) := by decide +kernel
theorem d_C_countLines_8 : decode b_C_countLines 8 = .ok (.iadd, 1) := by decide +kernel
theorem d_C_countLines_9 : decode b_C_countLines 9 = .ok (.ireturn, 1) := by decide +kernel
theorem d_C_countFaults_0 : decode b_C_countFaults 0 = .ok (.iconst (2), 1) := by decide +kernel
theorem d_C_countFaults_1 : decode b_C_countFaults 1 = .ok (.aload_n 0, 1) := by decide +kernel
theorem d_C_countFaults_2 : decode b_C_countFaults 2 = .ok (.invokevirtual 38, 3) := by decide +kernel
theorem d_C_countFaults_5 : decode b_C_countFaults 5 = .ok (.imul, 1) := by decide +kernel
theorem d_C_countFaults_6 : decode b_C_countFaults 6 = .ok (.ireturn, 1) := by decide +kernel
theorem d_C_addGate_0 : decode b_C_addGate 0 = .ok (.aload_n 0, 1) := by decide +kernel
theorem d_C_addGate_1 : decode b_C_addGate 1 = .ok (.invokevirtual 38, 3) := by decide +kernel
theorem d_C_addGate_4 : decode b_C_addGate 4 = .ok (.istore 4, 2) := by decide +kernel
theorem d_C_addGate_6 : decode b_C_addGate 6 = .ok (.aload_n 0, 1) := by decide +kernel
theorem d_C_addGate_7 : decode b_C_addGate 7 = .ok (.getfield 9, 3) := by decide +kernel
theorem d_C_addGate_10 : decode b_C_addGate 10 = .ok (.aload_n 0, 1) := by decide +kernel
theorem d_C_addGate_11 : decode b_C_addGate 11 = .ok (.getfield 32, 3) := by decide +kernel
theorem d_C_addGate_14 : decode b_C_addGate 14 = .ok (.iload_n 1, 1) := by decide +kernel
theorem d_C_addGate_15 : decode b_C_addGate 15 = .ok (.iastore, 1) := by decide +kernel
theorem d_C_addGate_16 : decode b_C_addGate 16 = .ok (.aload_n 0, 1) := by decide +kernel
theorem d_C_addGate_17 : decode b_C_addGate 17 = .ok (.getfield 15, 3) := by decide +kernel
theorem d_C_addGate_20 : decode b_C_addGate 20 = .ok (.aload_n 0, 1) := by decide +kernel
theorem d_C_addGate_21 : decode b_C_addGate 21 = .ok (.getfield 32, 3) := by decide +kernel
theorem d_C_addGate_24 : decode b_C_addGate 24 = .ok (.iload_n 2, 1) := by decide +kernel
theorem d_C_addGate_25 : decode b_C_addGate 25 = .ok (.iastore, 1) := by decide +kernel
theorem d_C_addGate_26 : decode b_C_addGate 26 = .ok (.aload_n 0, 1) := by decide +kernel
theorem d_C_addGate_27 : decode b_C_addGate 27 = .ok (.getfield 18, 3) := by decide +kernel
theorem d_C_addGate_30 : decode b_C_addGate 30 = .ok (.aload_n 0, 1) := by decide +kernel
theorem d_C_addGate_31 : decode b_C_addGate 31 = .ok (.getfield 32, 3) := by decide +kernel
theorem d_C_addGate_34 : decode b_C_addGate 34 = .ok (.iload_n 3, 1) := by decide +kernel
theorem d_C_addGate_35 : decode b_C_addGate 35 = .ok (.iastore, 1) := by decide +kernel
theorem d_C_addGate_36 : decode b_C_addGate 36 = .ok (.aload_n 0, 1) := by decide +kernel
theorem d_C_addGate_37 : decode b_C_addGate 37 = .ok (.dup, 1) := by decide +kernel
theorem d_C_addGate_38 : decode b_C_addGate 38 = .ok (.getfield 32, 3) := by decide +kernel
theorem d_C_addGate_41 : decode b_C_addGate 41 = .ok (.iconst (1), 1) := by decide +kernel
theorem d_C_addGate_42 : decode b_C_addGate 42 = .ok (.iadd, 1) := by decide +kernel
theorem d_C_addGate_43 : decode b_C_addGate 43 = .ok (.putfield 32, 3) := by decide +kernel
theorem d_C_addGate_46 : decode b_C_addGate 46 = .ok (.iload 4, 2) := by decide +kernel
theorem d_C_addGate_48 : decode b_C_addGate 48 = .ok (.ireturn, 1) := by decide +kernel
theorem d_C_addOutput_0 : decode b_C_addOutput 0 = .ok (.aload_n 0, 1) := by decide +kernel
theorem d_C_addOutput_1 : decode b_C_addOutput 1 = .ok (.getfield 21, 3) := by decide +kernel
theorem d_C_addOutput_4 : decode b_C_addOutput 4 = .ok (.aload_n 0, 1) := by decide +kernel
theorem d_C_addOutput_5 : decode b_C_addOutput 5 = .ok (.getfield 35, 3) := by decide +kernel
theorem d_C_addOutput_8 : decode b_C_addOutput 8 = .ok (.iload_n 1, 1) := by decide +kernel
theorem d_C_addOutput_9 : decode b_C_addOutput 9 = .ok (.iastore, 1) := by decide +kernel
theorem d_C_addOutput_10 : decode b_C_addOutput 10 = .ok (.aload_n 0, 1) := by decide +kernel
theorem d_C_addOutput_11 : decode b_C_addOutput 11 = .ok (.dup, 1) := by decide +kernel
theorem d_C_addOutput_12 : decode b_C_addOutput 12 = .ok (.getfield 35, 3) := by decide +kernel
theorem d_C_addOutput_15 : decode b_C_addOutput 15 = .ok (.iconst (1), 1) := by decide +kernel
theorem d_C_addOutput_16 : decode b_C_addOutput 16 = .ok (.iadd, 1) := by decide +kernel
theorem d_C_addOutput_17 : decode b_C_addOutput 17 = .ok (.putfield 35, 3) := by decide +kernel
theorem d_C_addOutput_20 : decode b_C_addOutput 20 = .ok (.aload_n 0, 1) := by decide +kernel
theorem d_C_addOutput_21 : decode b_C_addOutput 21 = .ok (.getfield 35, 3) := by decide +kernel
theorem d_C_addOutput_24 : decode b_C_addOutput 24 = .ok (.iconst (1), 1) := by decide +kernel
theorem d_C_addOutput_25 : decode b_C_addOutput 25 = .ok (.isub, 1) := by decide +kernel
theorem d_C_addOutput_26 : decode b_C_addOutput 26 = .ok (.ireturn, 1) := by decide +kernel
theorem d_C_answerTo_0 : decode b_C_answerTo 0 = .ok (.aload_n 0, 1) := by decide +kernel
theorem d_C_answerTo_1 : decode b_C_answerTo 1 = .ok (.iload_n 1, 1) := by decide +kernel
theorem d_C_answerTo_2 : decode b_C_answerTo 2 = .ok (.iload_n 2, 1) := by decide +kernel
theorem d_C_answerTo_3 : decode b_C_answerTo 3 = .ok (.iconst (-1), 1) := by decide +kernel
theorem d_C_answerTo_4 : decode b_C_answerTo 4 = .ok (.if_icmp .eq (7), 3) := by decide +kernel
theorem d_C_answerTo_7 : decode b_C_answerTo 7 = .ok (.iconst (1), 1) := by decide +kernel
theorem d_C_answerTo_8 : decode b_C_answerTo 8 = .ok (.goto (4), 3) := by decide +kernel
theorem d_C_answerTo_11 : decode b_C_answerTo 11 = .ok (.iconst (0), 1) := by decide +kernel
theorem d_C_answerTo_12 : decode b_C_answerTo 12 = .ok (.invokevirtual 42, 3) := by decide +kernel
theorem d_C_answerTo_15 : decode b_C_answerTo 15 = .ok (.iload_n 2, 1) := by decide +kernel
theorem d_C_answerTo_16 : decode b_C_answerTo 16 = .ok (.iconst (-1), 1) := by decide +kernel
theorem d_C_answerTo_17 : decode b_C_answerTo 17 = .ok (.if_icmp .ne (7), 3) := by decide +kernel
theorem d_C_answerTo_20 : decode b_C_answerTo 20 = .ok (.iconst (0), 1) := by decide +kernel
theorem d_C_answerTo_21 : decode b_C_answerTo 21 = .ok (.goto (4), 3) := by decide +kernel
theorem d_C_answerTo_24 : decode b_C_answerTo 24 = .ok (.iload_n 2, 1) := by decide +kernel
theorem d_C_answerTo_25 : decode b_C_answerTo 25 = .ok (.istore_n 3, 1) := by decide +kernel
theorem d_C_answerTo_26 : decode b_C_answerTo 26 = .ok (.iconst (0), 1) := by decide +kernel
theorem d_C_answerTo_27 : decode b_C_answerTo 27 = .ok (.istore 4, 2) := by decide +kernel
theorem d_C_answerTo_29 : decode b_C_answerTo 29 = .ok (.iconst (0), 1) := by decide +kernel
theorem d_C_answerTo_30 : decode b_C_answerTo 30 = .ok (.istore 5, 2) := by decide +kernel
theorem d_C_answerTo_32 : decode b_C_answerTo 32 = .ok (.iload 5, 2) := by decide +kernel
theorem d_C_answerTo_34 : decode b_C_answerTo 34 = .ok (.aload_n 0, 1) := by decide +kernel
theorem d_C_answerTo_35 : decode b_C_answerTo 35 = .ok (.getfield 35, 3) := by decide +kernel
theorem d_C_answerTo_38 : decode b_C_answerTo 38 = .ok (.if_icmp .ge (28), 3) := by decide +kernel
theorem d_C_answerTo_41 : decode b_C_answerTo 41 = .ok (.iload 4, 2) := by decide +kernel
theorem d_C_answerTo_43 : decode b_C_answerTo 43 = .ok (.aload_n 0, 1) := by decide +kernel
theorem d_C_answerTo_44 : decode b_C_answerTo 44 = .ok (.iload 5, 2) := by decide +kernel
theorem d_C_answerTo_46 : decode b_C_answerTo 46 = .ok (.invokevirtual 46, 3) := by decide +kernel
theorem d_C_answerTo_49 : decode b_C_answerTo 49 = .ok (.iload_n 3, 1) := by decide +kernel
theorem d_C_answerTo_50 : decode b_C_answerTo 50 = .ok (.lushr, 1) := by decide +kernel
theorem d_C_answerTo_51 : decode b_C_answerTo 51 = .ok (.lconst 1, 1) := by decide +kernel
theorem d_C_answerTo_52 : decode b_C_answerTo 52 = .ok (.land, 1) := by decide +kernel
theorem d_C_answerTo_53 : decode b_C_answerTo 53 = .ok (.l2i, 1) := by decide +kernel
theorem d_C_answerTo_54 : decode b_C_answerTo 54 = .ok (.iload 5, 2) := by decide +kernel
theorem d_C_answerTo_56 : decode b_C_answerTo 56 = .ok (.ishl, 1) := by decide +kernel
theorem d_C_answerTo_57 : decode b_C_answerTo 57 = .ok (.ior, 1) := by decide +kernel
theorem d_C_answerTo_58 : decode b_C_answerTo 58 = .ok (.istore 4, 2) := by decide +kernel
theorem d_C_answerTo_60 : decode b_C_answerTo 60 = .ok (.iinc 5 (1), 3) := by decide +kernel
theorem d_C_answerTo_63 : decode b_C_answerTo 63 = .ok (.goto (-31), 3) := by decide +kernel
theorem d_C_answerTo_66 : decode b_C_answerTo 66 = .ok (.iload 4, 2) := by decide +kernel
theorem d_C_answerTo_68 : decode b_C_answerTo 68 = .ok (.ireturn, 1) := by decide +kernel
theorem d_C_valuesOfOutput_0 : decode b_C_valuesOfOutput 0 = .ok (.aload_n 0, 1) := by decide +kernel
theorem d_C_valuesOfOutput_1 : decode b_C_valuesOfOutput 1 = .ok (.getfield 24, 3) := by decide +kernel
theorem d_C_valuesOfOutput_4 : decode b_C_valuesOfOutput 4 = .ok (.aload_n 0, 1) := by decide +kernel
theorem d_C_valuesOfOutput_5 : decode b_C_valuesOfOutput 5 = .ok (.getfield 21, 3) := by decide +kernel
theorem d_C_valuesOfOutput_8 : decode b_C_valuesOfOutput 8 = .ok (.iload_n 1, 1) := by decide +kernel
theorem d_C_valuesOfOutput_9 : decode b_C_valuesOfOutput 9 = .ok (.iaload, 1) := by decide +kernel
theorem d_C_valuesOfOutput_10 : decode b_C_valuesOfOutput 10 = .ok (.laload, 1) := by decide +kernel
theorem d_C_valuesOfOutput_11 : decode b_C_valuesOfOutput 11 = .ok (.lreturn, 1) := by decide +kernel
theorem d_C_settle_0 : decode b_C_settle 0 = .ok (.aload_n 0, 1) := by decide +kernel
theorem d_C_settle_1 : decode b_C_settle 1 = .ok (.invokevirtual 38, 3) := by decide +kernel
theorem d_C_settle_4 : decode b_C_settle 4 = .ok (.istore_n 3, 1) := by decide +kernel
theorem d_C_settle_5 : decode b_C_settle 5 = .ok (.iconst (0), 1) := by decide +kernel
theorem d_C_settle_6 : decode b_C_settle 6 = .ok (.istore 4, 2) := by decide +kernel
theorem d_C_settle_8 : decode b_C_settle 8 = .ok (.iload 4, 2) := by decide +kernel
theorem d_C_settle_10 : decode b_C_settle 10 = .ok (.iload_n 3, 1) := by decide +kernel
theorem d_C_settle_11 : decode b_C_settle 11 = .ok (.if_icmp .ge (64), 3) := by decide +kernel
theorem d_C_settle_14 : decode b_C_settle 14 = .ok (.iload 4, 2) := by decide +kernel
theorem d_C_settle_16 : decode b_C_settle 16 = .ok (.aload_n 0, 1) := by decide +kernel
theorem d_C_settle_17 : decode b_C_settle 17 = .ok (.getfield 28, 3) := by decide +kernel
theorem d_C_settle_20 : decode b_C_settle 20 = .ok (.if_icmp .ge (13), 3) := by decide +kernel
theorem d_C_settle_23 : decode b_C_settle 23 = .ok (.iload_n 1, 1) := by decide +kernel
theorem d_C_settle_24 : decode b_C_settle 24 = .ok (.iload 4, 2) := by decide +kernel
theorem d_C_settle_26 : decode b_C_settle 26 = .ok (.iushr, 1) := by decide +kernel
theorem d_C_settle_27 : decode b_C_settle 27 = .ok (.invokestatic 50, 3) := by decide +kernel
theorem d_C_settle_30 : decode b_C_settle 30 = .ok (.goto (14), 3) := by decide +kernel
theorem d_C_settle_33 : decode b_C_settle 33 = .ok (.aload_n 0, 1) := by decide +kernel
theorem d_C_settle_34 : decode b_C_settle 34 = .ok (.iload 4, 2) := by decide +kernel
theorem d_C_settle_36 : decode b_C_settle 36 = .ok (.aload_n 0, 1) := by decide +kernel
theorem d_C_settle_37 : decode b_C_settle 37 = .ok (.getfield 28, 3) := by decide +kernel
theorem d_C_settle_40 : decode b_C_settle 40 = .ok (.isub, 1) := by decide +kernel
theorem d_C_settle_41 : decode b_C_settle 41 = .ok (.invokevirtual 53, 3) := by decide +kernel
theorem d_C_settle_44 : decode b_C_settle 44 = .ok (.lstore 5, 2) := by decide +kernel
theorem d_C_settle_46 : decode b_C_settle 46 = .ok (.aload_n 0, 1) := by decide +kernel
theorem d_C_settle_47 : decode b_C_settle 47 = .ok (.getfield 24, 3) := by decide +kernel
theorem d_C_settle_50 : decode b_C_settle 50 = .ok (.iload 4, 2) := by decide +kernel
theorem d_C_settle_52 : decode b_C_settle 52 = .ok (.iload_n 2, 1) := by decide +kernel
theorem d_C_settle_53 : decode b_C_settle 53 = .ok (.ifCond .eq (13), 3) := by decide +kernel
theorem d_C_settle_56 : decode b_C_settle 56 = .ok (.lload 5, 2) := by decide +kernel
theorem d_C_settle_58 : decode b_C_settle 58 = .ok (.iload 4, 2) := by decide +kernel
theorem d_C_settle_60 : decode b_C_settle 60 = .ok (.invokestatic 56, 3) := by decide +kernel
theorem d_C_settle_63 : decode b_C_settle 63 = .ok (.goto (5), 3) := by decide +kernel
theorem d_C_settle_66 : decode b_C_settle 66 = .ok (.lload 5, 2) := by decide +kernel
theorem d_C_settle_68 : decode b_C_settle 68 = .ok (.lastore, 1) := by decide +kernel
theorem d_C_settle_69 : decode b_C_settle 69 = .ok (.iinc 4 (1), 3) := by decide +kernel
theorem d_C_settle_72 : decode b_C_settle 72 = .ok (.goto (-64), 3) := by decide +kernel
theorem d_C_settle_75 : decode b_C_settle 75 = .ok (.return_, 1) := by decide +kernel
theorem d_C_valuesOfGate_0 : decode b_C_valuesOfGate 0 = .ok (.aload_n 0, 1) := by decide +kernel
theorem d_C_valuesOfGate_1 : decode b_C_valuesOfGate 1 = .ok (.getfield 24, 3) := by decide +kernel
theorem d_C_valuesOfGate_4 : decode b_C_valuesOfGate 4 = .ok (.aload_n 0, 1) := by decide +kernel
theorem d_C_valuesOfGate_5 : decode b_C_valuesOfGate 5 = .ok (.getfield 15, 3) := by decide +kernel
theorem d_C_valuesOfGate_8 : decode b_C_valuesOfGate 8 = .ok (.iload_n 1, 1) := by decide +kernel
theorem d_C_valuesOfGate_9 : decode b_C_valuesOfGate 9 = .ok (.iaload, 1) := by decide +kernel
theorem d_C_valuesOfGate_10 : decode b_C_valuesOfGate 10 = .ok (.laload, 1) := by decide +kernel
theorem d_C_valuesOfGate_11 : decode b_C_valuesOfGate 11 = .ok (.lstore_n 2, 1) := by decide +kernel
theorem d_C_valuesOfGate_12 : decode b_C_valuesOfGate 12 = .ok (.aload_n 0, 1) := by decide +kernel
theorem d_C_valuesOfGate_13 : decode b_C_valuesOfGate 13 = .ok (.getfield 24, 3) := by decide +kernel
theorem d_C_valuesOfGate_16 : decode b_C_valuesOfGate 16 = .ok (.aload_n 0, 1) := by decide +kernel
theorem d_C_valuesOfGate_17 : decode b_C_valuesOfGate 17 = .ok (.getfield 18, 3) := by decide +kernel
theorem d_C_valuesOfGate_20 : decode b_C_valuesOfGate 20 = .ok (.iload_n 1, 1) := by decide +kernel
theorem d_C_valuesOfGate_21 : decode b_C_valuesOfGate 21 = .ok (.iaload, 1) := by decide +kernel
theorem d_C_valuesOfGate_22 : decode b_C_valuesOfGate 22 = .ok (.laload, 1) := by decide +kernel
theorem d_C_valuesOfGate_23 : decode b_C_valuesOfGate 23 = .ok (.lstore 4, 2) := by decide +kernel
theorem d_C_valuesOfGate_25 : decode b_C_valuesOfGate 25 = .ok (.aload_n 0, 1) := by decide +kernel
theorem d_C_valuesOfGate_26 : decode b_C_valuesOfGate 26 = .ok (.getfield 9, 3) := by decide +kernel
theorem d_C_valuesOfGate_29 : decode b_C_valuesOfGate 29 = .ok (.iload_n 1, 1) := by decide +kernel
theorem d_C_valuesOfGate_30 : decode b_C_valuesOfGate 30 = .ok (.iaload, 1) := by decide +kernel
theorem d_C_valuesOfGate_31 : decode b_C_valuesOfGate 31 = .ok (.tableswitch (66) (0) (4) #[(33), (38), (43), (48), (57)], 33) := by decide +kernel
theorem d_C_valuesOfGate_64 : decode b_C_valuesOfGate 64 = .ok (.lload_n 2, 1) := by decide +kernel
theorem d_C_valuesOfGate_65 : decode b_C_valuesOfGate 65 = .ok (.lload 4, 2) := by decide +kernel
theorem d_C_valuesOfGate_67 : decode b_C_valuesOfGate 67 = .ok (.land, 1) := by decide +kernel
theorem d_C_valuesOfGate_68 : decode b_C_valuesOfGate 68 = .ok (.lreturn, 1) := by decide +kernel
theorem d_C_valuesOfGate_69 : decode b_C_valuesOfGate 69 = .ok (.lload_n 2, 1) := by decide +kernel
theorem d_C_valuesOfGate_70 : decode b_C_valuesOfGate 70 = .ok (.lload 4, 2) := by decide +kernel
theorem d_C_valuesOfGate_72 : decode b_C_valuesOfGate 72 = .ok (.lor, 1) := by decide +kernel
theorem d_C_valuesOfGate_73 : decode b_C_valuesOfGate 73 = .ok (.lreturn, 1) := by decide +kernel
theorem d_C_valuesOfGate_74 : decode b_C_valuesOfGate 74 = .ok (.lload_n 2, 1) := by decide +kernel
theorem d_C_valuesOfGate_75 : decode b_C_valuesOfGate 75 = .ok (.lload 4, 2) := by decide +kernel
theorem d_C_valuesOfGate_77 : decode b_C_valuesOfGate 77 = .ok (.lxor, 1) := by decide +kernel
theorem d_C_valuesOfGate_78 : decode b_C_valuesOfGate 78 = .ok (.lreturn, 1) := by decide +kernel
theorem d_C_valuesOfGate_79 : decode b_C_valuesOfGate 79 = .ok (.lload_n 2, 1) := by decide +kernel
theorem d_C_valuesOfGate_80 : decode b_C_valuesOfGate 80 = .ok (.lload 4, 2) := by decide +kernel
theorem d_C_valuesOfGate_82 : decode b_C_valuesOfGate 82 = .ok (.land, 1) := by decide +kernel
theorem d_C_valuesOfGate_83 : decode b_C_valuesOfGate 83 = .ok (.ldc2_w 60, 3) := by decide +kernel
theorem d_C_valuesOfGate_86 : decode b_C_valuesOfGate 86 = .ok (.lxor, 1) := by decide +kernel
theorem d_C_valuesOfGate_87 : decode b_C_valuesOfGate 87 = .ok (.lreturn, 1) := by decide +kernel
theorem d_C_valuesOfGate_88 : decode b_C_valuesOfGate 88 = .ok (.lload_n 2, 1) := by decide +kernel
theorem d_C_valuesOfGate_89 : decode b_C_valuesOfGate 89 = .ok (.lload 4, 2) := by decide +kernel
theorem d_C_valuesOfGate_91 : decode b_C_valuesOfGate 91 = .ok (.lor, 1) := by decide +kernel
theorem d_C_valuesOfGate_92 : decode b_C_valuesOfGate 92 = .ok (.ldc2_w 60, 3) := by decide +kernel
theorem d_C_valuesOfGate_95 : decode b_C_valuesOfGate 95 = .ok (.lxor, 1) := by decide +kernel
theorem d_C_valuesOfGate_96 : decode b_C_valuesOfGate 96 = .ok (.lreturn, 1) := by decide +kernel
theorem d_C_valuesOfGate_97 : decode b_C_valuesOfGate 97 = .ok (.lload_n 2, 1) := by decide +kernel
theorem d_C_valuesOfGate_98 : decode b_C_valuesOfGate 98 = .ok (.ldc2_w 60, 3) := by decide +kernel
theorem d_C_valuesOfGate_101 : decode b_C_valuesOfGate 101 = .ok (.lxor, 1) := by decide +kernel
theorem d_C_valuesOfGate_102 : decode b_C_valuesOfGate 102 = .ok (.lreturn, 1) := by decide +kernel
theorem d_C_withStuck_0 : decode b_C_withStuck 0 = .ok (.lconst 1, 1) := by decide +kernel
theorem d_C_withStuck_1 : decode b_C_withStuck 1 = .ok (.iconst (2), 1) := by decide +kernel
theorem d_C_withStuck_2 : decode b_C_withStuck 2 = .ok (.iload_n 2, 1) := by decide +kernel
theorem d_C_withStuck_3 : decode b_C_withStuck 3 = .ok (.imul, 1) := by decide +kernel
theorem d_C_withStuck_4 : decode b_C_withStuck 4 = .ok (.lshl, 1) := by decide +kernel
theorem d_C_withStuck_5 : decode b_C_withStuck 5 = .ok (.lstore_n 3, 1) := by decide +kernel
theorem d_C_withStuck_6 : decode b_C_withStuck 6 = .ok (.lload_n 3, 1) := by decide +kernel
theorem d_C_withStuck_7 : decode b_C_withStuck 7 = .ok (.iconst (1), 1) := by decide +kernel
theorem d_C_withStuck_8 : decode b_C_withStuck 8 = .ok (.lshl, 1) := by decide +kernel
theorem d_C_withStuck_9 : decode b_C_withStuck 9 = .ok (.lstore 5, 2) := by decide +kernel
theorem d_C_withStuck_11 : decode b_C_withStuck 11 = .ok (.lload_n 0, 1) := by decide +kernel
theorem d_C_withStuck_12 : decode b_C_withStuck 12 = .ok (.lload_n 3, 1) := by decide +kernel
theorem d_C_withStuck_13 : decode b_C_withStuck 13 = .ok (.ldc2_w 60, 3) := by decide +kernel
theorem d_C_withStuck_16 : decode b_C_withStuck 16 = .ok (.lxor, 1) := by decide +kernel
theorem d_C_withStuck_17 : decode b_C_withStuck 17 = .ok (.land, 1) := by decide +kernel
theorem d_C_withStuck_18 : decode b_C_withStuck 18 = .ok (.lload 5, 2) := by decide +kernel
theorem d_C_withStuck_20 : decode b_C_withStuck 20 = .ok (.lor, 1) := by decide +kernel
theorem d_C_withStuck_21 : decode b_C_withStuck 21 = .ok (.lreturn, 1) := by decide +kernel
theorem d_C_spread_0 : decode b_C_spread 0 = .ok (.iload_n 0, 1) := by decide +kernel
theorem d_C_spread_1 : decode b_C_spread 1 = .ok (.iconst (1), 1) := by decide +kernel
theorem d_C_spread_2 : decode b_C_spread 2 = .ok (.iand, 1) := by decide +kernel
theorem d_C_spread_3 : decode b_C_spread 3 = .ok (.i2l, 1) := by decide +kernel
theorem d_C_spread_4 : decode b_C_spread 4 = .ok (.lneg, 1) := by decide +kernel
theorem d_C_spread_5 : decode b_C_spread 5 = .ok (.lreturn, 1) := by decide +kernel
theorem d_D_init_0 : decode b_D_init 0 = .ok (.aload_n 0, 1) := by decide +kernel
theorem d_D_init_1 : decode b_D_init 1 = .ok (.invokespecial 3, 3) := by decide +kernel
theorem d_D_init_4 : decode b_D_init 4 = .ok (.aload_n 0, 1) := by decide +kernel
theorem d_D_init_5 : decode b_D_init 5 = .ok (.bipush (33), 2) := by decide +kernel
theorem d_D_init_7 : decode b_D_init 7 = .ok (.newarray .long, 2) := by decide +kernel
theorem d_D_init_9 : decode b_D_init 9 = .ok (.putfield 9, 3) := by decide +kernel
theorem d_D_init_12 : decode b_D_init 12 = .ok (.return_, 1) := by decide +kernel
theorem d_D_clear_0 : decode b_D_clear 0 = .ok (.aload_n 0, 1) := by decide +kernel
theorem d_D_clear_1 : decode b_D_clear 1 = .ok (.lconst 0, 1) := by decide +kernel
theorem d_D_clear_2 : decode b_D_clear 2 = .ok (.putfield 15, 3) := by decide +kernel
theorem d_D_clear_5 : decode b_D_clear 5 = .ok (.iconst (0), 1) := by decide +kernel
theorem d_D_clear_6 : decode b_D_clear 6 = .ok (.istore_n 1, 1) := by decide +kernel
theorem d_D_clear_7 : decode b_D_clear 7 = .ok (.iload_n 1, 1) := by decide +kernel
theorem d_D_clear_8 : decode b_D_clear 8 = .ok (.aload_n 0, 1) := by decide +kernel
theorem d_D_clear_9 : decode b_D_clear 9 = .ok (.getfield 9, 3) := by decide +kernel
theorem d_D_clear_12 : decode b_D_clear 12 = .ok (.arraylength, 1) := by decide +kernel
theorem d_D_clear_13 : decode b_D_clear 13 = .ok (.if_icmp .ge (16), 3) := by decide +kernel
theorem d_D_clear_16 : decode b_D_clear 16 = .ok (.aload_n 0, 1) := by decide +kernel
theorem d_D_clear_17 : decode b_D_clear 17 = .ok (.getfield 9, 3) := by decide +kernel
theorem d_D_clear_20 : decode b_D_clear 20 = .ok (.iload_n 1, 1) := by decide +kernel
theorem d_D_clear_21 : decode b_D_clear 21 = .ok (.lconst 0, 1) := by decide +kernel
theorem d_D_clear_22 : decode b_D_clear 22 = .ok (.lastore, 1) := by decide +kernel
theorem d_D_clear_23 : decode b_D_clear 23 = .ok (.iinc 1 (1), 3) := by decide +kernel
theorem d_D_clear_26 : decode b_D_clear 26 = .ok (.goto (-19), 3) := by decide +kernel
theorem d_D_clear_29 : decode b_D_clear 29 = .ok (.return_, 1) := by decide +kernel
theorem d_D_timesX_0 : decode b_D_timesX 0 = .ok (.aload_n 0, 1) := by decide +kernel
theorem d_D_timesX_1 : decode b_D_timesX 1 = .ok (.getfield 9, 3) := by decide +kernel
theorem d_D_timesX_4 : decode b_D_timesX 4 = .ok (.arraylength, 1) := by decide +kernel
theorem d_D_timesX_5 : decode b_D_timesX 5 = .ok (.iconst (1), 1) := by decide +kernel
theorem d_D_timesX_6 : decode b_D_timesX 6 = .ok (.isub, 1) := by decide +kernel
theorem d_D_timesX_7 : decode b_D_timesX 7 = .ok (.istore_n 1, 1) := by decide +kernel
theorem d_D_timesX_8 : decode b_D_timesX 8 = .ok (.iload_n 1, 1) := by decide +kernel
theorem d_D_timesX_9 : decode b_D_timesX 9 = .ok (.ifCond .le (23), 3) := by decide +kernel
theorem d_D_timesX_12 : decode b_D_timesX 12 = .ok (.aload_n 0, 1) := by decide +kernel
theorem d_D_timesX_13 : decode b_D_timesX 13 = .ok (.getfield 9, 3) := by decide +kernel
theorem d_D_timesX_16 : decode b_D_timesX 16 = .ok (.iload_n 1, 1) := by decide +kernel
theorem d_D_timesX_17 : decode b_D_timesX 17 = .ok (.aload_n 0, 1) := by decide +kernel
theorem d_D_timesX_18 : decode b_D_timesX 18 = .ok (.getfield 9, 3) := by decide +kernel
theorem d_D_timesX_21 : decode b_D_timesX 21 = .ok (.iload_n 1, 1) := by decide +kernel
theorem d_D_timesX_22 : decode b_D_timesX 22 = .ok (.iconst (1), 1) := by decide +kernel
theorem d_D_timesX_23 : decode b_D_timesX 23 = .ok (.isub, 1) := by decide +kernel
theorem d_D_timesX_24 : decode b_D_timesX 24 = .ok (.laload, 1) := by decide +kernel
theorem d_D_timesX_25 : decode b_D_timesX 25 = .ok (.lastore, 1) := by decide +kernel
theorem d_D_timesX_26 : decode b_D_timesX 26 = .ok (.iinc 1 (-1), 3) := by decide +kernel
theorem d_D_timesX_29 : decode b_D_timesX 29 = .ok (.goto (-21), 3) := by decide +kernel
theorem d_D_timesX_32 : decode b_D_timesX 32 = .ok (.aload_n 0, 1) := by decide +kernel
theorem d_D_timesX_33 : decode b_D_timesX 33 = .ok (.getfield 9, 3) := by decide +kernel
theorem d_D_timesX_36 : decode b_D_timesX 36 = .ok (.iconst (0), 1) := by decide +kernel
theorem d_D_timesX_37 : decode b_D_timesX 37 = .ok (.lconst 0, 1) := by decide +kernel
theorem d_D_timesX_38 : decode b_D_timesX 38 = .ok (.lastore, 1) := by decide +kernel
theorem d_D_timesX_39 : decode b_D_timesX 39 = .ok (.return_, 1) := by decide +kernel
theorem d_D_addAnswers_0 : decode b_D_addAnswers 0 = .ok (.aload_n 1, 1) := by decide +kernel
theorem d_D_addAnswers_1 : decode b_D_addAnswers 1 = .ok (.iload_n 2, 1) := by decide +kernel
theorem d_D_addAnswers_2 : decode b_D_addAnswers 2 = .ok (.iconst (-1), 1) := by decide +kernel
theorem d_D_addAnswers_3 : decode b_D_addAnswers 3 = .ok (.invokevirtual 19, 3) := by decide +kernel
theorem d_D_addAnswers_6 : decode b_D_addAnswers 6 = .ok (.istore_n 3, 1) := by decide +kernel
theorem d_D_addAnswers_7 : decode b_D_addAnswers 7 = .ok (.aload_n 1, 1) := by decide +kernel
theorem d_D_addAnswers_8 : decode b_D_addAnswers 8 = .ok (.iload_n 2, 1) := by decide +kernel
theorem d_D_addAnswers_9 : decode b_D_addAnswers 9 = .ok (.iconst (1), 1) := by decide +kernel
theorem d_D_addAnswers_10 : decode b_D_addAnswers 10 = .ok (.invokevirtual 25, 3) := by decide +kernel
theorem d_D_addAnswers_13 : decode b_D_addAnswers 13 = .ok (.iconst (0), 1) := by decide +kernel
theorem d_D_addAnswers_14 : decode b_D_addAnswers 14 = .ok (.istore 4, 2) := by decide +kernel
theorem d_D_addAnswers_16 : decode b_D_addAnswers 16 = .ok (.iload 4, 2) := by decide +kernel
theorem d_D_addAnswers_18 : decode b_D_addAnswers 18 = .ok (.aload_n 1, 1) := by decide +kernel
theorem d_D_addAnswers_19 : decode b_D_addAnswers 19 = .ok (.getfield 29, 3) := by decide +kernel
theorem d_D_addAnswers_22 : decode b_D_addAnswers 22 = .ok (.if_icmp .ge (48), 3) := by decide +kernel
theorem d_D_addAnswers_25 : decode b_D_addAnswers 25 = .ok (.aload_n 1, 1) := by decide +kernel
theorem d_D_addAnswers_26 : decode b_D_addAnswers 26 = .ok (.iload 4, 2) := by decide +kernel
theorem d_D_addAnswers_28 : decode b_D_addAnswers 28 = .ok (.invokevirtual 33, 3) := by decide +kernel
theorem d_D_addAnswers_31 : decode b_D_addAnswers 31 = .ok (.iload_n 3, 1) := by decide +kernel
theorem d_D_addAnswers_32 : decode b_D_addAnswers 32 = .ok (.iload 4, 2) := by decide +kernel
theorem d_D_addAnswers_34 : decode b_D_addAnswers 34 = .ok (.iushr, 1) := by decide +kernel
theorem d_D_addAnswers_35 : decode b_D_addAnswers 35 = .ok (.invokestatic 37, 3) := by decide +kernel
theorem d_D_addAnswers_38 : decode b_D_addAnswers 38 = .ok (.lxor, 1) := by decide +kernel
theorem d_D_addAnswers_39 : decode b_D_addAnswers 39 = .ok (.lstore 5, 2) := by decide +kernel
theorem d_D_addAnswers_41 : decode b_D_addAnswers 41 = .ok (.aload_n 0, 1) := by decide +kernel
theorem d_D_addAnswers_42 : decode b_D_addAnswers 42 = .ok (.getfield 9, 3) := by decide +kernel
theorem d_D_addAnswers_45 : decode b_D_addAnswers 45 = .ok (.iload 4, 2) := by decide +kernel
theorem d_D_addAnswers_47 : decode b_D_addAnswers 47 = .ok (.dup2, 1) := by decide +kernel
theorem d_D_addAnswers_48 : decode b_D_addAnswers 48 = .ok (.laload, 1) := by decide +kernel
theorem d_D_addAnswers_49 : decode b_D_addAnswers 49 = .ok (.lload 5, 2) := by decide +kernel
theorem d_D_addAnswers_51 : decode b_D_addAnswers 51 = .ok (.lxor, 1) := by decide +kernel
theorem d_D_addAnswers_52 : decode b_D_addAnswers 52 = .ok (.lastore, 1) := by decide +kernel
theorem d_D_addAnswers_53 : decode b_D_addAnswers 53 = .ok (.aload_n 0, 1) := by decide +kernel
theorem d_D_addAnswers_54 : decode b_D_addAnswers 54 = .ok (.dup, 1) := by decide +kernel
theorem d_D_addAnswers_55 : decode b_D_addAnswers 55 = .ok (.getfield 15, 3) := by decide +kernel
theorem d_D_addAnswers_58 : decode b_D_addAnswers 58 = .ok (.lload 5, 2) := by decide +kernel
theorem d_D_addAnswers_60 : decode b_D_addAnswers 60 = .ok (.lor, 1) := by decide +kernel
theorem d_D_addAnswers_61 : decode b_D_addAnswers 61 = .ok (.putfield 15, 3) := by decide +kernel
theorem d_D_addAnswers_64 : decode b_D_addAnswers 64 = .ok (.iinc 4 (1), 3) := by decide +kernel
theorem d_D_addAnswers_67 : decode b_D_addAnswers 67 = .ok (.goto (-51), 3) := by decide +kernel
theorem d_D_addAnswers_70 : decode b_D_addAnswers 70 = .ok (.return_, 1) := by decide +kernel
theorem d_D_reduce_0 : decode b_D_reduce 0 = .ok (.aload_n 0, 1) := by decide +kernel
theorem d_D_reduce_1 : decode b_D_reduce 1 = .ok (.getfield 9, 3) := by decide +kernel
theorem d_D_reduce_4 : decode b_D_reduce 4 = .ok (.arraylength, 1) := by decide +kernel
theorem d_D_reduce_5 : decode b_D_reduce 5 = .ok (.iconst (1), 1) := by decide +kernel
theorem d_D_reduce_6 : decode b_D_reduce 6 = .ok (.isub, 1) := by decide +kernel
theorem d_D_reduce_7 : decode b_D_reduce 7 = .ok (.istore_n 2, 1) := by decide +kernel
theorem d_D_reduce_8 : decode b_D_reduce 8 = .ok (.iload_n 2, 1) := by decide +kernel
theorem d_D_reduce_9 : decode b_D_reduce 9 = .ok (.aload_n 1, 1) := by decide +kernel
theorem d_D_reduce_10 : decode b_D_reduce 10 = .ok (.getfield 40, 3) := by decide +kernel
theorem d_D_reduce_13 : decode b_D_reduce 13 = .ok (.if_icmp .lt (37), 3) := by decide +kernel
theorem d_D_reduce_16 : decode b_D_reduce 16 = .ok (.aload_n 0, 1) := by decide +kernel
theorem d_D_reduce_17 : decode b_D_reduce 17 = .ok (.getfield 9, 3) := by decide +kernel
theorem d_D_reduce_20 : decode b_D_reduce 20 = .ok (.iload_n 2, 1) := by decide +kernel
theorem d_D_reduce_21 : decode b_D_reduce 21 = .ok (.laload, 1) := by decide +kernel
theorem d_D_reduce_22 : decode b_D_reduce 22 = .ok (.lstore_n 3, 1) := by decide +kernel
theorem d_D_reduce_23 : decode b_D_reduce 23 = .ok (.lload_n 3, 1) := by decide +kernel
theorem d_D_reduce_24 : decode b_D_reduce 24 = .ok (.lconst 0, 1) := by decide +kernel
theorem d_D_reduce_25 : decode b_D_reduce 25 = .ok (.lcmp, 1) := by decide +kernel
theorem d_D_reduce_26 : decode b_D_reduce 26 = .ok (.ifCond .eq (18), 3) := by decide +kernel
theorem d_D_reduce_29 : decode b_D_reduce 29 = .ok (.aload_n 0, 1) := by decide +kernel
theorem d_D_reduce_30 : decode b_D_reduce 30 = .ok (.lload_n 3, 1) := by decide +kernel
theorem d_D_reduce_31 : decode b_D_reduce 31 = .ok (.aload_n 1, 1) := by decide +kernel
theorem d_D_reduce_32 : decode b_D_reduce 32 = .ok (.getfield 45, 3) := by decide +kernel
theorem d_D_reduce_35 : decode b_D_reduce 35 = .ok (.iload_n 2, 1) := by decide +kernel
theorem d_D_reduce_36 : decode b_D_reduce 36 = .ok (.aload_n 1, 1) := by decide +kernel
theorem d_D_reduce_37 : decode b_D_reduce 37 = .ok (.getfield 40, 3) := by decide +kernel
theorem d_D_reduce_40 : decode b_D_reduce 40 = .ok (.isub, 1) := by decide +kernel
theorem d_D_reduce_41 : decode b_D_reduce 41 = .ok (.invokevirtual 48, 3) := by decide +kernel
theorem d_D_reduce_44 : decode b_D_reduce 44 = .ok (.iinc 2 (-1), 3) := by decide +kernel
theorem d_D_reduce_47 : decode b_D_reduce 47 = .ok (.goto (-39), 3) := by decide +kernel
theorem d_D_reduce_50 : decode b_D_reduce 50 = .ok (.return_, 1) := by decide +kernel
theorem d_D_subtract_0 : decode b_D_subtract 0 = .ok (.iconst (0), 1) := by decide +kernel
theorem d_D_subtract_1 : decode b_D_subtract 1 = .ok (.istore 6, 2) := by decide +kernel
theorem d_D_subtract_3 : decode b_D_subtract 3 = .ok (.iload 6, 2) := by decide +kernel
theorem d_D_subtract_5 : decode b_D_subtract 5 = .ok (.iload 5, 2) := by decide +kernel
theorem d_D_subtract_7 : decode b_D_subtract 7 = .ok (.iadd, 1) := by decide +kernel
theorem d_D_subtract_8 : decode b_D_subtract 8 = .ok (.aload_n 0, 1) := by decide +kernel
theorem d_D_subtract_9 : decode b_D_subtract 9 = .ok (.getfield 9, 3) := by decide +kernel
theorem d_D_subtract_12 : decode b_D_subtract 12 = .ok (.arraylength, 1) := by decide +kernel
theorem d_D_subtract_13 : decode b_D_subtract 13 = .ok (.if_icmp .ge (34), 3) := by decide +kernel
theorem d_D_subtract_16 : decode b_D_subtract 16 = .ok (.lload_n 3, 1) := by decide +kernel
end
section
theorem d_D_subtract_17 : decode b_D_subtract 17 = .ok (.iload 6, 2) := by decide +kernel
theorem d_D_subtract_19 : decode b_D_subtract 19 = .ok (.lushr, 1) := by decide +kernel
theorem d_D_subtract_20 : decode b_D_subtract 20 = .ok (.lconst 1, 1) := by decide +kernel
theorem d_D_subtract_21 : decode b_D_subtract 21 = .ok (.land, 1) := by decide +kernel
theorem d_D_subtract_22 : decode b_D_subtract 22 = .ok (.lconst 1, 1) := by decide +kernel
theorem d_D_subtract_23 : decode b_D_subtract 23 = .ok (.lcmp, 1) := by decide +kernel
theorem d_D_subtract_24 : decode b_D_subtract 24 = .ok (.ifCond .ne (17), 3) := by decide +kernel
theorem d_D_subtract_27 : decode b_D_subtract 27 = .ok (.aload_n 0, 1) := by decide +kernel
theorem d_D_subtract_28 : decode b_D_subtract 28 = .ok (.getfield 9, 3) := by decide +kernel
theorem d_D_subtract_31 : decode b_D_subtract 31 = .ok (.iload 6, 2) := by decide +kernel
theorem d_D_subtract_33 : decode b_D_subtract 33 = .ok (.iload 5, 2) := by decide +kernel
theorem d_D_subtract_35 : decode b_D_subtract 35 = .ok (.iadd, 1) := by decide +kernel
theorem d_D_subtract_36 : decode b_D_subtract 36 = .ok (.dup2, 1) := by decide +kernel
theorem d_D_subtract_37 : decode b_D_subtract 37 = .ok (.laload, 1) := by decide +kernel
theorem d_D_subtract_38 : decode b_D_subtract 38 = .ok (.lload_n 1, 1) := by decide +kernel
theorem d_D_subtract_39 : decode b_D_subtract 39 = .ok (.lxor, 1) := by decide +kernel
theorem d_D_subtract_40 : decode b_D_subtract 40 = .ok (.lastore, 1) := by decide +kernel
theorem d_D_subtract_41 : decode b_D_subtract 41 = .ok (.iinc 6 (1), 3) := by decide +kernel
theorem d_D_subtract_44 : decode b_D_subtract 44 = .ok (.goto (-41), 3) := by decide +kernel
theorem d_D_subtract_47 : decode b_D_subtract 47 = .ok (.return_, 1) := by decide +kernel
theorem d_D_found_0 : decode b_D_found 0 = .ok (.lconst 0, 1) := by decide +kernel
theorem d_D_found_1 : decode b_D_found 1 = .ok (.lstore_n 1, 1) := by decide +kernel
theorem d_D_found_2 : decode b_D_found 2 = .ok (.iconst (0), 1) := by decide +kernel
theorem d_D_found_3 : decode b_D_found 3 = .ok (.istore_n 3, 1) := by decide +kernel
theorem d_D_found_4 : decode b_D_found 4 = .ok (.iload_n 3, 1) := by decide +kernel
theorem d_D_found_5 : decode b_D_found 5 = .ok (.aload_n 0, 1) := by decide +kernel
theorem d_D_found_6 : decode b_D_found 6 = .ok (.getfield 9, 3) := by decide +kernel
theorem d_D_found_9 : decode b_D_found 9 = .ok (.arraylength, 1) := by decide +kernel
theorem d_D_found_10 : decode b_D_found 10 = .ok (.if_icmp .ge (18), 3) := by decide +kernel
theorem d_D_found_13 : decode b_D_found 13 = .ok (.lload_n 1, 1) := by decide +kernel
theorem d_D_found_14 : decode b_D_found 14 = .ok (.aload_n 0, 1) := by decide +kernel
theorem d_D_found_15 : decode b_D_found 15 = .ok (.getfield 9, 3) := by decide +kernel
theorem d_D_found_18 : decode b_D_found 18 = .ok (.iload_n 3, 1) := by decide +kernel
theorem d_D_found_19 : decode b_D_found 19 = .ok (.laload, 1) := by decide +kernel
theorem d_D_found_20 : decode b_D_found 20 = .ok (.lor, 1) := by decide +kernel
theorem d_D_found_21 : decode b_D_found 21 = .ok (.lstore_n 1, 1) := by decide +kernel
theorem d_D_found_22 : decode b_D_found 22 = .ok (.iinc 3 (1), 3) := by decide +kernel
theorem d_D_found_25 : decode b_D_found 25 = .ok (.goto (-21), 3) := by decide +kernel
theorem d_D_found_28 : decode b_D_found 28 = .ok (.lload_n 1, 1) := by decide +kernel
theorem d_D_found_29 : decode b_D_found 29 = .ok (.lreturn, 1) := by decide +kernel
theorem d_M_init_0 : decode b_M_init 0 = .ok (.aload_n 0, 1) := by decide +kernel
theorem d_M_init_1 : decode b_M_init 1 = .ok (.invokespecial 3, 3) := by decide +kernel
theorem d_M_init_4 : decode b_M_init 4 = .ok (.aload_n 0, 1) := by decide +kernel
theorem d_M_init_5 : decode b_M_init 5 = .ok (.ldc2_w 9, 3) := by decide +kernel
theorem d_M_init_8 : decode b_M_init 8 = .ok (.putfield 11, 3) := by decide +kernel
theorem d_M_init_11 : decode b_M_init 11 = .ok (.aload_n 0, 1) := by decide +kernel
theorem d_M_init_12 : decode b_M_init 12 = .ok (.iconst (1), 1) := by decide +kernel
theorem d_M_init_13 : decode b_M_init 13 = .ok (.putfield 17, 3) := by decide +kernel
theorem d_M_init_16 : decode b_M_init 16 = .ok (.aload_n 0, 1) := by decide +kernel
theorem d_M_init_17 : decode b_M_init 17 = .ok (.lconst 1, 1) := by decide +kernel
theorem d_M_init_18 : decode b_M_init 18 = .ok (.putfield 21, 3) := by decide +kernel
theorem d_M_init_21 : decode b_M_init 21 = .ok (.return_, 1) := by decide +kernel
theorem d_M_become_0 : decode b_M_become 0 = .ok (.aload_n 0, 1) := by decide +kernel
theorem d_M_become_1 : decode b_M_become 1 = .ok (.lload_n 1, 1) := by decide +kernel
theorem d_M_become_2 : decode b_M_become 2 = .ok (.putfield 11, 3) := by decide +kernel
theorem d_M_become_5 : decode b_M_become 5 = .ok (.aload_n 0, 1) := by decide +kernel
theorem d_M_become_6 : decode b_M_become 6 = .ok (.lload_n 1, 1) := by decide +kernel
theorem d_M_become_7 : decode b_M_become 7 = .ok (.invokestatic 24, 3) := by decide +kernel
theorem d_M_become_10 : decode b_M_become 10 = .ok (.putfield 17, 3) := by decide +kernel
theorem d_M_become_13 : decode b_M_become 13 = .ok (.aload_n 0, 1) := by decide +kernel
theorem d_M_become_14 : decode b_M_become 14 = .ok (.aload_n 0, 1) := by decide +kernel
theorem d_M_become_15 : decode b_M_become 15 = .ok (.ldc2_w 28, 3) := by decide +kernel
theorem d_M_become_18 : decode b_M_become 18 = .ok (.invokevirtual 30, 3) := by decide +kernel
theorem d_M_become_21 : decode b_M_become 21 = .ok (.putfield 21, 3) := by decide +kernel
theorem d_M_become_24 : decode b_M_become 24 = .ok (.return_, 1) := by decide +kernel
theorem d_M_hasResidue_0 : decode b_M_hasResidue 0 = .ok (.lload_n 1, 1) := by decide +kernel
theorem d_M_hasResidue_1 : decode b_M_hasResidue 1 = .ok (.aload_n 0, 1) := by decide +kernel
theorem d_M_hasResidue_2 : decode b_M_hasResidue 2 = .ok (.getfield 17, 3) := by decide +kernel
theorem d_M_hasResidue_5 : decode b_M_hasResidue 5 = .ok (.lushr, 1) := by decide +kernel
theorem d_M_hasResidue_6 : decode b_M_hasResidue 6 = .ok (.lconst 0, 1) := by decide +kernel
theorem d_M_hasResidue_7 : decode b_M_hasResidue 7 = .ok (.lcmp, 1) := by decide +kernel
theorem d_M_hasResidue_8 : decode b_M_hasResidue 8 = .ok (.ifCond .ne (7), 3) := by decide +kernel
theorem d_M_hasResidue_11 : decode b_M_hasResidue 11 = .ok (.iconst (1), 1) := by decide +kernel
theorem d_M_hasResidue_12 : decode b_M_hasResidue 12 = .ok (.goto (4), 3) := by decide +kernel
theorem d_M_hasResidue_15 : decode b_M_hasResidue 15 = .ok (.iconst (0), 1) := by decide +kernel
theorem d_M_hasResidue_16 : decode b_M_hasResidue 16 = .ok (.ireturn, 1) := by decide +kernel
theorem d_M_reduced_0 : decode b_M_reduced 0 = .ok (.lload_n 1, 1) := by decide +kernel
theorem d_M_reduced_1 : decode b_M_reduced 1 = .ok (.aload_n 0, 1) := by decide +kernel
theorem d_M_reduced_2 : decode b_M_reduced 2 = .ok (.getfield 11, 3) := by decide +kernel
theorem d_M_reduced_5 : decode b_M_reduced 5 = .ok (.invokestatic 34, 3) := by decide +kernel
theorem d_M_reduced_8 : decode b_M_reduced 8 = .ok (.lreturn, 1) := by decide +kernel
theorem d_M_stepped_0 : decode b_M_stepped 0 = .ok (.lload_n 1, 1) := by decide +kernel
theorem d_M_stepped_1 : decode b_M_stepped 1 = .ok (.iconst (1), 1) := by decide +kernel
theorem d_M_stepped_2 : decode b_M_stepped 2 = .ok (.lshl, 1) := by decide +kernel
theorem d_M_stepped_3 : decode b_M_stepped 3 = .ok (.lstore_n 3, 1) := by decide +kernel
theorem d_M_stepped_4 : decode b_M_stepped 4 = .ok (.lload_n 3, 1) := by decide +kernel
theorem d_M_stepped_5 : decode b_M_stepped 5 = .ok (.aload_n 0, 1) := by decide +kernel
theorem d_M_stepped_6 : decode b_M_stepped 6 = .ok (.getfield 17, 3) := by decide +kernel
theorem d_M_stepped_9 : decode b_M_stepped 9 = .ok (.lushr, 1) := by decide +kernel
theorem d_M_stepped_10 : decode b_M_stepped 10 = .ok (.lconst 1, 1) := by decide +kernel
theorem d_M_stepped_11 : decode b_M_stepped 11 = .ok (.land, 1) := by decide +kernel
theorem d_M_stepped_12 : decode b_M_stepped 12 = .ok (.lconst 0, 1) := by decide +kernel
theorem d_M_stepped_13 : decode b_M_stepped 13 = .ok (.lcmp, 1) := by decide +kernel
theorem d_M_stepped_14 : decode b_M_stepped 14 = .ok (.ifCond .ne (7), 3) := by decide +kernel
theorem d_M_stepped_17 : decode b_M_stepped 17 = .ok (.lload_n 3, 1) := by decide +kernel
theorem d_M_stepped_18 : decode b_M_stepped 18 = .ok (.goto (9), 3) := by decide +kernel
theorem d_M_stepped_21 : decode b_M_stepped 21 = .ok (.lload_n 3, 1) := by decide +kernel
theorem d_M_stepped_22 : decode b_M_stepped 22 = .ok (.aload_n 0, 1) := by decide +kernel
theorem d_M_stepped_23 : decode b_M_stepped 23 = .ok (.getfield 11, 3) := by decide +kernel
theorem d_M_stepped_26 : decode b_M_stepped 26 = .ok (.lxor, 1) := by decide +kernel
theorem d_M_stepped_27 : decode b_M_stepped 27 = .ok (.lreturn, 1) := by decide +kernel
theorem d_M_product_0 : decode b_M_product 0 = .ok (.lconst 0, 1) := by decide +kernel
theorem d_M_product_1 : decode b_M_product 1 = .ok (.lstore 5, 2) := by decide +kernel
theorem d_M_product_3 : decode b_M_product 3 = .ok (.aload_n 0, 1) := by decide +kernel
theorem d_M_product_4 : decode b_M_product 4 = .ok (.getfield 17, 3) := by decide +kernel
theorem d_M_product_7 : decode b_M_product 7 = .ok (.iconst (1), 1) := by decide +kernel
theorem d_M_product_8 : decode b_M_product 8 = .ok (.isub, 1) := by decide +kernel
theorem d_M_product_9 : decode b_M_product 9 = .ok (.istore 7, 2) := by decide +kernel
theorem d_M_product_11 : decode b_M_product 11 = .ok (.iload 7, 2) := by decide +kernel
theorem d_M_product_13 : decode b_M_product 13 = .ok (.ifCond .lt (34), 3) := by decide +kernel
theorem d_M_product_16 : decode b_M_product 16 = .ok (.aload_n 0, 1) := by decide +kernel
theorem d_M_product_17 : decode b_M_product 17 = .ok (.lload 5, 2) := by decide +kernel
theorem d_M_product_19 : decode b_M_product 19 = .ok (.invokevirtual 38, 3) := by decide +kernel
theorem d_M_product_22 : decode b_M_product 22 = .ok (.lstore 5, 2) := by decide +kernel
theorem d_M_product_24 : decode b_M_product 24 = .ok (.lload_n 3, 1) := by decide +kernel
theorem d_M_product_25 : decode b_M_product 25 = .ok (.iload 7, 2) := by decide +kernel
theorem d_M_product_27 : decode b_M_product 27 = .ok (.lushr, 1) := by decide +kernel
theorem d_M_product_28 : decode b_M_product 28 = .ok (.lconst 1, 1) := by decide +kernel
theorem d_M_product_29 : decode b_M_product 29 = .ok (.land, 1) := by decide +kernel
theorem d_M_product_30 : decode b_M_product 30 = .ok (.lconst 1, 1) := by decide +kernel
theorem d_M_product_31 : decode b_M_product 31 = .ok (.lcmp, 1) := by decide +kernel
theorem d_M_product_32 : decode b_M_product 32 = .ok (.ifCond .ne (9), 3) := by decide +kernel
theorem d_M_product_35 : decode b_M_product 35 = .ok (.lload 5, 2) := by decide +kernel
theorem d_M_product_37 : decode b_M_product 37 = .ok (.lload_n 1, 1) := by decide +kernel
theorem d_M_product_38 : decode b_M_product 38 = .ok (.lxor, 1) := by decide +kernel
theorem d_M_product_39 : decode b_M_product 39 = .ok (.lstore 5, 2) := by decide +kernel
theorem d_M_product_41 : decode b_M_product 41 = .ok (.iinc 7 (-1), 3) := by decide +kernel
theorem d_M_product_44 : decode b_M_product 44 = .ok (.goto (-33), 3) := by decide +kernel
theorem d_M_product_47 : decode b_M_product 47 = .ok (.lload 5, 2) := by decide +kernel
theorem d_M_product_49 : decode b_M_product 49 = .ok (.lreturn, 1) := by decide +kernel
theorem d_M_raised_0 : decode b_M_raised 0 = .ok (.lconst 1, 1) := by decide +kernel
theorem d_M_raised_1 : decode b_M_raised 1 = .ok (.lstore 5, 2) := by decide +kernel
theorem d_M_raised_3 : decode b_M_raised 3 = .ok (.lload_n 1, 1) := by decide +kernel
theorem d_M_raised_4 : decode b_M_raised 4 = .ok (.lstore 7, 2) := by decide +kernel
theorem d_M_raised_6 : decode b_M_raised 6 = .ok (.iconst (0), 1) := by decide +kernel
theorem d_M_raised_7 : decode b_M_raised 7 = .ok (.istore 9, 2) := by decide +kernel
theorem d_M_raised_9 : decode b_M_raised 9 = .ok (.iload 9, 2) := by decide +kernel
theorem d_M_raised_11 : decode b_M_raised 11 = .ok (.bipush (64), 2) := by decide +kernel
theorem d_M_raised_13 : decode b_M_raised 13 = .ok (.if_icmp .ge (49), 3) := by decide +kernel
theorem d_M_raised_16 : decode b_M_raised 16 = .ok (.lload_n 3, 1) := by decide +kernel
theorem d_M_raised_17 : decode b_M_raised 17 = .ok (.iload 9, 2) := by decide +kernel
theorem d_M_raised_19 : decode b_M_raised 19 = .ok (.lushr, 1) := by decide +kernel
theorem d_M_raised_20 : decode b_M_raised 20 = .ok (.lconst 0, 1) := by decide +kernel
theorem d_M_raised_21 : decode b_M_raised 21 = .ok (.lcmp, 1) := by decide +kernel
theorem d_M_raised_22 : decode b_M_raised 22 = .ok (.ifCond .eq (40), 3) := by decide +kernel
theorem d_M_raised_25 : decode b_M_raised 25 = .ok (.lload_n 3, 1) := by decide +kernel
theorem d_M_raised_26 : decode b_M_raised 26 = .ok (.iload 9, 2) := by decide +kernel
theorem d_M_raised_28 : decode b_M_raised 28 = .ok (.lushr, 1) := by decide +kernel
theorem d_M_raised_29 : decode b_M_raised 29 = .ok (.lconst 1, 1) := by decide +kernel
theorem d_M_raised_30 : decode b_M_raised 30 = .ok (.land, 1) := by decide +kernel
theorem d_M_raised_31 : decode b_M_raised 31 = .ok (.lconst 1, 1) := by decide +kernel
theorem d_M_raised_32 : decode b_M_raised 32 = .ok (.lcmp, 1) := by decide +kernel
theorem d_M_raised_33 : decode b_M_raised 33 = .ok (.ifCond .ne (13), 3) := by decide +kernel
theorem d_M_raised_36 : decode b_M_raised 36 = .ok (.aload_n 0, 1) := by decide +kernel
theorem d_M_raised_37 : decode b_M_raised 37 = .ok (.lload 5, 2) := by decide +kernel
theorem d_M_raised_39 : decode b_M_raised 39 = .ok (.lload 7, 2) := by decide +kernel
theorem d_M_raised_41 : decode b_M_raised 41 = .ok (.invokevirtual 41, 3) := by decide +kernel
theorem d_M_raised_44 : decode b_M_raised 44 = .ok (.lstore 5, 2) := by decide +kernel
theorem d_M_raised_46 : decode b_M_raised 46 = .ok (.aload_n 0, 1) := by decide +kernel
theorem d_M_raised_47 : decode b_M_raised 47 = .ok (.lload 7, 2) := by decide +kernel
theorem d_M_raised_49 : decode b_M_raised 49 = .ok (.lload 7, 2) := by decide +kernel
theorem d_M_raised_51 : decode b_M_raised 51 = .ok (.invokevirtual 41, 3) := by decide +kernel
theorem d_M_raised_54 : decode b_M_raised 54 = .ok (.lstore 7, 2) := by decide +kernel
theorem d_M_raised_56 : decode b_M_raised 56 = .ok (.iinc 9 (1), 3) := by decide +kernel
theorem d_M_raised_59 : decode b_M_raised 59 = .ok (.goto (-50), 3) := by decide +kernel
theorem d_M_raised_62 : decode b_M_raised 62 = .ok (.lload 5, 2) := by decide +kernel
theorem d_M_raised_64 : decode b_M_raised 64 = .ok (.lreturn, 1) := by decide +kernel
theorem d_M_isIrreducible_0 : decode b_M_isIrreducible 0 = .ok (.aload_n 0, 1) := by decide +kernel
theorem d_M_isIrreducible_1 : decode b_M_isIrreducible 1 = .ok (.getfield 21, 3) := by decide +kernel
theorem d_M_isIrreducible_4 : decode b_M_isIrreducible 4 = .ok (.lstore_n 1, 1) := by decide +kernel
theorem d_M_isIrreducible_5 : decode b_M_isIrreducible 5 = .ok (.iconst (1), 1) := by decide +kernel
theorem d_M_isIrreducible_6 : decode b_M_isIrreducible 6 = .ok (.istore_n 3, 1) := by decide +kernel
theorem d_M_isIrreducible_7 : decode b_M_isIrreducible 7 = .ok (.iconst (2), 1) := by decide +kernel
theorem d_M_isIrreducible_8 : decode b_M_isIrreducible 8 = .ok (.iload_n 3, 1) := by decide +kernel
theorem d_M_isIrreducible_9 : decode b_M_isIrreducible 9 = .ok (.imul, 1) := by decide +kernel
theorem d_M_isIrreducible_10 : decode b_M_isIrreducible 10 = .ok (.aload_n 0, 1) := by decide +kernel
theorem d_M_isIrreducible_11 : decode b_M_isIrreducible 11 = .ok (.getfield 17, 3) := by decide +kernel
theorem d_M_isIrreducible_14 : decode b_M_isIrreducible 14 = .ok (.if_icmp .gt (36), 3) := by decide +kernel
theorem d_M_isIrreducible_17 : decode b_M_isIrreducible 17 = .ok (.aload_n 0, 1) := by decide +kernel
theorem d_M_isIrreducible_18 : decode b_M_isIrreducible 18 = .ok (.lload_n 1, 1) := by decide +kernel
theorem d_M_isIrreducible_19 : decode b_M_isIrreducible 19 = .ok (.lload_n 1, 1) := by decide +kernel
theorem d_M_isIrreducible_20 : decode b_M_isIrreducible 20 = .ok (.invokevirtual 41, 3) := by decide +kernel
theorem d_M_isIrreducible_23 : decode b_M_isIrreducible 23 = .ok (.lstore_n 1, 1) := by decide +kernel
theorem d_M_isIrreducible_24 : decode b_M_isIrreducible 24 = .ok (.aload_n 0, 1) := by decide +kernel
theorem d_M_isIrreducible_25 : decode b_M_isIrreducible 25 = .ok (.getfield 11, 3) := by decide +kernel
theorem d_M_isIrreducible_28 : decode b_M_isIrreducible 28 = .ok (.lload_n 1, 1) := by decide +kernel
theorem d_M_isIrreducible_29 : decode b_M_isIrreducible 29 = .ok (.aload_n 0, 1) := by decide +kernel
theorem d_M_isIrreducible_30 : decode b_M_isIrreducible 30 = .ok (.getfield 21, 3) := by decide +kernel
theorem d_M_isIrreducible_33 : decode b_M_isIrreducible 33 = .ok (.lxor, 1) := by decide +kernel
theorem d_M_isIrreducible_34 : decode b_M_isIrreducible 34 = .ok (.invokestatic 44, 3) := by decide +kernel
theorem d_M_isIrreducible_37 : decode b_M_isIrreducible 37 = .ok (.lconst 1, 1) := by decide +kernel
theorem d_M_isIrreducible_38 : decode b_M_isIrreducible 38 = .ok (.lcmp, 1) := by decide +kernel
theorem d_M_isIrreducible_39 : decode b_M_isIrreducible 39 = .ok (.ifCond .eq (5), 3) := by decide +kernel
theorem d_M_isIrreducible_42 : decode b_M_isIrreducible 42 = .ok (.iconst (0), 1) := by decide +kernel
theorem d_M_isIrreducible_43 : decode b_M_isIrreducible 43 = .ok (.ireturn, 1) := by decide +kernel
theorem d_M_isIrreducible_44 : decode b_M_isIrreducible 44 = .ok (.iinc 3 (1), 3) := by decide +kernel
theorem d_M_isIrreducible_47 : decode b_M_isIrreducible 47 = .ok (.goto (-40), 3) := by decide +kernel
theorem d_M_isIrreducible_50 : decode b_M_isIrreducible 50 = .ok (.iconst (1), 1) := by decide +kernel
theorem d_M_isIrreducible_51 : decode b_M_isIrreducible 51 = .ok (.ireturn, 1) := by decide +kernel
theorem d_M_isPrimitive_0 : decode b_M_isPrimitive 0 = .ok (.lconst 1, 1) := by decide +kernel
theorem d_M_isPrimitive_1 : decode b_M_isPrimitive 1 = .ok (.aload_n 0, 1) := by decide +kernel
theorem d_M_isPrimitive_2 : decode b_M_isPrimitive 2 = .ok (.getfield 17, 3) := by decide +kernel
theorem d_M_isPrimitive_5 : decode b_M_isPrimitive 5 = .ok (.lshl, 1) := by decide +kernel
theorem d_M_isPrimitive_6 : decode b_M_isPrimitive 6 = .ok (.lconst 1, 1) := by decide +kernel
theorem d_M_isPrimitive_7 : decode b_M_isPrimitive 7 = .ok (.lsub, 1) := by decide +kernel
theorem d_M_isPrimitive_8 : decode b_M_isPrimitive 8 = .ok (.lstore_n 1, 1) := by decide +kernel
theorem d_M_isPrimitive_9 : decode b_M_isPrimitive 9 = .ok (.aload_n 0, 1) := by decide +kernel
theorem d_M_isPrimitive_10 : decode b_M_isPrimitive 10 = .ok (.aload_n 0, 1) := by decide +kernel
theorem d_M_isPrimitive_11 : decode b_M_isPrimitive 11 = .ok (.getfield 21, 3) := by decide +kernel
theorem d_M_isPrimitive_14 : decode b_M_isPrimitive 14 = .ok (.lload_n 1, 1) := by decide +kernel
theorem d_M_isPrimitive_15 : decode b_M_isPrimitive 15 = .ok (.invokevirtual 47, 3) := by decide +kernel
theorem d_M_isPrimitive_18 : decode b_M_isPrimitive 18 = .ok (.lconst 1, 1) := by decide +kernel
theorem d_M_isPrimitive_19 : decode b_M_isPrimitive 19 = .ok (.lcmp, 1) := by decide +kernel
theorem d_M_isPrimitive_20 : decode b_M_isPrimitive 20 = .ok (.ifCond .ne (17), 3) := by decide +kernel
theorem d_M_isPrimitive_23 : decode b_M_isPrimitive 23 = .ok (.aload_n 0, 1) := by decide +kernel
theorem d_M_isPrimitive_24 : decode b_M_isPrimitive 24 = .ok (.lload_n 1, 1) := by decide +kernel
theorem d_M_isPrimitive_25 : decode b_M_isPrimitive 25 = .ok (.invokevirtual 50, 3) := by decide +kernel
theorem d_M_isPrimitive_28 : decode b_M_isPrimitive 28 = .ok (.lload_n 1, 1) := by decide +kernel
theorem d_M_isPrimitive_29 : decode b_M_isPrimitive 29 = .ok (.lcmp, 1) := by decide +kernel
theorem d_M_isPrimitive_30 : decode b_M_isPrimitive 30 = .ok (.ifCond .ne (7), 3) := by decide +kernel
theorem d_M_isPrimitive_33 : decode b_M_isPrimitive 33 = .ok (.iconst (1), 1) := by decide +kernel
theorem d_M_isPrimitive_34 : decode b_M_isPrimitive 34 = .ok (.goto (4), 3) := by decide +kernel
theorem d_M_isPrimitive_37 : decode b_M_isPrimitive 37 = .ok (.iconst (0), 1) := by decide +kernel
theorem d_M_isPrimitive_38 : decode b_M_isPrimitive 38 = .ok (.ireturn, 1) := by decide +kernel
theorem d_M_multipleOfOrder_0 : decode b_M_multipleOfOrder 0 = .ok (.ldc2_w 53, 3) := by decide +kernel
theorem d_M_multipleOfOrder_3 : decode b_M_multipleOfOrder 3 = .ok (.lstore_n 1, 1) := by decide +kernel
theorem d_M_multipleOfOrder_4 : decode b_M_multipleOfOrder 4 = .ok (.aload_n 0, 1) := by decide +kernel
theorem d_M_multipleOfOrder_5 : decode b_M_multipleOfOrder 5 = .ok (.getfield 11, 3) := by decide +kernel
theorem d_M_multipleOfOrder_8 : decode b_M_multipleOfOrder 8 = .ok (.lstore_n 3, 1) := by decide +kernel
theorem d_M_multipleOfOrder_9 : decode b_M_multipleOfOrder 9 = .ok (.aload_n 0, 1) := by decide +kernel
theorem d_M_multipleOfOrder_10 : decode b_M_multipleOfOrder 10 = .ok (.getfield 21, 3) := by decide +kernel
theorem d_M_multipleOfOrder_13 : decode b_M_multipleOfOrder 13 = .ok (.lstore 5, 2) := by decide +kernel
theorem d_M_multipleOfOrder_15 : decode b_M_multipleOfOrder 15 = .ok (.iconst (1), 1) := by decide +kernel
theorem d_M_multipleOfOrder_16 : decode b_M_multipleOfOrder 16 = .ok (.istore 7, 2) := by decide +kernel
theorem d_M_multipleOfOrder_18 : decode b_M_multipleOfOrder 18 = .ok (.iload 7, 2) := by decide +kernel
theorem d_M_multipleOfOrder_20 : decode b_M_multipleOfOrder 20 = .ok (.aload_n 0, 1) := by decide +kernel
theorem d_M_multipleOfOrder_21 : decode b_M_multipleOfOrder 21 = .ok (.getfield 17, 3) := by decide +kernel
theorem d_M_multipleOfOrder_24 : decode b_M_multipleOfOrder 24 = .ok (.if_icmp .gt (55), 3) := by decide +kernel
theorem d_M_multipleOfOrder_27 : decode b_M_multipleOfOrder 27 = .ok (.aload_n 0, 1) := by decide +kernel
theorem d_M_multipleOfOrder_28 : decode b_M_multipleOfOrder 28 = .ok (.lload 5, 2) := by decide +kernel
theorem d_M_multipleOfOrder_30 : decode b_M_multipleOfOrder 30 = .ok (.lload 5, 2) := by decide +kernel
theorem d_M_multipleOfOrder_32 : decode b_M_multipleOfOrder 32 = .ok (.invokevirtual 41, 3) := by decide +kernel
theorem d_M_multipleOfOrder_35 : decode b_M_multipleOfOrder 35 = .ok (.lstore 5, 2) := by decide +kernel
theorem d_M_multipleOfOrder_37 : decode b_M_multipleOfOrder 37 = .ok (.lload_n 3, 1) := by decide +kernel
theorem d_M_multipleOfOrder_38 : decode b_M_multipleOfOrder 38 = .ok (.lload 5, 2) := by decide +kernel
theorem d_M_multipleOfOrder_40 : decode b_M_multipleOfOrder 40 = .ok (.aload_n 0, 1) := by decide +kernel
theorem d_M_multipleOfOrder_41 : decode b_M_multipleOfOrder 41 = .ok (.getfield 21, 3) := by decide +kernel
theorem d_M_multipleOfOrder_44 : decode b_M_multipleOfOrder 44 = .ok (.lxor, 1) := by decide +kernel
theorem d_M_multipleOfOrder_45 : decode b_M_multipleOfOrder 45 = .ok (.invokestatic 44, 3) := by decide +kernel
theorem d_M_multipleOfOrder_48 : decode b_M_multipleOfOrder 48 = .ok (.lstore 8, 2) := by decide +kernel
theorem d_M_multipleOfOrder_50 : decode b_M_multipleOfOrder 50 = .ok (.lload 8, 2) := by decide +kernel
theorem d_M_multipleOfOrder_52 : decode b_M_multipleOfOrder 52 = .ok (.lconst 1, 1) := by decide +kernel
theorem d_M_multipleOfOrder_53 : decode b_M_multipleOfOrder 53 = .ok (.lcmp, 1) := by decide +kernel
theorem d_M_multipleOfOrder_54 : decode b_M_multipleOfOrder 54 = .ok (.ifCond .eq (19), 3) := by decide +kernel
theorem d_M_multipleOfOrder_57 : decode b_M_multipleOfOrder 57 = .ok (.lload_n 1, 1) := by decide +kernel
theorem d_M_multipleOfOrder_58 : decode b_M_multipleOfOrder 58 = .ok (.lconst 1, 1) := by decide +kernel
theorem d_M_multipleOfOrder_59 : decode b_M_multipleOfOrder 59 = .ok (.iload 7, 2) := by decide +kernel
theorem d_M_multipleOfOrder_61 : decode b_M_multipleOfOrder 61 = .ok (.lshl, 1) := by decide +kernel
theorem d_M_multipleOfOrder_62 : decode b_M_multipleOfOrder 62 = .ok (.lconst 1, 1) := by decide +kernel
theorem d_M_multipleOfOrder_63 : decode b_M_multipleOfOrder 63 = .ok (.lsub, 1) := by decide +kernel
theorem d_M_multipleOfOrder_64 : decode b_M_multipleOfOrder 64 = .ok (.lmul, 1) := by decide +kernel
theorem d_M_multipleOfOrder_65 : decode b_M_multipleOfOrder 65 = .ok (.lstore_n 1, 1) := by decide +kernel
theorem d_M_multipleOfOrder_66 : decode b_M_multipleOfOrder 66 = .ok (.lload_n 3, 1) := by decide +kernel
theorem d_M_multipleOfOrder_67 : decode b_M_multipleOfOrder 67 = .ok (.lload 8, 2) := by decide +kernel
theorem d_M_multipleOfOrder_69 : decode b_M_multipleOfOrder 69 = .ok (.invokestatic 55, 3) := by decide +kernel
theorem d_M_multipleOfOrder_72 : decode b_M_multipleOfOrder 72 = .ok (.lstore_n 3, 1) := by decide +kernel
theorem d_M_multipleOfOrder_73 : decode b_M_multipleOfOrder 73 = .ok (.iinc 7 (1), 3) := by decide +kernel
theorem d_M_multipleOfOrder_76 : decode b_M_multipleOfOrder 76 = .ok (.goto (-58), 3) := by decide +kernel
theorem d_M_multipleOfOrder_79 : decode b_M_multipleOfOrder 79 = .ok (.lload_n 1, 1) := by decide +kernel
theorem d_M_multipleOfOrder_80 : decode b_M_multipleOfOrder 80 = .ok (.lreturn, 1) := by decide +kernel
theorem d_M_orderWithin_0 : decode b_M_orderWithin 0 = .ok (.lload_n 1, 1) := by decide +kernel
theorem d_M_orderWithin_1 : decode b_M_orderWithin 1 = .ok (.lstore_n 3, 1) := by decide +kernel
theorem d_M_orderWithin_2 : decode b_M_orderWithin 2 = .ok (.getstatic 58, 3) := by decide +kernel
theorem d_M_orderWithin_5 : decode b_M_orderWithin 5 = .ok (.astore 5, 2) := by decide +kernel
theorem d_M_orderWithin_7 : decode b_M_orderWithin 7 = .ok (.aload 5, 2) := by decide +kernel
theorem d_M_orderWithin_9 : decode b_M_orderWithin 9 = .ok (.arraylength, 1) := by decide +kernel
theorem d_M_orderWithin_10 : decode b_M_orderWithin 10 = .ok (.istore 6, 2) := by decide +kernel
theorem d_M_orderWithin_12 : decode b_M_orderWithin 12 = .ok (.iconst (0), 1) := by decide +kernel
theorem d_M_orderWithin_13 : decode b_M_orderWithin 13 = .ok (.istore 7, 2) := by decide +kernel
theorem d_M_orderWithin_15 : decode b_M_orderWithin 15 = .ok (.iload 7, 2) := by decide +kernel
theorem d_M_orderWithin_17 : decode b_M_orderWithin 17 = .ok (.iload 6, 2) := by decide +kernel
theorem d_M_orderWithin_19 : decode b_M_orderWithin 19 = .ok (.if_icmp .ge (24), 3) := by decide +kernel
theorem d_M_orderWithin_22 : decode b_M_orderWithin 22 = .ok (.aload 5, 2) := by decide +kernel
theorem d_M_orderWithin_24 : decode b_M_orderWithin 24 = .ok (.iload 7, 2) := by decide +kernel
theorem d_M_orderWithin_26 : decode b_M_orderWithin 26 = .ok (.laload, 1) := by decide +kernel
theorem d_M_orderWithin_27 : decode b_M_orderWithin 27 = .ok (.lstore 8, 2) := by decide +kernel
theorem d_M_orderWithin_29 : decode b_M_orderWithin 29 = .ok (.aload_n 0, 1) := by decide +kernel
theorem d_M_orderWithin_30 : decode b_M_orderWithin 30 = .ok (.lload_n 3, 1) := by decide +kernel
theorem d_M_orderWithin_31 : decode b_M_orderWithin 31 = .ok (.lload 8, 2) := by decide +kernel
theorem d_M_orderWithin_33 : decode b_M_orderWithin 33 = .ok (.invokevirtual 62, 3) := by decide +kernel
theorem d_M_orderWithin_36 : decode b_M_orderWithin 36 = .ok (.lstore_n 3, 1) := by decide +kernel
theorem d_M_orderWithin_37 : decode b_M_orderWithin 37 = .ok (.iinc 7 (1), 3) := by decide +kernel
theorem d_M_orderWithin_40 : decode b_M_orderWithin 40 = .ok (.goto (-25), 3) := by decide +kernel
theorem d_M_orderWithin_43 : decode b_M_orderWithin 43 = .ok (.lload_n 3, 1) := by decide +kernel
theorem d_M_orderWithin_44 : decode b_M_orderWithin 44 = .ok (.lreturn, 1) := by decide +kernel
theorem d_M_withoutNeedless_0 : decode b_M_withoutNeedless 0 = .ok (.lload_n 1, 1) := by decide +kernel
theorem d_M_withoutNeedless_1 : decode b_M_withoutNeedless 1 = .ok (.lstore 5, 2) := by decide +kernel
theorem d_M_withoutNeedless_3 : decode b_M_withoutNeedless 3 = .ok (.iconst (0), 1) := by decide +kernel
theorem d_M_withoutNeedless_4 : decode b_M_withoutNeedless 4 = .ok (.istore 7, 2) := by decide +kernel
theorem d_M_withoutNeedless_6 : decode b_M_withoutNeedless 6 = .ok (.iload 7, 2) := by decide +kernel
theorem d_M_withoutNeedless_8 : decode b_M_withoutNeedless 8 = .ok (.bipush (64), 2) := by decide +kernel
theorem d_M_withoutNeedless_10 : decode b_M_withoutNeedless 10 = .ok (.if_icmp .ge (52), 3) := by decide +kernel
theorem d_M_withoutNeedless_13 : decode b_M_withoutNeedless 13 = .ok (.lload_n 3, 1) := by decide +kernel
theorem d_M_withoutNeedless_14 : decode b_M_withoutNeedless 14 = .ok (.lconst 1, 1) := by decide +kernel
theorem d_M_withoutNeedless_15 : decode b_M_withoutNeedless 15 = .ok (.lcmp, 1) := by decide +kernel
theorem d_M_withoutNeedless_16 : decode b_M_withoutNeedless 16 = .ok (.ifCond .le (46), 3) := by decide +kernel
theorem d_M_withoutNeedless_19 : decode b_M_withoutNeedless 19 = .ok (.lload 5, 2) := by decide +kernel
theorem d_M_withoutNeedless_21 : decode b_M_withoutNeedless 21 = .ok (.lload_n 3, 1) := by decide +kernel
theorem d_M_withoutNeedless_22 : decode b_M_withoutNeedless 22 = .ok (.lrem, 1) := by decide +kernel
theorem d_M_withoutNeedless_23 : decode b_M_withoutNeedless 23 = .ok (.lconst 0, 1) := by decide +kernel
theorem d_M_withoutNeedless_24 : decode b_M_withoutNeedless 24 = .ok (.lcmp, 1) := by decide +kernel
theorem d_M_withoutNeedless_25 : decode b_M_withoutNeedless 25 = .ok (.ifCond .ne (37), 3) := by decide +kernel
theorem d_M_withoutNeedless_28 : decode b_M_withoutNeedless 28 = .ok (.lload 5, 2) := by decide +kernel
theorem d_M_withoutNeedless_30 : decode b_M_withoutNeedless 30 = .ok (.lload_n 3, 1) := by decide +kernel
theorem d_M_withoutNeedless_31 : decode b_M_withoutNeedless 31 = .ok (.ldiv, 1) := by decide +kernel
theorem d_M_withoutNeedless_32 : decode b_M_withoutNeedless 32 = .ok (.lstore 8, 2) := by decide +kernel
theorem d_M_withoutNeedless_34 : decode b_M_withoutNeedless 34 = .ok (.aload_n 0, 1) := by decide +kernel
theorem d_M_withoutNeedless_35 : decode b_M_withoutNeedless 35 = .ok (.aload_n 0, 1) := by decide +kernel
theorem d_M_withoutNeedless_36 : decode b_M_withoutNeedless 36 = .ok (.getfield 21, 3) := by decide +kernel
theorem d_M_withoutNeedless_39 : decode b_M_withoutNeedless 39 = .ok (.lload 8, 2) := by decide +kernel
theorem d_M_withoutNeedless_41 : decode b_M_withoutNeedless 41 = .ok (.invokevirtual 47, 3) := by decide +kernel
theorem d_M_withoutNeedless_44 : decode b_M_withoutNeedless 44 = .ok (.lconst 1, 1) := by decide +kernel
theorem d_M_withoutNeedless_45 : decode b_M_withoutNeedless 45 = .ok (.lcmp, 1) := by decide +kernel
theorem d_M_withoutNeedless_46 : decode b_M_withoutNeedless 46 = .ok (.ifCond .eq (6), 3) := by decide +kernel
theorem d_M_withoutNeedless_49 : decode b_M_withoutNeedless 49 = .ok (.goto (13), 3) := by decide +kernel
theorem d_M_withoutNeedless_52 : decode b_M_withoutNeedless 52 = .ok (.lload 8, 2) := by decide +kernel
theorem d_M_withoutNeedless_54 : decode b_M_withoutNeedless 54 = .ok (.lstore 5, 2) := by decide +kernel
theorem d_M_withoutNeedless_56 : decode b_M_withoutNeedless 56 = .ok (.iinc 7 (1), 3) := by decide +kernel
theorem d_M_withoutNeedless_59 : decode b_M_withoutNeedless 59 = .ok (.goto (-53), 3) := by decide +kernel
theorem d_M_withoutNeedless_62 : decode b_M_withoutNeedless 62 = .ok (.lload 5, 2) := by decide +kernel
theorem d_M_withoutNeedless_64 : decode b_M_withoutNeedless 64 = .ok (.lreturn, 1) := by decide +kernel
theorem d_M_degreeOf_0 : decode b_M_degreeOf 0 = .ok (.bipush (63), 2) := by decide +kernel
theorem d_M_degreeOf_2 : decode b_M_degreeOf 2 = .ok (.lload_n 0, 1) := by decide +kernel
theorem d_M_degreeOf_3 : decode b_M_degreeOf 3 = .ok (.invokestatic 65, 3) := by decide +kernel
theorem d_M_degreeOf_6 : decode b_M_degreeOf 6 = .ok (.isub, 1) := by decide +kernel
theorem d_M_degreeOf_7 : decode b_M_degreeOf 7 = .ok (.ireturn, 1) := by decide +kernel
theorem d_M_remainder_0 : decode b_M_remainder 0 = .ok (.lload_n 2, 1) := by decide +kernel
theorem d_M_remainder_1 : decode b_M_remainder 1 = .ok (.invokestatic 24, 3) := by decide +kernel
theorem d_M_remainder_4 : decode b_M_remainder 4 = .ok (.istore 4, 2) := by decide +kernel
theorem d_M_remainder_6 : decode b_M_remainder 6 = .ok (.lload_n 0, 1) := by decide +kernel
theorem d_M_remainder_7 : decode b_M_remainder 7 = .ok (.lstore 5, 2) := by decide +kernel
theorem d_M_remainder_9 : decode b_M_remainder 9 = .ok (.lload_n 0, 1) := by decide +kernel
theorem d_M_remainder_10 : decode b_M_remainder 10 = .ok (.invokestatic 24, 3) := by decide +kernel
theorem d_M_remainder_13 : decode b_M_remainder 13 = .ok (.istore 7, 2) := by decide +kernel
theorem d_M_remainder_15 : decode b_M_remainder 15 = .ok (.iload 7, 2) := by decide +kernel
theorem d_M_remainder_17 : decode b_M_remainder 17 = .ok (.iload 4, 2) := by decide +kernel
theorem d_M_remainder_19 : decode b_M_remainder 19 = .ok (.if_icmp .lt (33), 3) := by decide +kernel
theorem d_M_remainder_22 : decode b_M_remainder 22 = .ok (.lload 5, 2) := by decide +kernel
theorem d_M_remainder_24 : decode b_M_remainder 24 = .ok (.iload 7, 2) := by decide +kernel
theorem d_M_remainder_26 : decode b_M_remainder 26 = .ok (.lushr, 1) := by decide +kernel
theorem d_M_remainder_27 : decode b_M_remainder 27 = .ok (.lconst 1, 1) := by decide +kernel
theorem d_M_remainder_28 : decode b_M_remainder 28 = .ok (.land, 1) := by decide +kernel
theorem d_M_remainder_29 : decode b_M_remainder 29 = .ok (.lconst 1, 1) := by decide +kernel
theorem d_M_remainder_30 : decode b_M_remainder 30 = .ok (.lcmp, 1) := by decide +kernel
theorem d_M_remainder_31 : decode b_M_remainder 31 = .ok (.ifCond .ne (15), 3) := by decide +kernel
theorem d_M_remainder_34 : decode b_M_remainder 34 = .ok (.lload 5, 2) := by decide +kernel
theorem d_M_remainder_36 : decode b_M_remainder 36 = .ok (.lload_n 2, 1) := by decide +kernel
theorem d_M_remainder_37 : decode b_M_remainder 37 = .ok (.iload 7, 2) := by decide +kernel
theorem d_M_remainder_39 : decode b_M_remainder 39 = .ok (.iload 4, 2) := by decide +kernel
theorem d_M_remainder_41 : decode b_M_remainder 41 = .ok (.isub, 1) := by decide +kernel
theorem d_M_remainder_42 : decode b_M_remainder 42 = .ok (.lshl, 1) := by decide +kernel
theorem d_M_remainder_43 : decode b_M_remainder 43 = .ok (.lxor, 1) := by decide +kernel
theorem d_M_remainder_44 : decode b_M_remainder 44 = .ok (.lstore 5, 2) := by decide +kernel
theorem d_M_remainder_46 : decode b_M_remainder 46 = .ok (.iinc 7 (-1), 3) := by decide +kernel
theorem d_M_remainder_49 : decode b_M_remainder 49 = .ok (.goto (-34), 3) := by decide +kernel
theorem d_M_remainder_52 : decode b_M_remainder 52 = .ok (.lload 5, 2) := by decide +kernel
theorem d_M_remainder_54 : decode b_M_remainder 54 = .ok (.lreturn, 1) := by decide +kernel
theorem d_M_quotient_0 : decode b_M_quotient 0 = .ok (.lload_n 2, 1) := by decide +kernel
theorem d_M_quotient_1 : decode b_M_quotient 1 = .ok (.invokestatic 24, 3) := by decide +kernel
theorem d_M_quotient_4 : decode b_M_quotient 4 = .ok (.istore 4, 2) := by decide +kernel
theorem d_M_quotient_6 : decode b_M_quotient 6 = .ok (.lload_n 0, 1) := by decide +kernel
theorem d_M_quotient_7 : decode b_M_quotient 7 = .ok (.lstore 5, 2) := by decide +kernel
theorem d_M_quotient_9 : decode b_M_quotient 9 = .ok (.lconst 0, 1) := by decide +kernel
theorem d_M_quotient_10 : decode b_M_quotient 10 = .ok (.lstore 7, 2) := by decide +kernel
theorem d_M_quotient_12 : decode b_M_quotient 12 = .ok (.lload_n 0, 1) := by decide +kernel
theorem d_M_quotient_13 : decode b_M_quotient 13 = .ok (.invokestatic 24, 3) := by decide +kernel
theorem d_M_quotient_16 : decode b_M_quotient 16 = .ok (.istore 9, 2) := by decide +kernel
theorem d_M_quotient_18 : decode b_M_quotient 18 = .ok (.iload 9, 2) := by decide +kernel
theorem d_M_quotient_20 : decode b_M_quotient 20 = .ok (.iload 4, 2) := by decide +kernel
theorem d_M_quotient_22 : decode b_M_quotient 22 = .ok (.if_icmp .lt (45), 3) := by decide +kernel
theorem d_M_quotient_25 : decode b_M_quotient 25 = .ok (.lload 5, 2) := by decide +kernel
theorem d_M_quotient_27 : decode b_M_quotient 27 = .ok (.iload 9, 2) := by decide +kernel
theorem d_M_quotient_29 : decode b_M_quotient 29 = .ok (.lushr, 1) := by decide +kernel
theorem d_M_quotient_30 : decode b_M_quotient 30 = .ok (.lconst 1, 1) := by decide +kernel
theorem d_M_quotient_31 : decode b_M_quotient 31 = .ok (.land, 1) := by decide +kernel
theorem d_M_quotient_32 : decode b_M_quotient 32 = .ok (.lconst 1, 1) := by decide +kernel
theorem d_M_quotient_33 : decode b_M_quotient 33 = .ok (.lcmp, 1) := by decide +kernel
theorem d_M_quotient_34 : decode b_M_quotient 34 = .ok (.ifCond .ne (27), 3) := by decide +kernel
theorem d_M_quotient_37 : decode b_M_quotient 37 = .ok (.lload 5, 2) := by decide +kernel
theorem d_M_quotient_39 : decode b_M_quotient 39 = .ok (.lload_n 2, 1) := by decide +kernel
theorem d_M_quotient_40 : decode b_M_quotient 40 = .ok (.iload 9, 2) := by decide +kernel
theorem d_M_quotient_42 : decode b_M_quotient 42 = .ok (.iload 4, 2) := by decide +kernel
theorem d_M_quotient_44 : decode b_M_quotient 44 = .ok (.isub, 1) := by decide +kernel
theorem d_M_quotient_45 : decode b_M_quotient 45 = .ok (.lshl, 1) := by decide +kernel
theorem d_M_quotient_46 : decode b_M_quotient 46 = .ok (.lxor, 1) := by decide +kernel
theorem d_M_quotient_47 : decode b_M_quotient 47 = .ok (.lstore 5, 2) := by decide +kernel
theorem d_M_quotient_49 : decode b_M_quotient 49 = .ok (.lload 7, 2) := by decide +kernel
theorem d_M_quotient_51 : decode b_M_quotient 51 = .ok (.lconst 1, 1) := by decide +kernel
theorem d_M_quotient_52 : decode b_M_quotient 52 = .ok (.iload 9, 2) := by decide +kernel
theorem d_M_quotient_54 : decode b_M_quotient 54 = .ok (.iload 4, 2) := by decide +kernel
theorem d_M_quotient_56 : decode b_M_quotient 56 = .ok (.isub, 1) := by decide +kernel
theorem d_M_quotient_57 : decode b_M_quotient 57 = .ok (.lshl, 1) := by decide +kernel
theorem d_M_quotient_58 : decode b_M_quotient 58 = .ok (.lor, 1) := by decide +kernel
theorem d_M_quotient_59 : decode b_M_quotient 59 = .ok (.lstore 7, 2) := by decide +kernel
theorem d_M_quotient_61 : decode b_M_quotient 61 = .ok (.iinc 9 (-1), 3) := by decide +kernel
theorem d_M_quotient_64 : decode b_M_quotient 64 = .ok (.goto (-46), 3) := by decide +kernel
theorem d_M_quotient_67 : decode b_M_quotient 67 = .ok (.lload 7, 2) := by decide +kernel
theorem d_M_quotient_69 : decode b_M_quotient 69 = .ok (.lreturn, 1) := by decide +kernel
theorem d_M_commonDivisor_0 : decode b_M_commonDivisor 0 = .ok (.lload_n 0, 1) := by decide +kernel
theorem d_M_commonDivisor_1 : decode b_M_commonDivisor 1 = .ok (.lstore 4, 2) := by decide +kernel
theorem d_M_commonDivisor_3 : decode b_M_commonDivisor 3 = .ok (.lload_n 2, 1) := by decide +kernel
theorem d_M_commonDivisor_4 : decode b_M_commonDivisor 4 = .ok (.lstore 6, 2) := by decide +kernel
theorem d_M_commonDivisor_6 : decode b_M_commonDivisor 6 = .ok (.iconst (0), 1) := by decide +kernel
theorem d_M_commonDivisor_7 : decode b_M_commonDivisor 7 = .ok (.istore 8, 2) := by decide +kernel
theorem d_M_commonDivisor_9 : decode b_M_commonDivisor 9 = .ok (.iload 8, 2) := by decide +kernel
theorem d_M_commonDivisor_11 : decode b_M_commonDivisor 11 = .ok (.bipush (64), 2) := by decide +kernel
theorem d_M_commonDivisor_13 : decode b_M_commonDivisor 13 = .ok (.if_icmp .gt (33), 3) := by decide +kernel
theorem d_M_commonDivisor_16 : decode b_M_commonDivisor 16 = .ok (.lload 6, 2) := by decide +kernel
theorem d_M_commonDivisor_18 : decode b_M_commonDivisor 18 = .ok (.lconst 0, 1) := by decide +kernel
theorem d_M_commonDivisor_19 : decode b_M_commonDivisor 19 = .ok (.lcmp, 1) := by decide +kernel
theorem d_M_commonDivisor_20 : decode b_M_commonDivisor 20 = .ok (.ifCond .eq (26), 3) := by decide +kernel
theorem d_M_commonDivisor_23 : decode b_M_commonDivisor 23 = .ok (.lload 4, 2) := by decide +kernel
theorem d_M_commonDivisor_25 : decode b_M_commonDivisor 25 = .ok (.lload 6, 2) := by decide +kernel
theorem d_M_commonDivisor_27 : decode b_M_commonDivisor 27 = .ok (.invokestatic 34, 3) := by decide +kernel
theorem d_M_commonDivisor_30 : decode b_M_commonDivisor 30 = .ok (.lstore 9, 2) := by decide +kernel
theorem d_M_commonDivisor_32 : decode b_M_commonDivisor 32 = .ok (.lload 6, 2) := by decide +kernel
theorem d_M_commonDivisor_34 : decode b_M_commonDivisor 34 = .ok (.lstore 4, 2) := by decide +kernel
theorem d_M_commonDivisor_36 : decode b_M_commonDivisor 36 = .ok (.lload 9, 2) := by decide +kernel
theorem d_M_commonDivisor_38 : decode b_M_commonDivisor 38 = .ok (.lstore 6, 2) := by decide +kernel
theorem d_M_commonDivisor_40 : decode b_M_commonDivisor 40 = .ok (.iinc 8 (1), 3) := by decide +kernel
theorem d_M_commonDivisor_43 : decode b_M_commonDivisor 43 = .ok (.goto (-34), 3) := by decide +kernel
theorem d_M_commonDivisor_46 : decode b_M_commonDivisor 46 = .ok (.lload 4, 2) := by decide +kernel
theorem d_M_commonDivisor_48 : decode b_M_commonDivisor 48 = .ok (.lreturn, 1) := by decide +kernel
theorem d_M_without_0 : decode b_M_without 0 = .ok (.lload_n 0, 1) := by decide +kernel
theorem d_M_without_1 : decode b_M_without 1 = .ok (.lstore 4, 2) := by decide +kernel
theorem d_M_without_3 : decode b_M_without 3 = .ok (.lload 4, 2) := by decide +kernel
theorem d_M_without_5 : decode b_M_without 5 = .ok (.lload_n 2, 1) := by decide +kernel
theorem d_M_without_6 : decode b_M_without 6 = .ok (.invokestatic 44, 3) := by decide +kernel
theorem d_M_without_9 : decode b_M_without 9 = .ok (.lstore 6, 2) := by decide +kernel
theorem d_M_without_11 : decode b_M_without 11 = .ok (.iconst (0), 1) := by decide +kernel
theorem d_M_without_12 : decode b_M_without 12 = .ok (.istore 8, 2) := by decide +kernel
theorem d_M_without_14 : decode b_M_without 14 = .ok (.iload 8, 2) := by decide +kernel
theorem d_M_without_16 : decode b_M_without 16 = .ok (.bipush (64), 2) := by decide +kernel
theorem d_M_without_18 : decode b_M_without 18 = .ok (.if_icmp .ge (34), 3) := by decide +kernel
theorem d_M_without_21 : decode b_M_without 21 = .ok (.lload 6, 2) := by decide +kernel
theorem d_M_without_23 : decode b_M_without 23 = .ok (.lconst 1, 1) := by decide +kernel
theorem d_M_without_24 : decode b_M_without 24 = .ok (.lcmp, 1) := by decide +kernel
theorem d_M_without_25 : decode b_M_without 25 = .ok (.ifCond .eq (27), 3) := by decide +kernel
theorem d_M_without_28 : decode b_M_without 28 = .ok (.lload 4, 2) := by decide +kernel
theorem d_M_without_30 : decode b_M_without 30 = .ok (.lload 6, 2) := by decide +kernel
theorem d_M_without_32 : decode b_M_without 32 = .ok (.invokestatic 70, 3) := by decide +kernel
theorem d_M_without_35 : decode b_M_without 35 = .ok (.lstore 4, 2) := by decide +kernel
theorem d_M_without_37 : decode b_M_without 37 = .ok (.lload 4, 2) := by decide +kernel
theorem d_M_without_39 : decode b_M_without 39 = .ok (.lload 6, 2) := by decide +kernel
theorem d_M_without_41 : decode b_M_without 41 = .ok (.invokestatic 44, 3) := by decide +kernel
theorem d_M_without_44 : decode b_M_without 44 = .ok (.lstore 6, 2) := by decide +kernel
theorem d_M_without_46 : decode b_M_without 46 = .ok (.iinc 8 (1), 3) := by decide +kernel
theorem d_M_without_49 : decode b_M_without 49 = .ok (.goto (-35), 3) := by decide +kernel
theorem d_M_without_52 : decode b_M_without 52 = .ok (.lload 4, 2) := by decide +kernel
theorem d_M_without_54 : decode b_M_without 54 = .ok (.lreturn, 1) := by decide +kernel
theorem d_L_polynomial_0 : decode b_L_polynomial 0 = .ok (.aload_n 3, 1) := by decide +kernel
theorem d_L_polynomial_1 : decode b_L_polynomial 1 = .ok (.iconst (0), 1) := by decide +kernel
theorem d_L_polynomial_2 : decode b_L_polynomial 2 = .ok (.aload_n 0, 1) := by decide +kernel
theorem d_L_polynomial_3 : decode b_L_polynomial 3 = .ok (.lload_n 1, 1) := by decide +kernel
theorem d_L_polynomial_4 : decode b_L_polynomial 4 = .ok (.invokevirtual 7, 3) := by decide +kernel
theorem d_L_polynomial_7 : decode b_L_polynomial 7 = .ok (.i2l, 1) := by decide +kernel
theorem d_L_polynomial_8 : decode b_L_polynomial 8 = .ok (.lastore, 1) := by decide +kernel
theorem d_L_polynomial_9 : decode b_L_polynomial 9 = .ok (.goto (7), 3) := by decide +kernel
theorem d_L_polynomial_12 : decode b_L_polynomial 12 = .ok (.astore 4, 2) := by decide +kernel
theorem d_L_polynomial_14 : decode b_L_polynomial 14 = .ok (.iconst (1), 1) := by decide +kernel
theorem d_L_polynomial_15 : decode b_L_polynomial 15 = .ok (.ireturn, 1) := by decide +kernel
theorem d_L_polynomial_16 : decode b_L_polynomial 16 = .ok (.iconst (0), 1) := by decide +kernel
theorem d_L_polynomial_17 : decode b_L_polynomial 17 = .ok (.ireturn, 1) := by decide +kernel
theorem d_L_times_0 : decode b_L_times 0 = .ok (.aload 5, 2) := by decide +kernel
theorem d_L_times_2 : decode b_L_times 2 = .ok (.iconst (0), 1) := by decide +kernel
theorem d_L_times_3 : decode b_L_times 3 = .ok (.aload_n 0, 1) := by decide +kernel
theorem d_L_times_4 : decode b_L_times 4 = .ok (.lload_n 1, 1) := by decide +kernel
theorem d_L_times_5 : decode b_L_times 5 = .ok (.lload_n 3, 1) := by decide +kernel
theorem d_L_times_6 : decode b_L_times 6 = .ok (.invokevirtual 15, 3) := by decide +kernel
theorem d_L_times_9 : decode b_L_times 9 = .ok (.lastore, 1) := by decide +kernel
theorem d_L_times_10 : decode b_L_times 10 = .ok (.goto (7), 3) := by decide +kernel
theorem d_L_times_13 : decode b_L_times 13 = .ok (.astore 6, 2) := by decide +kernel
theorem d_L_times_15 : decode b_L_times 15 = .ok (.iconst (1), 1) := by decide +kernel
theorem d_L_times_16 : decode b_L_times 16 = .ok (.ireturn, 1) := by decide +kernel
theorem d_L_times_17 : decode b_L_times 17 = .ok (.iconst (0), 1) := by decide +kernel
theorem d_L_times_18 : decode b_L_times 18 = .ok (.ireturn, 1) := by decide +kernel
theorem d_L_power_0 : decode b_L_power 0 = .ok (.aload 5, 2) := by decide +kernel
theorem d_L_power_2 : decode b_L_power 2 = .ok (.iconst (0), 1) := by decide +kernel
theorem d_L_power_3 : decode b_L_power 3 = .ok (.aload_n 0, 1) := by decide +kernel
theorem d_L_power_4 : decode b_L_power 4 = .ok (.lload_n 1, 1) := by decide +kernel
theorem d_L_power_5 : decode b_L_power 5 = .ok (.lload_n 3, 1) := by decide +kernel
theorem d_L_power_6 : decode b_L_power 6 = .ok (.invokevirtual 19, 3) := by decide +kernel
theorem d_L_power_9 : decode b_L_power 9 = .ok (.lastore, 1) := by decide +kernel
theorem d_L_power_10 : decode b_L_power 10 = .ok (.goto (7), 3) := by decide +kernel
theorem d_L_power_13 : decode b_L_power 13 = .ok (.astore 6, 2) := by decide +kernel
theorem d_L_power_15 : decode b_L_power 15 = .ok (.iconst (1), 1) := by decide +kernel
theorem d_L_power_16 : decode b_L_power 16 = .ok (.ireturn, 1) := by decide +kernel
theorem d_L_power_17 : decode b_L_power 17 = .ok (.iconst (0), 1) := by decide +kernel
theorem d_L_power_18 : decode b_L_power 18 = .ok (.ireturn, 1) := by decide +kernel
theorem d_L_load_0 : decode b_L_load 0 = .ok (.aload_n 3, 1) := by decide +kernel
theorem d_L_load_1 : decode b_L_load 1 = .ok (.iconst (0), 1) := by decide +kernel
theorem d_L_load_2 : decode b_L_load 2 = .ok (.aload_n 0, 1) := by decide +kernel
theorem d_L_load_3 : decode b_L_load 3 = .ok (.lload_n 1, 1) := by decide +kernel
theorem d_L_load_4 : decode b_L_load 4 = .ok (.invokevirtual 22, 3) := by decide +kernel
theorem d_L_load_7 : decode b_L_load 7 = .ok (.lastore, 1) := by decide +kernel
theorem d_L_load_8 : decode b_L_load 8 = .ok (.goto (7), 3) := by decide +kernel
theorem d_L_load_11 : decode b_L_load 11 = .ok (.astore 4, 2) := by decide +kernel
theorem d_L_load_13 : decode b_L_load 13 = .ok (.iconst (1), 1) := by decide +kernel
theorem d_L_load_14 : decode b_L_load 14 = .ok (.ireturn, 1) := by decide +kernel
theorem d_L_load_15 : decode b_L_load 15 = .ok (.iconst (0), 1) := by decide +kernel
theorem d_L_load_16 : decode b_L_load 16 = .ok (.ireturn, 1) := by decide +kernel
theorem d_L_steps_0 : decode b_L_steps 0 = .ok (.aload_n 3, 1) := by decide +kernel
theorem d_L_steps_1 : decode b_L_steps 1 = .ok (.iconst (0), 1) := by decide +kernel
theorem d_L_steps_2 : decode b_L_steps 2 = .ok (.aload_n 0, 1) := by decide +kernel
theorem d_L_steps_3 : decode b_L_steps 3 = .ok (.lload_n 1, 1) := by decide +kernel
theorem d_L_steps_4 : decode b_L_steps 4 = .ok (.invokevirtual 26, 3) := by decide +kernel
theorem d_L_steps_7 : decode b_L_steps 7 = .ok (.lastore, 1) := by decide +kernel
theorem d_L_steps_8 : decode b_L_steps 8 = .ok (.goto (7), 3) := by decide +kernel
theorem d_L_steps_11 : decode b_L_steps 11 = .ok (.astore 4, 2) := by decide +kernel
theorem d_L_steps_13 : decode b_L_steps 13 = .ok (.iconst (1), 1) := by decide +kernel
theorem d_L_steps_14 : decode b_L_steps 14 = .ok (.ireturn, 1) := by decide +kernel
theorem d_L_steps_15 : decode b_L_steps 15 = .ok (.iconst (0), 1) := by decide +kernel
theorem d_L_steps_16 : decode b_L_steps 16 = .ok (.ireturn, 1) := by decide +kernel
theorem d_L_channel_0 : decode b_L_channel 0 = .ok (.aload_n 3, 1) := by decide +kernel
theorem d_L_channel_1 : decode b_L_channel 1 = .ok (.iconst (0), 1) := by decide +kernel
theorem d_L_channel_2 : decode b_L_channel 2 = .ok (.aload_n 0, 1) := by decide +kernel
theorem d_L_channel_3 : decode b_L_channel 3 = .ok (.lload_n 1, 1) := by decide +kernel
theorem d_L_channel_4 : decode b_L_channel 4 = .ok (.invokevirtual 29, 3) := by decide +kernel
theorem d_L_channel_7 : decode b_L_channel 7 = .ok (.i2l, 1) := by decide +kernel
theorem d_L_channel_8 : decode b_L_channel 8 = .ok (.lastore, 1) := by decide +kernel
theorem d_L_channel_9 : decode b_L_channel 9 = .ok (.goto (11), 3) := by decide +kernel
theorem d_L_channel_12 : decode b_L_channel 12 = .ok (.astore 4, 2) := by decide +kernel
theorem d_L_channel_14 : decode b_L_channel 14 = .ok (.iconst (1), 1) := by decide +kernel
theorem d_L_channel_15 : decode b_L_channel 15 = .ok (.ireturn, 1) := by decide +kernel
theorem d_L_channel_16 : decode b_L_channel 16 = .ok (.astore 4, 2) := by decide +kernel
theorem d_L_channel_18 : decode b_L_channel 18 = .ok (.iconst (2), 1) := by decide +kernel
theorem d_L_channel_19 : decode b_L_channel 19 = .ok (.ireturn, 1) := by decide +kernel
theorem d_L_channel_20 : decode b_L_channel 20 = .ok (.iconst (0), 1) := by decide +kernel
theorem d_L_channel_21 : decode b_L_channel 21 = .ok (.ireturn, 1) := by decide +kernel
theorem d_L_gate_0 : decode b_L_gate 0 = .ok (.aload 4, 2) := by decide +kernel
theorem d_L_gate_2 : decode b_L_gate 2 = .ok (.iconst (0), 1) := by decide +kernel
theorem d_L_gate_3 : decode b_L_gate 3 = .ok (.aload_n 0, 1) := by decide +kernel
theorem d_L_gate_4 : decode b_L_gate 4 = .ok (.iload_n 1, 1) := by decide +kernel
theorem d_L_gate_5 : decode b_L_gate 5 = .ok (.iload_n 2, 1) := by decide +kernel
theorem d_L_gate_6 : decode b_L_gate 6 = .ok (.iload_n 3, 1) := by decide +kernel
theorem d_L_gate_7 : decode b_L_gate 7 = .ok (.invokevirtual 34, 3) := by decide +kernel
theorem d_L_gate_10 : decode b_L_gate 10 = .ok (.i2l, 1) := by decide +kernel
theorem d_L_gate_11 : decode b_L_gate 11 = .ok (.lastore, 1) := by decide +kernel
theorem d_L_gate_12 : decode b_L_gate 12 = .ok (.goto (15), 3) := by decide +kernel
theorem d_L_gate_15 : decode b_L_gate 15 = .ok (.astore 5, 2) := by decide +kernel
theorem d_L_gate_17 : decode b_L_gate 17 = .ok (.iconst (1), 1) := by decide +kernel
theorem d_L_gate_18 : decode b_L_gate 18 = .ok (.ireturn, 1) := by decide +kernel
theorem d_L_gate_19 : decode b_L_gate 19 = .ok (.astore 5, 2) := by decide +kernel
theorem d_L_gate_21 : decode b_L_gate 21 = .ok (.iconst (2), 1) := by decide +kernel
theorem d_L_gate_22 : decode b_L_gate 22 = .ok (.ireturn, 1) := by decide +kernel
theorem d_L_gate_23 : decode b_L_gate 23 = .ok (.astore 5, 2) := by decide +kernel
theorem d_L_gate_25 : decode b_L_gate 25 = .ok (.iconst (3), 1) := by decide +kernel
theorem d_L_gate_26 : decode b_L_gate 26 = .ok (.ireturn, 1) := by decide +kernel
theorem d_L_gate_27 : decode b_L_gate 27 = .ok (.iconst (0), 1) := by decide +kernel
theorem d_L_gate_28 : decode b_L_gate 28 = .ok (.ireturn, 1) := by decide +kernel
theorem d_L_output_0 : decode b_L_output 0 = .ok (.aload_n 2, 1) := by decide +kernel
theorem d_L_output_1 : decode b_L_output 1 = .ok (.iconst (0), 1) := by decide +kernel
theorem d_L_output_2 : decode b_L_output 2 = .ok (.aload_n 0, 1) := by decide +kernel
theorem d_L_output_3 : decode b_L_output 3 = .ok (.iload_n 1, 1) := by decide +kernel
theorem d_L_output_4 : decode b_L_output 4 = .ok (.invokevirtual 40, 3) := by decide +kernel
theorem d_L_output_7 : decode b_L_output 7 = .ok (.i2l, 1) := by decide +kernel
theorem d_L_output_8 : decode b_L_output 8 = .ok (.lastore, 1) := by decide +kernel
theorem d_L_output_9 : decode b_L_output 9 = .ok (.goto (9), 3) := by decide +kernel
theorem d_L_output_12 : decode b_L_output 12 = .ok (.astore_n 3, 1) := by decide +kernel
theorem d_L_output_13 : decode b_L_output 13 = .ok (.iconst (1), 1) := by decide +kernel
theorem d_L_output_14 : decode b_L_output 14 = .ok (.ireturn, 1) := by decide +kernel
theorem d_L_output_15 : decode b_L_output 15 = .ok (.astore_n 3, 1) := by decide +kernel
theorem d_L_output_16 : decode b_L_output 16 = .ok (.iconst (2), 1) := by decide +kernel
theorem d_L_output_17 : decode b_L_output 17 = .ok (.ireturn, 1) := by decide +kernel
theorem d_L_output_18 : decode b_L_output 18 = .ok (.iconst (0), 1) := by decide +kernel
theorem d_L_output_19 : decode b_L_output 19 = .ok (.ireturn, 1) := by decide +kernel
theorem d_L_answer_0 : decode b_L_answer 0 = .ok (.aload_n 3, 1) := by decide +kernel
theorem d_L_answer_1 : decode b_L_answer 1 = .ok (.iconst (0), 1) := by decide +kernel
theorem d_L_answer_2 : decode b_L_answer 2 = .ok (.aload_n 0, 1) := by decide +kernel
theorem d_L_answer_3 : decode b_L_answer 3 = .ok (.iload_n 1, 1) := by decide +kernel
theorem d_L_answer_4 : decode b_L_answer 4 = .ok (.iload_n 2, 1) := by decide +kernel
theorem d_L_answer_5 : decode b_L_answer 5 = .ok (.invokevirtual 44, 3) := by decide +kernel
theorem d_L_answer_8 : decode b_L_answer 8 = .ok (.i2l, 1) := by decide +kernel
theorem d_L_answer_9 : decode b_L_answer 9 = .ok (.lastore, 1) := by decide +kernel
theorem d_L_answer_10 : decode b_L_answer 10 = .ok (.goto (7), 3) := by decide +kernel
theorem d_L_answer_13 : decode b_L_answer 13 = .ok (.astore 4, 2) := by decide +kernel
theorem d_L_answer_15 : decode b_L_answer 15 = .ok (.iconst (1), 1) := by decide +kernel
theorem d_L_answer_16 : decode b_L_answer 16 = .ok (.ireturn, 1) := by decide +kernel
theorem d_L_answer_17 : decode b_L_answer 17 = .ok (.iconst (0), 1) := by decide +kernel
theorem d_L_answer_18 : decode b_L_answer 18 = .ok (.ireturn, 1) := by decide +kernel
theorem d_L_session_0 : decode b_L_session 0 = .ok (.aload_n 3, 1) := by decide +kernel
theorem d_L_session_1 : decode b_L_session 1 = .ok (.iconst (0), 1) := by decide +kernel
theorem d_L_session_2 : decode b_L_session 2 = .ok (.aload_n 0, 1) := by decide +kernel
theorem d_L_session_3 : decode b_L_session 3 = .ok (.iload_n 1, 1) := by decide +kernel
theorem d_L_session_4 : decode b_L_session 4 = .ok (.iload_n 2, 1) := by decide +kernel
theorem d_L_session_5 : decode b_L_session 5 = .ok (.invokevirtual 48, 3) := by decide +kernel
theorem d_L_session_8 : decode b_L_session 8 = .ok (.lastore, 1) := by decide +kernel
theorem d_L_session_9 : decode b_L_session 9 = .ok (.goto (11), 3) := by decide +kernel
theorem d_L_session_12 : decode b_L_session 12 = .ok (.astore 4, 2) := by decide +kernel
theorem d_L_session_14 : decode b_L_session 14 = .ok (.iconst (1), 1) := by decide +kernel
theorem d_L_session_15 : decode b_L_session 15 = .ok (.ireturn, 1) := by decide +kernel
theorem d_L_session_16 : decode b_L_session 16 = .ok (.astore 4, 2) := by decide +kernel
theorem d_L_session_18 : decode b_L_session 18 = .ok (.iconst (2), 1) := by decide +kernel
theorem d_L_session_19 : decode b_L_session 19 = .ok (.ireturn, 1) := by decide +kernel
theorem d_L_session_20 : decode b_L_session 20 = .ok (.iconst (0), 1) := by decide +kernel
theorem d_L_session_21 : decode b_L_session 21 = .ok (.ireturn, 1) := by decide +kernel
theorem d_L_faults_0 : decode b_L_faults 0 = .ok (.aload_n 3, 1) := by decide +kernel
theorem d_L_faults_1 : decode b_L_faults 1 = .ok (.iconst (0), 1) := by decide +kernel
theorem d_L_faults_2 : decode b_L_faults 2 = .ok (.aload_n 0, 1) := by decide +kernel
theorem d_L_faults_3 : decode b_L_faults 3 = .ok (.iload_n 1, 1) := by decide +kernel
theorem d_L_faults_4 : decode b_L_faults 4 = .ok (.iload_n 2, 1) := by decide +kernel
theorem d_L_faults_5 : decode b_L_faults 5 = .ok (.invokevirtual 52, 3) := by decide +kernel
theorem d_L_faults_8 : decode b_L_faults 8 = .ok (.i2l, 1) := by decide +kernel
theorem d_L_faults_9 : decode b_L_faults 9 = .ok (.lastore, 1) := by decide +kernel
theorem d_L_faults_10 : decode b_L_faults 10 = .ok (.goto (11), 3) := by decide +kernel
theorem d_L_faults_13 : decode b_L_faults 13 = .ok (.astore 4, 2) := by decide +kernel
theorem d_L_faults_15 : decode b_L_faults 15 = .ok (.iconst (1), 1) := by decide +kernel
theorem d_L_faults_16 : decode b_L_faults 16 = .ok (.ireturn, 1) := by decide +kernel
theorem d_L_faults_17 : decode b_L_faults 17 = .ok (.astore 4, 2) := by decide +kernel
theorem d_L_faults_19 : decode b_L_faults 19 = .ok (.iconst (2), 1) := by decide +kernel
theorem d_L_faults_20 : decode b_L_faults 20 = .ok (.ireturn, 1) := by decide +kernel
theorem d_L_faults_21 : decode b_L_faults 21 = .ok (.iconst (0), 1) := by decide +kernel
theorem d_L_faults_22 : decode b_L_faults 22 = .ok (.ireturn, 1) := by decide +kernel
theorem d_L_first_0 : decode b_L_first 0 = .ok (.aload_n 3, 1) := by decide +kernel
theorem d_L_first_1 : decode b_L_first 1 = .ok (.iconst (0), 1) := by decide +kernel
theorem d_L_first_2 : decode b_L_first 2 = .ok (.aload_n 0, 1) := by decide +kernel
theorem d_L_first_3 : decode b_L_first 3 = .ok (.iload_n 1, 1) := by decide +kernel
theorem d_L_first_4 : decode b_L_first 4 = .ok (.iload_n 2, 1) := by decide +kernel
theorem d_L_first_5 : decode b_L_first 5 = .ok (.invokevirtual 55, 3) := by decide +kernel
theorem d_L_first_8 : decode b_L_first 8 = .ok (.i2l, 1) := by decide +kernel
theorem d_L_first_9 : decode b_L_first 9 = .ok (.lastore, 1) := by decide +kernel
theorem d_L_first_10 : decode b_L_first 10 = .ok (.goto (11), 3) := by decide +kernel
theorem d_L_first_13 : decode b_L_first 13 = .ok (.astore 4, 2) := by decide +kernel
theorem d_L_first_15 : decode b_L_first 15 = .ok (.iconst (1), 1) := by decide +kernel
theorem d_L_first_16 : decode b_L_first 16 = .ok (.ireturn, 1) := by decide +kernel
theorem d_L_first_17 : decode b_L_first 17 = .ok (.astore 4, 2) := by decide +kernel
theorem d_L_first_19 : decode b_L_first 19 = .ok (.iconst (2), 1) := by decide +kernel
theorem d_L_first_20 : decode b_L_first 20 = .ok (.ireturn, 1) := by decide +kernel
theorem d_L_first_21 : decode b_L_first 21 = .ok (.iconst (0), 1) := by decide +kernel
theorem d_L_first_22 : decode b_L_first 22 = .ok (.ireturn, 1) := by decide +kernel
theorem d_L_law_0 : decode b_L_law 0 = .ok (.new 8, 3) := by decide +kernel
theorem d_L_law_3 : decode b_L_law 3 = .ok (.dup, 1) := by decide +kernel
theorem d_L_law_4 : decode b_L_law 4 = .ok (.invokespecial 58, 3) := by decide +kernel
theorem d_L_law_7 : decode b_L_law 7 = .ok (.astore_n 1, 1) := by decide +kernel
theorem d_L_law_8 : decode b_L_law 8 = .ok (.new 59, 3) := by decide +kernel
theorem d_L_law_11 : decode b_L_law 11 = .ok (.dup, 1) := by decide +kernel
theorem d_L_law_12 : decode b_L_law 12 = .ok (.invokespecial 61, 3) := by decide +kernel
theorem d_L_law_15 : decode b_L_law 15 = .ok (.astore_n 2, 1) := by decide +kernel
theorem d_L_law_16 : decode b_L_law 16 = .ok (.iconst (1), 1) := by decide +kernel
theorem d_L_law_17 : decode b_L_law 17 = .ok (.newarray .long, 2) := by decide +kernel
theorem d_L_law_19 : decode b_L_law 19 = .ok (.astore_n 3, 1) := by decide +kernel
theorem d_L_law_20 : decode b_L_law 20 = .ok (.iconst (0), 1) := by decide +kernel
theorem d_L_law_21 : decode b_L_law 21 = .ok (.istore 4, 2) := by decide +kernel
theorem d_L_law_23 : decode b_L_law 23 = .ok (.iload 4, 2) := by decide +kernel
theorem d_L_law_25 : decode b_L_law 25 = .ok (.aload_n 0, 1) := by decide +kernel
theorem d_L_law_26 : decode b_L_law 26 = .ok (.arraylength, 1) := by decide +kernel
theorem d_L_law_27 : decode b_L_law 27 = .ok (.iconst (5), 1) := by decide +kernel
theorem d_L_law_28 : decode b_L_law 28 = .ok (.isub, 1) := by decide +kernel
theorem d_L_law_29 : decode b_L_law 29 = .ok (.if_icmp .gt (1227), 3) := by decide +kernel
theorem d_L_law_32 : decode b_L_law 32 = .ok (.aload_n 0, 1) := by decide +kernel
theorem d_L_law_33 : decode b_L_law 33 = .ok (.iload 4, 2) := by decide +kernel
theorem d_L_law_35 : decode b_L_law 35 = .ok (.iaload, 1) := by decide +kernel
theorem d_L_law_36 : decode b_L_law 36 = .ok (.bipush (31), 2) := by decide +kernel
theorem d_L_law_38 : decode b_L_law 38 = .ok (.iand, 1) := by decide +kernel
theorem d_L_law_39 : decode b_L_law 39 = .ok (.tableswitch (1211) (0) (16) #[(81), (169), (300), (431), (489), (502), (515), (529), (616), (703), (791), (804), (884), (940), (1008), (1075), (1143)], 81) := by decide +kernel
theorem d_L_law_120 : decode b_L_law 120 = .ok (.aload_n 1, 1) := by decide +kernel
theorem d_L_law_121 : decode b_L_law 121 = .ok (.aload_n 0, 1) := by decide +kernel
theorem d_L_law_122 : decode b_L_law 122 = .ok (.iload 4, 2) := by decide +kernel
theorem d_L_law_124 : decode b_L_law 124 = .ok (.iconst (1), 1) := by decide +kernel
theorem d_L_law_125 : decode b_L_law 125 = .ok (.iadd, 1) := by decide +kernel
theorem d_L_law_126 : decode b_L_law 126 = .ok (.iaload, 1) := by decide +kernel
theorem d_L_law_127 : decode b_L_law 127 = .ok (.i2l, 1) := by decide +kernel
theorem d_L_law_128 : decode b_L_law 128 = .ok (.bipush (32), 2) := by decide +kernel
theorem d_L_law_130 : decode b_L_law 130 = .ok (.lshl, 1) := by decide +kernel
theorem d_L_law_131 : decode b_L_law 131 = .ok (.aload_n 0, 1) := by decide +kernel
theorem d_L_law_132 : decode b_L_law 132 = .ok (.iload 4, 2) := by decide +kernel
theorem d_L_law_134 : decode b_L_law 134 = .ok (.iconst (2), 1) := by decide +kernel
theorem d_L_law_135 : decode b_L_law 135 = .ok (.iadd, 1) := by decide +kernel
theorem d_L_law_136 : decode b_L_law 136 = .ok (.iaload, 1) := by decide +kernel
theorem d_L_law_137 : decode b_L_law 137 = .ok (.i2l, 1) := by decide +kernel
theorem d_L_law_138 : decode b_L_law 138 = .ok (.ldc2_w 62, 3) := by decide +kernel
theorem d_L_law_141 : decode b_L_law 141 = .ok (.land, 1) := by decide +kernel
theorem d_L_law_142 : decode b_L_law 142 = .ok (.lor, 1) := by decide +kernel
theorem d_L_law_143 : decode b_L_law 143 = .ok (.aload_n 3, 1) := by decide +kernel
theorem d_L_law_144 : decode b_L_law 144 = .ok (.invokestatic 64, 3) := by decide +kernel
theorem d_L_law_147 : decode b_L_law 147 = .ok (.istore 5, 2) := by decide +kernel
theorem d_L_law_149 : decode b_L_law 149 = .ok (.aload_n 2, 1) := by decide +kernel
theorem d_L_law_150 : decode b_L_law 150 = .ok (.aload_n 0, 1) := by decide +kernel
theorem d_L_law_151 : decode b_L_law 151 = .ok (.iload 4, 2) := by decide +kernel
theorem d_L_law_153 : decode b_L_law 153 = .ok (.iconst (1), 1) := by decide +kernel
theorem d_L_law_154 : decode b_L_law 154 = .ok (.iadd, 1) := by decide +kernel
theorem d_L_law_155 : decode b_L_law 155 = .ok (.iaload, 1) := by decide +kernel
theorem d_L_law_156 : decode b_L_law 156 = .ok (.i2l, 1) := by decide +kernel
theorem d_L_law_157 : decode b_L_law 157 = .ok (.bipush (32), 2) := by decide +kernel
theorem d_L_law_159 : decode b_L_law 159 = .ok (.lshl, 1) := by decide +kernel
theorem d_L_law_160 : decode b_L_law 160 = .ok (.aload_n 0, 1) := by decide +kernel
theorem d_L_law_161 : decode b_L_law 161 = .ok (.iload 4, 2) := by decide +kernel
theorem d_L_law_163 : decode b_L_law 163 = .ok (.iconst (2), 1) := by decide +kernel
theorem d_L_law_164 : decode b_L_law 164 = .ok (.iadd, 1) := by decide +kernel
theorem d_L_law_165 : decode b_L_law 165 = .ok (.iaload, 1) := by decide +kernel
end
section
theorem d_L_law_166 : decode b_L_law 166 = .ok (.i2l, 1) := by decide +kernel
theorem d_L_law_167 : decode b_L_law 167 = .ok (.ldc2_w 62, 3) := by decide +kernel
theorem d_L_law_170 : decode b_L_law 170 = .ok (.land, 1) := by decide +kernel
theorem d_L_law_171 : decode b_L_law 171 = .ok (.lor, 1) := by decide +kernel
theorem d_L_law_172 : decode b_L_law 172 = .ok (.invokevirtual 69, 3) := by decide +kernel
theorem d_L_law_175 : decode b_L_law 175 = .ok (.istore 6, 2) := by decide +kernel
theorem d_L_law_177 : decode b_L_law 177 = .ok (.aload_n 2, 1) := by decide +kernel
theorem d_L_law_178 : decode b_L_law 178 = .ok (.invokevirtual 70, 3) := by decide +kernel
theorem d_L_law_181 : decode b_L_law 181 = .ok (.iload 5, 2) := by decide +kernel
theorem d_L_law_183 : decode b_L_law 183 = .ok (.if_icmp .eq (5), 3) := by decide +kernel
theorem d_L_law_186 : decode b_L_law 186 = .ok (.iconst (0), 1) := by decide +kernel
theorem d_L_law_187 : decode b_L_law 187 = .ok (.ireturn, 1) := by decide +kernel
theorem d_L_law_188 : decode b_L_law 188 = .ok (.iload 5, 2) := by decide +kernel
theorem d_L_law_190 : decode b_L_law 190 = .ok (.ifCond .ne (15), 3) := by decide +kernel
theorem d_L_law_193 : decode b_L_law 193 = .ok (.aload_n 3, 1) := by decide +kernel
theorem d_L_law_194 : decode b_L_law 194 = .ok (.iconst (0), 1) := by decide +kernel
theorem d_L_law_195 : decode b_L_law 195 = .ok (.laload, 1) := by decide +kernel
theorem d_L_law_196 : decode b_L_law 196 = .ok (.iload 6, 2) := by decide +kernel
theorem d_L_law_198 : decode b_L_law 198 = .ok (.i2l, 1) := by decide +kernel
theorem d_L_law_199 : decode b_L_law 199 = .ok (.lcmp, 1) := by decide +kernel
theorem d_L_law_200 : decode b_L_law 200 = .ok (.ifCond .eq (5), 3) := by decide +kernel
theorem d_L_law_203 : decode b_L_law 203 = .ok (.iconst (0), 1) := by decide +kernel
theorem d_L_law_204 : decode b_L_law 204 = .ok (.ireturn, 1) := by decide +kernel
theorem d_L_law_205 : decode b_L_law 205 = .ok (.goto (1045), 3) := by decide +kernel
theorem d_L_law_208 : decode b_L_law 208 = .ok (.aload_n 1, 1) := by decide +kernel
theorem d_L_law_209 : decode b_L_law 209 = .ok (.aload_n 0, 1) := by decide +kernel
theorem d_L_law_210 : decode b_L_law 210 = .ok (.iload 4, 2) := by decide +kernel
theorem d_L_law_212 : decode b_L_law 212 = .ok (.iconst (1), 1) := by decide +kernel
theorem d_L_law_213 : decode b_L_law 213 = .ok (.iadd, 1) := by decide +kernel
theorem d_L_law_214 : decode b_L_law 214 = .ok (.iaload, 1) := by decide +kernel
theorem d_L_law_215 : decode b_L_law 215 = .ok (.i2l, 1) := by decide +kernel
theorem d_L_law_216 : decode b_L_law 216 = .ok (.bipush (32), 2) := by decide +kernel
theorem d_L_law_218 : decode b_L_law 218 = .ok (.lshl, 1) := by decide +kernel
theorem d_L_law_219 : decode b_L_law 219 = .ok (.aload_n 0, 1) := by decide +kernel
theorem d_L_law_220 : decode b_L_law 220 = .ok (.iload 4, 2) := by decide +kernel
theorem d_L_law_222 : decode b_L_law 222 = .ok (.iconst (2), 1) := by decide +kernel
theorem d_L_law_223 : decode b_L_law 223 = .ok (.iadd, 1) := by decide +kernel
theorem d_L_law_224 : decode b_L_law 224 = .ok (.iaload, 1) := by decide +kernel
theorem d_L_law_225 : decode b_L_law 225 = .ok (.i2l, 1) := by decide +kernel
theorem d_L_law_226 : decode b_L_law 226 = .ok (.ldc2_w 62, 3) := by decide +kernel
theorem d_L_law_229 : decode b_L_law 229 = .ok (.land, 1) := by decide +kernel
theorem d_L_law_230 : decode b_L_law 230 = .ok (.lor, 1) := by decide +kernel
theorem d_L_law_231 : decode b_L_law 231 = .ok (.aload_n 0, 1) := by decide +kernel
theorem d_L_law_232 : decode b_L_law 232 = .ok (.iload 4, 2) := by decide +kernel
theorem d_L_law_234 : decode b_L_law 234 = .ok (.iconst (3), 1) := by decide +kernel
theorem d_L_law_235 : decode b_L_law 235 = .ok (.iadd, 1) := by decide +kernel
theorem d_L_law_236 : decode b_L_law 236 = .ok (.iaload, 1) := by decide +kernel
theorem d_L_law_237 : decode b_L_law 237 = .ok (.i2l, 1) := by decide +kernel
theorem d_L_law_238 : decode b_L_law 238 = .ok (.bipush (32), 2) := by decide +kernel
theorem d_L_law_240 : decode b_L_law 240 = .ok (.lshl, 1) := by decide +kernel
theorem d_L_law_241 : decode b_L_law 241 = .ok (.aload_n 0, 1) := by decide +kernel
theorem d_L_law_242 : decode b_L_law 242 = .ok (.iload 4, 2) := by decide +kernel
theorem d_L_law_244 : decode b_L_law 244 = .ok (.iconst (4), 1) := by decide +kernel
theorem d_L_law_245 : decode b_L_law 245 = .ok (.iadd, 1) := by decide +kernel
theorem d_L_law_246 : decode b_L_law 246 = .ok (.iaload, 1) := by decide +kernel
theorem d_L_law_247 : decode b_L_law 247 = .ok (.i2l, 1) := by decide +kernel
theorem d_L_law_248 : decode b_L_law 248 = .ok (.ldc2_w 62, 3) := by decide +kernel
theorem d_L_law_251 : decode b_L_law 251 = .ok (.land, 1) := by decide +kernel
theorem d_L_law_252 : decode b_L_law 252 = .ok (.lor, 1) := by decide +kernel
theorem d_L_law_253 : decode b_L_law 253 = .ok (.aload_n 3, 1) := by decide +kernel
theorem d_L_law_254 : decode b_L_law 254 = .ok (.invokestatic 74, 3) := by decide +kernel
theorem d_L_law_257 : decode b_L_law 257 = .ok (.istore 5, 2) := by decide +kernel
theorem d_L_law_259 : decode b_L_law 259 = .ok (.aload_n 2, 1) := by decide +kernel
theorem d_L_law_260 : decode b_L_law 260 = .ok (.aload_n 0, 1) := by decide +kernel
theorem d_L_law_261 : decode b_L_law 261 = .ok (.iload 4, 2) := by decide +kernel
theorem d_L_law_263 : decode b_L_law 263 = .ok (.iconst (1), 1) := by decide +kernel
theorem d_L_law_264 : decode b_L_law 264 = .ok (.iadd, 1) := by decide +kernel
theorem d_L_law_265 : decode b_L_law 265 = .ok (.iaload, 1) := by decide +kernel
theorem d_L_law_266 : decode b_L_law 266 = .ok (.i2l, 1) := by decide +kernel
theorem d_L_law_267 : decode b_L_law 267 = .ok (.bipush (32), 2) := by decide +kernel
theorem d_L_law_269 : decode b_L_law 269 = .ok (.lshl, 1) := by decide +kernel
theorem d_L_law_270 : decode b_L_law 270 = .ok (.aload_n 0, 1) := by decide +kernel
theorem d_L_law_271 : decode b_L_law 271 = .ok (.iload 4, 2) := by decide +kernel
theorem d_L_law_273 : decode b_L_law 273 = .ok (.iconst (2), 1) := by decide +kernel
theorem d_L_law_274 : decode b_L_law 274 = .ok (.iadd, 1) := by decide +kernel
theorem d_L_law_275 : decode b_L_law 275 = .ok (.iaload, 1) := by decide +kernel
theorem d_L_law_276 : decode b_L_law 276 = .ok (.i2l, 1) := by decide +kernel
theorem d_L_law_277 : decode b_L_law 277 = .ok (.ldc2_w 62, 3) := by decide +kernel
theorem d_L_law_280 : decode b_L_law 280 = .ok (.land, 1) := by decide +kernel
theorem d_L_law_281 : decode b_L_law 281 = .ok (.lor, 1) := by decide +kernel
theorem d_L_law_282 : decode b_L_law 282 = .ok (.aload_n 0, 1) := by decide +kernel
theorem d_L_law_283 : decode b_L_law 283 = .ok (.iload 4, 2) := by decide +kernel
theorem d_L_law_285 : decode b_L_law 285 = .ok (.iconst (3), 1) := by decide +kernel
theorem d_L_law_286 : decode b_L_law 286 = .ok (.iadd, 1) := by decide +kernel
theorem d_L_law_287 : decode b_L_law 287 = .ok (.iaload, 1) := by decide +kernel
theorem d_L_law_288 : decode b_L_law 288 = .ok (.i2l, 1) := by decide +kernel
theorem d_L_law_289 : decode b_L_law 289 = .ok (.bipush (32), 2) := by decide +kernel
theorem d_L_law_291 : decode b_L_law 291 = .ok (.lshl, 1) := by decide +kernel
theorem d_L_law_292 : decode b_L_law 292 = .ok (.aload_n 0, 1) := by decide +kernel
theorem d_L_law_293 : decode b_L_law 293 = .ok (.iload 4, 2) := by decide +kernel
theorem d_L_law_295 : decode b_L_law 295 = .ok (.iconst (4), 1) := by decide +kernel
theorem d_L_law_296 : decode b_L_law 296 = .ok (.iadd, 1) := by decide +kernel
theorem d_L_law_297 : decode b_L_law 297 = .ok (.iaload, 1) := by decide +kernel
theorem d_L_law_298 : decode b_L_law 298 = .ok (.i2l, 1) := by decide +kernel
theorem d_L_law_299 : decode b_L_law 299 = .ok (.ldc2_w 62, 3) := by decide +kernel
theorem d_L_law_302 : decode b_L_law 302 = .ok (.land, 1) := by decide +kernel
theorem d_L_law_303 : decode b_L_law 303 = .ok (.lor, 1) := by decide +kernel
theorem d_L_law_304 : decode b_L_law 304 = .ok (.invokevirtual 77, 3) := by decide +kernel
theorem d_L_law_307 : decode b_L_law 307 = .ok (.lstore 6, 2) := by decide +kernel
theorem d_L_law_309 : decode b_L_law 309 = .ok (.aload_n 2, 1) := by decide +kernel
theorem d_L_law_310 : decode b_L_law 310 = .ok (.invokevirtual 70, 3) := by decide +kernel
theorem d_L_law_313 : decode b_L_law 313 = .ok (.iload 5, 2) := by decide +kernel
theorem d_L_law_315 : decode b_L_law 315 = .ok (.if_icmp .eq (5), 3) := by decide +kernel
theorem d_L_law_318 : decode b_L_law 318 = .ok (.iconst (0), 1) := by decide +kernel
theorem d_L_law_319 : decode b_L_law 319 = .ok (.ireturn, 1) := by decide +kernel
theorem d_L_law_320 : decode b_L_law 320 = .ok (.iload 5, 2) := by decide +kernel
theorem d_L_law_322 : decode b_L_law 322 = .ok (.ifCond .ne (14), 3) := by decide +kernel
theorem d_L_law_325 : decode b_L_law 325 = .ok (.aload_n 3, 1) := by decide +kernel
theorem d_L_law_326 : decode b_L_law 326 = .ok (.iconst (0), 1) := by decide +kernel
theorem d_L_law_327 : decode b_L_law 327 = .ok (.laload, 1) := by decide +kernel
theorem d_L_law_328 : decode b_L_law 328 = .ok (.lload 6, 2) := by decide +kernel
theorem d_L_law_330 : decode b_L_law 330 = .ok (.lcmp, 1) := by decide +kernel
theorem d_L_law_331 : decode b_L_law 331 = .ok (.ifCond .eq (5), 3) := by decide +kernel
theorem d_L_law_334 : decode b_L_law 334 = .ok (.iconst (0), 1) := by decide +kernel
theorem d_L_law_335 : decode b_L_law 335 = .ok (.ireturn, 1) := by decide +kernel
theorem d_L_law_336 : decode b_L_law 336 = .ok (.goto (914), 3) := by decide +kernel
theorem d_L_law_339 : decode b_L_law 339 = .ok (.aload_n 1, 1) := by decide +kernel
theorem d_L_law_340 : decode b_L_law 340 = .ok (.aload_n 0, 1) := by decide +kernel
theorem d_L_law_341 : decode b_L_law 341 = .ok (.iload 4, 2) := by decide +kernel
theorem d_L_law_343 : decode b_L_law 343 = .ok (.iconst (1), 1) := by decide +kernel
theorem d_L_law_344 : decode b_L_law 344 = .ok (.iadd, 1) := by decide +kernel
theorem d_L_law_345 : decode b_L_law 345 = .ok (.iaload, 1) := by decide +kernel
theorem d_L_law_346 : decode b_L_law 346 = .ok (.i2l, 1) := by decide +kernel
theorem d_L_law_347 : decode b_L_law 347 = .ok (.bipush (32), 2) := by decide +kernel
theorem d_L_law_349 : decode b_L_law 349 = .ok (.lshl, 1) := by decide +kernel
theorem d_L_law_350 : decode b_L_law 350 = .ok (.aload_n 0, 1) := by decide +kernel
theorem d_L_law_351 : decode b_L_law 351 = .ok (.iload 4, 2) := by decide +kernel
theorem d_L_law_353 : decode b_L_law 353 = .ok (.iconst (2), 1) := by decide +kernel
theorem d_L_law_354 : decode b_L_law 354 = .ok (.iadd, 1) := by decide +kernel
theorem d_L_law_355 : decode b_L_law 355 = .ok (.iaload, 1) := by decide +kernel
theorem d_L_law_356 : decode b_L_law 356 = .ok (.i2l, 1) := by decide +kernel
theorem d_L_law_357 : decode b_L_law 357 = .ok (.ldc2_w 62, 3) := by decide +kernel
theorem d_L_law_360 : decode b_L_law 360 = .ok (.land, 1) := by decide +kernel
theorem d_L_law_361 : decode b_L_law 361 = .ok (.lor, 1) := by decide +kernel
theorem d_L_law_362 : decode b_L_law 362 = .ok (.aload_n 0, 1) := by decide +kernel
theorem d_L_law_363 : decode b_L_law 363 = .ok (.iload 4, 2) := by decide +kernel
theorem d_L_law_365 : decode b_L_law 365 = .ok (.iconst (3), 1) := by decide +kernel
theorem d_L_law_366 : decode b_L_law 366 = .ok (.iadd, 1) := by decide +kernel
theorem d_L_law_367 : decode b_L_law 367 = .ok (.iaload, 1) := by decide +kernel
theorem d_L_law_368 : decode b_L_law 368 = .ok (.i2l, 1) := by decide +kernel
theorem d_L_law_369 : decode b_L_law 369 = .ok (.bipush (32), 2) := by decide +kernel
theorem d_L_law_371 : decode b_L_law 371 = .ok (.lshl, 1) := by decide +kernel
theorem d_L_law_372 : decode b_L_law 372 = .ok (.aload_n 0, 1) := by decide +kernel
theorem d_L_law_373 : decode b_L_law 373 = .ok (.iload 4, 2) := by decide +kernel
theorem d_L_law_375 : decode b_L_law 375 = .ok (.iconst (4), 1) := by decide +kernel
theorem d_L_law_376 : decode b_L_law 376 = .ok (.iadd, 1) := by decide +kernel
theorem d_L_law_377 : decode b_L_law 377 = .ok (.iaload, 1) := by decide +kernel
theorem d_L_law_378 : decode b_L_law 378 = .ok (.i2l, 1) := by decide +kernel
theorem d_L_law_379 : decode b_L_law 379 = .ok (.ldc2_w 62, 3) := by decide +kernel
theorem d_L_law_382 : decode b_L_law 382 = .ok (.land, 1) := by decide +kernel
theorem d_L_law_383 : decode b_L_law 383 = .ok (.lor, 1) := by decide +kernel
theorem d_L_law_384 : decode b_L_law 384 = .ok (.aload_n 3, 1) := by decide +kernel
theorem d_L_law_385 : decode b_L_law 385 = .ok (.invokestatic 78, 3) := by decide +kernel
theorem d_L_law_388 : decode b_L_law 388 = .ok (.istore 5, 2) := by decide +kernel
theorem d_L_law_390 : decode b_L_law 390 = .ok (.aload_n 2, 1) := by decide +kernel
theorem d_L_law_391 : decode b_L_law 391 = .ok (.aload_n 0, 1) := by decide +kernel
theorem d_L_law_392 : decode b_L_law 392 = .ok (.iload 4, 2) := by decide +kernel
theorem d_L_law_394 : decode b_L_law 394 = .ok (.iconst (1), 1) := by decide +kernel
theorem d_L_law_395 : decode b_L_law 395 = .ok (.iadd, 1) := by decide +kernel
theorem d_L_law_396 : decode b_L_law 396 = .ok (.iaload, 1) := by decide +kernel
theorem d_L_law_397 : decode b_L_law 397 = .ok (.i2l, 1) := by decide +kernel
theorem d_L_law_398 : decode b_L_law 398 = .ok (.bipush (32), 2) := by decide +kernel
theorem d_L_law_400 : decode b_L_law 400 = .ok (.lshl, 1) := by decide +kernel
theorem d_L_law_401 : decode b_L_law 401 = .ok (.aload_n 0, 1) := by decide +kernel
theorem d_L_law_402 : decode b_L_law 402 = .ok (.iload 4, 2) := by decide +kernel
theorem d_L_law_404 : decode b_L_law 404 = .ok (.iconst (2), 1) := by decide +kernel
theorem d_L_law_405 : decode b_L_law 405 = .ok (.iadd, 1) := by decide +kernel
theorem d_L_law_406 : decode b_L_law 406 = .ok (.iaload, 1) := by decide +kernel
theorem d_L_law_407 : decode b_L_law 407 = .ok (.i2l, 1) := by decide +kernel
theorem d_L_law_408 : decode b_L_law 408 = .ok (.ldc2_w 62, 3) := by decide +kernel
theorem d_L_law_411 : decode b_L_law 411 = .ok (.land, 1) := by decide +kernel
theorem d_L_law_412 : decode b_L_law 412 = .ok (.lor, 1) := by decide +kernel
theorem d_L_law_413 : decode b_L_law 413 = .ok (.aload_n 0, 1) := by decide +kernel
theorem d_L_law_414 : decode b_L_law 414 = .ok (.iload 4, 2) := by decide +kernel
theorem d_L_law_416 : decode b_L_law 416 = .ok (.iconst (3), 1) := by decide +kernel
theorem d_L_law_417 : decode b_L_law 417 = .ok (.iadd, 1) := by decide +kernel
theorem d_L_law_418 : decode b_L_law 418 = .ok (.iaload, 1) := by decide +kernel
theorem d_L_law_419 : decode b_L_law 419 = .ok (.i2l, 1) := by decide +kernel
theorem d_L_law_420 : decode b_L_law 420 = .ok (.bipush (32), 2) := by decide +kernel
theorem d_L_law_422 : decode b_L_law 422 = .ok (.lshl, 1) := by decide +kernel
theorem d_L_law_423 : decode b_L_law 423 = .ok (.aload_n 0, 1) := by decide +kernel
theorem d_L_law_424 : decode b_L_law 424 = .ok (.iload 4, 2) := by decide +kernel
theorem d_L_law_426 : decode b_L_law 426 = .ok (.iconst (4), 1) := by decide +kernel
theorem d_L_law_427 : decode b_L_law 427 = .ok (.iadd, 1) := by decide +kernel
theorem d_L_law_428 : decode b_L_law 428 = .ok (.iaload, 1) := by decide +kernel
theorem d_L_law_429 : decode b_L_law 429 = .ok (.i2l, 1) := by decide +kernel
theorem d_L_law_430 : decode b_L_law 430 = .ok (.ldc2_w 62, 3) := by decide +kernel
theorem d_L_law_433 : decode b_L_law 433 = .ok (.land, 1) := by decide +kernel
theorem d_L_law_434 : decode b_L_law 434 = .ok (.lor, 1) := by decide +kernel
theorem d_L_law_435 : decode b_L_law 435 = .ok (.invokevirtual 80, 3) := by decide +kernel
theorem d_L_law_438 : decode b_L_law 438 = .ok (.lstore 6, 2) := by decide +kernel
theorem d_L_law_440 : decode b_L_law 440 = .ok (.aload_n 2, 1) := by decide +kernel
theorem d_L_law_441 : decode b_L_law 441 = .ok (.invokevirtual 70, 3) := by decide +kernel
theorem d_L_law_444 : decode b_L_law 444 = .ok (.iload 5, 2) := by decide +kernel
theorem d_L_law_446 : decode b_L_law 446 = .ok (.if_icmp .eq (5), 3) := by decide +kernel
theorem d_L_law_449 : decode b_L_law 449 = .ok (.iconst (0), 1) := by decide +kernel
theorem d_L_law_450 : decode b_L_law 450 = .ok (.ireturn, 1) := by decide +kernel
theorem d_L_law_451 : decode b_L_law 451 = .ok (.iload 5, 2) := by decide +kernel
theorem d_L_law_453 : decode b_L_law 453 = .ok (.ifCond .ne (14), 3) := by decide +kernel
theorem d_L_law_456 : decode b_L_law 456 = .ok (.aload_n 3, 1) := by decide +kernel
theorem d_L_law_457 : decode b_L_law 457 = .ok (.iconst (0), 1) := by decide +kernel
theorem d_L_law_458 : decode b_L_law 458 = .ok (.laload, 1) := by decide +kernel
theorem d_L_law_459 : decode b_L_law 459 = .ok (.lload 6, 2) := by decide +kernel
theorem d_L_law_461 : decode b_L_law 461 = .ok (.lcmp, 1) := by decide +kernel
theorem d_L_law_462 : decode b_L_law 462 = .ok (.ifCond .eq (5), 3) := by decide +kernel
theorem d_L_law_465 : decode b_L_law 465 = .ok (.iconst (0), 1) := by decide +kernel
theorem d_L_law_466 : decode b_L_law 466 = .ok (.ireturn, 1) := by decide +kernel
theorem d_L_law_467 : decode b_L_law 467 = .ok (.goto (783), 3) := by decide +kernel
theorem d_L_law_470 : decode b_L_law 470 = .ok (.aload_n 1, 1) := by decide +kernel
theorem d_L_law_471 : decode b_L_law 471 = .ok (.aload_n 0, 1) := by decide +kernel
theorem d_L_law_472 : decode b_L_law 472 = .ok (.iload 4, 2) := by decide +kernel
theorem d_L_law_474 : decode b_L_law 474 = .ok (.iconst (1), 1) := by decide +kernel
theorem d_L_law_475 : decode b_L_law 475 = .ok (.iadd, 1) := by decide +kernel
theorem d_L_law_476 : decode b_L_law 476 = .ok (.iaload, 1) := by decide +kernel
theorem d_L_law_477 : decode b_L_law 477 = .ok (.i2l, 1) := by decide +kernel
theorem d_L_law_478 : decode b_L_law 478 = .ok (.bipush (32), 2) := by decide +kernel
theorem d_L_law_480 : decode b_L_law 480 = .ok (.lshl, 1) := by decide +kernel
theorem d_L_law_481 : decode b_L_law 481 = .ok (.aload_n 0, 1) := by decide +kernel
theorem d_L_law_482 : decode b_L_law 482 = .ok (.iload 4, 2) := by decide +kernel
theorem d_L_law_484 : decode b_L_law 484 = .ok (.iconst (2), 1) := by decide +kernel
theorem d_L_law_485 : decode b_L_law 485 = .ok (.iadd, 1) := by decide +kernel
theorem d_L_law_486 : decode b_L_law 486 = .ok (.iaload, 1) := by decide +kernel
theorem d_L_law_487 : decode b_L_law 487 = .ok (.i2l, 1) := by decide +kernel
theorem d_L_law_488 : decode b_L_law 488 = .ok (.ldc2_w 62, 3) := by decide +kernel
theorem d_L_law_491 : decode b_L_law 491 = .ok (.land, 1) := by decide +kernel
theorem d_L_law_492 : decode b_L_law 492 = .ok (.lor, 1) := by decide +kernel
theorem d_L_law_493 : decode b_L_law 493 = .ok (.invokevirtual 81, 3) := by decide +kernel
theorem d_L_law_496 : decode b_L_law 496 = .ok (.aload_n 2, 1) := by decide +kernel
theorem d_L_law_497 : decode b_L_law 497 = .ok (.aload_n 0, 1) := by decide +kernel
theorem d_L_law_498 : decode b_L_law 498 = .ok (.iload 4, 2) := by decide +kernel
theorem d_L_law_500 : decode b_L_law 500 = .ok (.iconst (1), 1) := by decide +kernel
theorem d_L_law_501 : decode b_L_law 501 = .ok (.iadd, 1) := by decide +kernel
theorem d_L_law_502 : decode b_L_law 502 = .ok (.iaload, 1) := by decide +kernel
theorem d_L_law_503 : decode b_L_law 503 = .ok (.i2l, 1) := by decide +kernel
theorem d_L_law_504 : decode b_L_law 504 = .ok (.bipush (32), 2) := by decide +kernel
theorem d_L_law_506 : decode b_L_law 506 = .ok (.lshl, 1) := by decide +kernel
theorem d_L_law_507 : decode b_L_law 507 = .ok (.aload_n 0, 1) := by decide +kernel
theorem d_L_law_508 : decode b_L_law 508 = .ok (.iload 4, 2) := by decide +kernel
theorem d_L_law_510 : decode b_L_law 510 = .ok (.iconst (2), 1) := by decide +kernel
theorem d_L_law_511 : decode b_L_law 511 = .ok (.iadd, 1) := by decide +kernel
theorem d_L_law_512 : decode b_L_law 512 = .ok (.iaload, 1) := by decide +kernel
theorem d_L_law_513 : decode b_L_law 513 = .ok (.i2l, 1) := by decide +kernel
theorem d_L_law_514 : decode b_L_law 514 = .ok (.ldc2_w 62, 3) := by decide +kernel
theorem d_L_law_517 : decode b_L_law 517 = .ok (.land, 1) := by decide +kernel
theorem d_L_law_518 : decode b_L_law 518 = .ok (.lor, 1) := by decide +kernel
theorem d_L_law_519 : decode b_L_law 519 = .ok (.invokevirtual 84, 3) := by decide +kernel
theorem d_L_law_522 : decode b_L_law 522 = .ok (.lcmp, 1) := by decide +kernel
theorem d_L_law_523 : decode b_L_law 523 = .ok (.ifCond .eq (727), 3) := by decide +kernel
theorem d_L_law_526 : decode b_L_law 526 = .ok (.iconst (0), 1) := by decide +kernel
theorem d_L_law_527 : decode b_L_law 527 = .ok (.ireturn, 1) := by decide +kernel
theorem d_L_law_528 : decode b_L_law 528 = .ok (.aload_n 1, 1) := by decide +kernel
theorem d_L_law_529 : decode b_L_law 529 = .ok (.invokevirtual 85, 3) := by decide +kernel
theorem d_L_law_532 : decode b_L_law 532 = .ok (.aload_n 2, 1) := by decide +kernel
theorem d_L_law_533 : decode b_L_law 533 = .ok (.invokevirtual 89, 3) := by decide +kernel
theorem d_L_law_536 : decode b_L_law 536 = .ok (.if_icmp .eq (714), 3) := by decide +kernel
theorem d_L_law_539 : decode b_L_law 539 = .ok (.iconst (0), 1) := by decide +kernel
theorem d_L_law_540 : decode b_L_law 540 = .ok (.ireturn, 1) := by decide +kernel
theorem d_L_law_541 : decode b_L_law 541 = .ok (.aload_n 1, 1) := by decide +kernel
theorem d_L_law_542 : decode b_L_law 542 = .ok (.invokevirtual 90, 3) := by decide +kernel
theorem d_L_law_545 : decode b_L_law 545 = .ok (.aload_n 2, 1) := by decide +kernel
theorem d_L_law_546 : decode b_L_law 546 = .ok (.invokevirtual 93, 3) := by decide +kernel
theorem d_L_law_549 : decode b_L_law 549 = .ok (.if_icmp .eq (701), 3) := by decide +kernel
theorem d_L_law_552 : decode b_L_law 552 = .ok (.iconst (0), 1) := by decide +kernel
theorem d_L_law_553 : decode b_L_law 553 = .ok (.ireturn, 1) := by decide +kernel
theorem d_L_law_554 : decode b_L_law 554 = .ok (.aload_n 1, 1) := by decide +kernel
theorem d_L_law_555 : decode b_L_law 555 = .ok (.invokevirtual 94, 3) := by decide +kernel
theorem d_L_law_558 : decode b_L_law 558 = .ok (.aload_n 2, 1) := by decide +kernel
theorem d_L_law_559 : decode b_L_law 559 = .ok (.invokevirtual 98, 3) := by decide +kernel
theorem d_L_law_562 : decode b_L_law 562 = .ok (.lcmp, 1) := by decide +kernel
theorem d_L_law_563 : decode b_L_law 563 = .ok (.ifCond .eq (687), 3) := by decide +kernel
theorem d_L_law_566 : decode b_L_law 566 = .ok (.iconst (0), 1) := by decide +kernel
theorem d_L_law_567 : decode b_L_law 567 = .ok (.ireturn, 1) := by decide +kernel
theorem d_L_law_568 : decode b_L_law 568 = .ok (.aload_n 1, 1) := by decide +kernel
theorem d_L_law_569 : decode b_L_law 569 = .ok (.aload_n 0, 1) := by decide +kernel
theorem d_L_law_570 : decode b_L_law 570 = .ok (.iload 4, 2) := by decide +kernel
theorem d_L_law_572 : decode b_L_law 572 = .ok (.iconst (1), 1) := by decide +kernel
theorem d_L_law_573 : decode b_L_law 573 = .ok (.iadd, 1) := by decide +kernel
theorem d_L_law_574 : decode b_L_law 574 = .ok (.iaload, 1) := by decide +kernel
theorem d_L_law_575 : decode b_L_law 575 = .ok (.i2l, 1) := by decide +kernel
theorem d_L_law_576 : decode b_L_law 576 = .ok (.bipush (32), 2) := by decide +kernel
theorem d_L_law_578 : decode b_L_law 578 = .ok (.lshl, 1) := by decide +kernel
theorem d_L_law_579 : decode b_L_law 579 = .ok (.aload_n 0, 1) := by decide +kernel
theorem d_L_law_580 : decode b_L_law 580 = .ok (.iload 4, 2) := by decide +kernel
theorem d_L_law_582 : decode b_L_law 582 = .ok (.iconst (2), 1) := by decide +kernel
theorem d_L_law_583 : decode b_L_law 583 = .ok (.iadd, 1) := by decide +kernel
theorem d_L_law_584 : decode b_L_law 584 = .ok (.iaload, 1) := by decide +kernel
theorem d_L_law_585 : decode b_L_law 585 = .ok (.i2l, 1) := by decide +kernel
theorem d_L_law_586 : decode b_L_law 586 = .ok (.ldc2_w 62, 3) := by decide +kernel
theorem d_L_law_589 : decode b_L_law 589 = .ok (.land, 1) := by decide +kernel
theorem d_L_law_590 : decode b_L_law 590 = .ok (.lor, 1) := by decide +kernel
theorem d_L_law_591 : decode b_L_law 591 = .ok (.aload_n 3, 1) := by decide +kernel
theorem d_L_law_592 : decode b_L_law 592 = .ok (.invokestatic 99, 3) := by decide +kernel
theorem d_L_law_595 : decode b_L_law 595 = .ok (.istore 5, 2) := by decide +kernel
theorem d_L_law_597 : decode b_L_law 597 = .ok (.aload_n 2, 1) := by decide +kernel
theorem d_L_law_598 : decode b_L_law 598 = .ok (.aload_n 0, 1) := by decide +kernel
theorem d_L_law_599 : decode b_L_law 599 = .ok (.iload 4, 2) := by decide +kernel
theorem d_L_law_601 : decode b_L_law 601 = .ok (.iconst (1), 1) := by decide +kernel
theorem d_L_law_602 : decode b_L_law 602 = .ok (.iadd, 1) := by decide +kernel
theorem d_L_law_603 : decode b_L_law 603 = .ok (.iaload, 1) := by decide +kernel
theorem d_L_law_604 : decode b_L_law 604 = .ok (.i2l, 1) := by decide +kernel
theorem d_L_law_605 : decode b_L_law 605 = .ok (.bipush (32), 2) := by decide +kernel
theorem d_L_law_607 : decode b_L_law 607 = .ok (.lshl, 1) := by decide +kernel
theorem d_L_law_608 : decode b_L_law 608 = .ok (.aload_n 0, 1) := by decide +kernel
theorem d_L_law_609 : decode b_L_law 609 = .ok (.iload 4, 2) := by decide +kernel
theorem d_L_law_611 : decode b_L_law 611 = .ok (.iconst (2), 1) := by decide +kernel
theorem d_L_law_612 : decode b_L_law 612 = .ok (.iadd, 1) := by decide +kernel
theorem d_L_law_613 : decode b_L_law 613 = .ok (.iaload, 1) := by decide +kernel
theorem d_L_law_614 : decode b_L_law 614 = .ok (.i2l, 1) := by decide +kernel
theorem d_L_law_615 : decode b_L_law 615 = .ok (.ldc2_w 62, 3) := by decide +kernel
theorem d_L_law_618 : decode b_L_law 618 = .ok (.land, 1) := by decide +kernel
theorem d_L_law_619 : decode b_L_law 619 = .ok (.lor, 1) := by decide +kernel
theorem d_L_law_620 : decode b_L_law 620 = .ok (.invokevirtual 101, 3) := by decide +kernel
theorem d_L_law_623 : decode b_L_law 623 = .ok (.lstore 6, 2) := by decide +kernel
theorem d_L_law_625 : decode b_L_law 625 = .ok (.aload_n 2, 1) := by decide +kernel
theorem d_L_law_626 : decode b_L_law 626 = .ok (.invokevirtual 70, 3) := by decide +kernel
theorem d_L_law_629 : decode b_L_law 629 = .ok (.iload 5, 2) := by decide +kernel
theorem d_L_law_631 : decode b_L_law 631 = .ok (.if_icmp .eq (5), 3) := by decide +kernel
theorem d_L_law_634 : decode b_L_law 634 = .ok (.iconst (0), 1) := by decide +kernel
theorem d_L_law_635 : decode b_L_law 635 = .ok (.ireturn, 1) := by decide +kernel
theorem d_L_law_636 : decode b_L_law 636 = .ok (.iload 5, 2) := by decide +kernel
theorem d_L_law_638 : decode b_L_law 638 = .ok (.ifCond .ne (14), 3) := by decide +kernel
theorem d_L_law_641 : decode b_L_law 641 = .ok (.aload_n 3, 1) := by decide +kernel
theorem d_L_law_642 : decode b_L_law 642 = .ok (.iconst (0), 1) := by decide +kernel
theorem d_L_law_643 : decode b_L_law 643 = .ok (.laload, 1) := by decide +kernel
theorem d_L_law_644 : decode b_L_law 644 = .ok (.lload 6, 2) := by decide +kernel
theorem d_L_law_646 : decode b_L_law 646 = .ok (.lcmp, 1) := by decide +kernel
theorem d_L_law_647 : decode b_L_law 647 = .ok (.ifCond .eq (5), 3) := by decide +kernel
theorem d_L_law_650 : decode b_L_law 650 = .ok (.iconst (0), 1) := by decide +kernel
theorem d_L_law_651 : decode b_L_law 651 = .ok (.ireturn, 1) := by decide +kernel
theorem d_L_law_652 : decode b_L_law 652 = .ok (.goto (598), 3) := by decide +kernel
theorem d_L_law_655 : decode b_L_law 655 = .ok (.aload_n 1, 1) := by decide +kernel
theorem d_L_law_656 : decode b_L_law 656 = .ok (.aload_n 0, 1) := by decide +kernel
theorem d_L_law_657 : decode b_L_law 657 = .ok (.iload 4, 2) := by decide +kernel
theorem d_L_law_659 : decode b_L_law 659 = .ok (.iconst (1), 1) := by decide +kernel
theorem d_L_law_660 : decode b_L_law 660 = .ok (.iadd, 1) := by decide +kernel
theorem d_L_law_661 : decode b_L_law 661 = .ok (.iaload, 1) := by decide +kernel
theorem d_L_law_662 : decode b_L_law 662 = .ok (.i2l, 1) := by decide +kernel
theorem d_L_law_663 : decode b_L_law 663 = .ok (.bipush (32), 2) := by decide +kernel
theorem d_L_law_665 : decode b_L_law 665 = .ok (.lshl, 1) := by decide +kernel
theorem d_L_law_666 : decode b_L_law 666 = .ok (.aload_n 0, 1) := by decide +kernel
theorem d_L_law_667 : decode b_L_law 667 = .ok (.iload 4, 2) := by decide +kernel
theorem d_L_law_669 : decode b_L_law 669 = .ok (.iconst (2), 1) := by decide +kernel
theorem d_L_law_670 : decode b_L_law 670 = .ok (.iadd, 1) := by decide +kernel
theorem d_L_law_671 : decode b_L_law 671 = .ok (.iaload, 1) := by decide +kernel
theorem d_L_law_672 : decode b_L_law 672 = .ok (.i2l, 1) := by decide +kernel
theorem d_L_law_673 : decode b_L_law 673 = .ok (.ldc2_w 62, 3) := by decide +kernel
theorem d_L_law_676 : decode b_L_law 676 = .ok (.land, 1) := by decide +kernel
theorem d_L_law_677 : decode b_L_law 677 = .ok (.lor, 1) := by decide +kernel
theorem d_L_law_678 : decode b_L_law 678 = .ok (.aload_n 3, 1) := by decide +kernel
theorem d_L_law_679 : decode b_L_law 679 = .ok (.invokestatic 102, 3) := by decide +kernel
theorem d_L_law_682 : decode b_L_law 682 = .ok (.istore 5, 2) := by decide +kernel
theorem d_L_law_684 : decode b_L_law 684 = .ok (.aload_n 2, 1) := by decide +kernel
theorem d_L_law_685 : decode b_L_law 685 = .ok (.aload_n 0, 1) := by decide +kernel
theorem d_L_law_686 : decode b_L_law 686 = .ok (.iload 4, 2) := by decide +kernel
theorem d_L_law_688 : decode b_L_law 688 = .ok (.iconst (1), 1) := by decide +kernel
theorem d_L_law_689 : decode b_L_law 689 = .ok (.iadd, 1) := by decide +kernel
theorem d_L_law_690 : decode b_L_law 690 = .ok (.iaload, 1) := by decide +kernel
theorem d_L_law_691 : decode b_L_law 691 = .ok (.i2l, 1) := by decide +kernel
theorem d_L_law_692 : decode b_L_law 692 = .ok (.bipush (32), 2) := by decide +kernel
theorem d_L_law_694 : decode b_L_law 694 = .ok (.lshl, 1) := by decide +kernel
theorem d_L_law_695 : decode b_L_law 695 = .ok (.aload_n 0, 1) := by decide +kernel
theorem d_L_law_696 : decode b_L_law 696 = .ok (.iload 4, 2) := by decide +kernel
theorem d_L_law_698 : decode b_L_law 698 = .ok (.iconst (2), 1) := by decide +kernel
theorem d_L_law_699 : decode b_L_law 699 = .ok (.iadd, 1) := by decide +kernel
theorem d_L_law_700 : decode b_L_law 700 = .ok (.iaload, 1) := by decide +kernel
theorem d_L_law_701 : decode b_L_law 701 = .ok (.i2l, 1) := by decide +kernel
theorem d_L_law_702 : decode b_L_law 702 = .ok (.ldc2_w 62, 3) := by decide +kernel
theorem d_L_law_705 : decode b_L_law 705 = .ok (.land, 1) := by decide +kernel
theorem d_L_law_706 : decode b_L_law 706 = .ok (.lor, 1) := by decide +kernel
theorem d_L_law_707 : decode b_L_law 707 = .ok (.invokevirtual 104, 3) := by decide +kernel
theorem d_L_law_710 : decode b_L_law 710 = .ok (.lstore 6, 2) := by decide +kernel
theorem d_L_law_712 : decode b_L_law 712 = .ok (.aload_n 2, 1) := by decide +kernel
theorem d_L_law_713 : decode b_L_law 713 = .ok (.invokevirtual 70, 3) := by decide +kernel
theorem d_L_law_716 : decode b_L_law 716 = .ok (.iload 5, 2) := by decide +kernel
theorem d_L_law_718 : decode b_L_law 718 = .ok (.if_icmp .eq (5), 3) := by decide +kernel
theorem d_L_law_721 : decode b_L_law 721 = .ok (.iconst (0), 1) := by decide +kernel
theorem d_L_law_722 : decode b_L_law 722 = .ok (.ireturn, 1) := by decide +kernel
theorem d_L_law_723 : decode b_L_law 723 = .ok (.iload 5, 2) := by decide +kernel
theorem d_L_law_725 : decode b_L_law 725 = .ok (.ifCond .ne (14), 3) := by decide +kernel
theorem d_L_law_728 : decode b_L_law 728 = .ok (.aload_n 3, 1) := by decide +kernel
theorem d_L_law_729 : decode b_L_law 729 = .ok (.iconst (0), 1) := by decide +kernel
theorem d_L_law_730 : decode b_L_law 730 = .ok (.laload, 1) := by decide +kernel
theorem d_L_law_731 : decode b_L_law 731 = .ok (.lload 6, 2) := by decide +kernel
theorem d_L_law_733 : decode b_L_law 733 = .ok (.lcmp, 1) := by decide +kernel
theorem d_L_law_734 : decode b_L_law 734 = .ok (.ifCond .eq (5), 3) := by decide +kernel
theorem d_L_law_737 : decode b_L_law 737 = .ok (.iconst (0), 1) := by decide +kernel
theorem d_L_law_738 : decode b_L_law 738 = .ok (.ireturn, 1) := by decide +kernel
theorem d_L_law_739 : decode b_L_law 739 = .ok (.goto (511), 3) := by decide +kernel
theorem d_L_law_742 : decode b_L_law 742 = .ok (.aload_n 1, 1) := by decide +kernel
theorem d_L_law_743 : decode b_L_law 743 = .ok (.aload_n 0, 1) := by decide +kernel
theorem d_L_law_744 : decode b_L_law 744 = .ok (.iload 4, 2) := by decide +kernel
theorem d_L_law_746 : decode b_L_law 746 = .ok (.iconst (1), 1) := by decide +kernel
theorem d_L_law_747 : decode b_L_law 747 = .ok (.iadd, 1) := by decide +kernel
theorem d_L_law_748 : decode b_L_law 748 = .ok (.iaload, 1) := by decide +kernel
theorem d_L_law_749 : decode b_L_law 749 = .ok (.i2l, 1) := by decide +kernel
theorem d_L_law_750 : decode b_L_law 750 = .ok (.bipush (32), 2) := by decide +kernel
theorem d_L_law_752 : decode b_L_law 752 = .ok (.lshl, 1) := by decide +kernel
theorem d_L_law_753 : decode b_L_law 753 = .ok (.aload_n 0, 1) := by decide +kernel
theorem d_L_law_754 : decode b_L_law 754 = .ok (.iload 4, 2) := by decide +kernel
theorem d_L_law_756 : decode b_L_law 756 = .ok (.iconst (2), 1) := by decide +kernel
theorem d_L_law_757 : decode b_L_law 757 = .ok (.iadd, 1) := by decide +kernel
theorem d_L_law_758 : decode b_L_law 758 = .ok (.iaload, 1) := by decide +kernel
theorem d_L_law_759 : decode b_L_law 759 = .ok (.i2l, 1) := by decide +kernel
theorem d_L_law_760 : decode b_L_law 760 = .ok (.ldc2_w 62, 3) := by decide +kernel
theorem d_L_law_763 : decode b_L_law 763 = .ok (.land, 1) := by decide +kernel
theorem d_L_law_764 : decode b_L_law 764 = .ok (.lor, 1) := by decide +kernel
theorem d_L_law_765 : decode b_L_law 765 = .ok (.aload_n 3, 1) := by decide +kernel
theorem d_L_law_766 : decode b_L_law 766 = .ok (.invokestatic 105, 3) := by decide +kernel
theorem d_L_law_769 : decode b_L_law 769 = .ok (.istore 5, 2) := by decide +kernel
theorem d_L_law_771 : decode b_L_law 771 = .ok (.aload_n 2, 1) := by decide +kernel
theorem d_L_law_772 : decode b_L_law 772 = .ok (.aload_n 0, 1) := by decide +kernel
theorem d_L_law_773 : decode b_L_law 773 = .ok (.iload 4, 2) := by decide +kernel
theorem d_L_law_775 : decode b_L_law 775 = .ok (.iconst (1), 1) := by decide +kernel
theorem d_L_law_776 : decode b_L_law 776 = .ok (.iadd, 1) := by decide +kernel
theorem d_L_law_777 : decode b_L_law 777 = .ok (.iaload, 1) := by decide +kernel
theorem d_L_law_778 : decode b_L_law 778 = .ok (.i2l, 1) := by decide +kernel
theorem d_L_law_779 : decode b_L_law 779 = .ok (.bipush (32), 2) := by decide +kernel
theorem d_L_law_781 : decode b_L_law 781 = .ok (.lshl, 1) := by decide +kernel
theorem d_L_law_782 : decode b_L_law 782 = .ok (.aload_n 0, 1) := by decide +kernel
theorem d_L_law_783 : decode b_L_law 783 = .ok (.iload 4, 2) := by decide +kernel
theorem d_L_law_785 : decode b_L_law 785 = .ok (.iconst (2), 1) := by decide +kernel
theorem d_L_law_786 : decode b_L_law 786 = .ok (.iadd, 1) := by decide +kernel
theorem d_L_law_787 : decode b_L_law 787 = .ok (.iaload, 1) := by decide +kernel
theorem d_L_law_788 : decode b_L_law 788 = .ok (.i2l, 1) := by decide +kernel
theorem d_L_law_789 : decode b_L_law 789 = .ok (.ldc2_w 62, 3) := by decide +kernel
theorem d_L_law_792 : decode b_L_law 792 = .ok (.land, 1) := by decide +kernel
theorem d_L_law_793 : decode b_L_law 793 = .ok (.lor, 1) := by decide +kernel
theorem d_L_law_794 : decode b_L_law 794 = .ok (.invokevirtual 107, 3) := by decide +kernel
theorem d_L_law_797 : decode b_L_law 797 = .ok (.istore 6, 2) := by decide +kernel
theorem d_L_law_799 : decode b_L_law 799 = .ok (.aload_n 2, 1) := by decide +kernel
theorem d_L_law_800 : decode b_L_law 800 = .ok (.invokevirtual 70, 3) := by decide +kernel
theorem d_L_law_803 : decode b_L_law 803 = .ok (.iload 5, 2) := by decide +kernel
theorem d_L_law_805 : decode b_L_law 805 = .ok (.if_icmp .eq (5), 3) := by decide +kernel
theorem d_L_law_808 : decode b_L_law 808 = .ok (.iconst (0), 1) := by decide +kernel
theorem d_L_law_809 : decode b_L_law 809 = .ok (.ireturn, 1) := by decide +kernel
theorem d_L_law_810 : decode b_L_law 810 = .ok (.iload 5, 2) := by decide +kernel
theorem d_L_law_812 : decode b_L_law 812 = .ok (.ifCond .ne (15), 3) := by decide +kernel
theorem d_L_law_815 : decode b_L_law 815 = .ok (.aload_n 3, 1) := by decide +kernel
theorem d_L_law_816 : decode b_L_law 816 = .ok (.iconst (0), 1) := by decide +kernel
theorem d_L_law_817 : decode b_L_law 817 = .ok (.laload, 1) := by decide +kernel
theorem d_L_law_818 : decode b_L_law 818 = .ok (.iload 6, 2) := by decide +kernel
theorem d_L_law_820 : decode b_L_law 820 = .ok (.i2l, 1) := by decide +kernel
theorem d_L_law_821 : decode b_L_law 821 = .ok (.lcmp, 1) := by decide +kernel
theorem d_L_law_822 : decode b_L_law 822 = .ok (.ifCond .eq (5), 3) := by decide +kernel
theorem d_L_law_825 : decode b_L_law 825 = .ok (.iconst (0), 1) := by decide +kernel
theorem d_L_law_826 : decode b_L_law 826 = .ok (.ireturn, 1) := by decide +kernel
theorem d_L_law_827 : decode b_L_law 827 = .ok (.goto (423), 3) := by decide +kernel
theorem d_L_law_830 : decode b_L_law 830 = .ok (.aload_n 1, 1) := by decide +kernel
theorem d_L_law_831 : decode b_L_law 831 = .ok (.invokevirtual 108, 3) := by decide +kernel
theorem d_L_law_834 : decode b_L_law 834 = .ok (.aload_n 2, 1) := by decide +kernel
theorem d_L_law_835 : decode b_L_law 835 = .ok (.invokevirtual 111, 3) := by decide +kernel
theorem d_L_law_838 : decode b_L_law 838 = .ok (.if_icmp .eq (412), 3) := by decide +kernel
theorem d_L_law_841 : decode b_L_law 841 = .ok (.iconst (0), 1) := by decide +kernel
theorem d_L_law_842 : decode b_L_law 842 = .ok (.ireturn, 1) := by decide +kernel
theorem d_L_law_843 : decode b_L_law 843 = .ok (.aload_n 1, 1) := by decide +kernel
theorem d_L_law_844 : decode b_L_law 844 = .ok (.aload_n 0, 1) := by decide +kernel
theorem d_L_law_845 : decode b_L_law 845 = .ok (.iload 4, 2) := by decide +kernel
theorem d_L_law_847 : decode b_L_law 847 = .ok (.iconst (1), 1) := by decide +kernel
theorem d_L_law_848 : decode b_L_law 848 = .ok (.iadd, 1) := by decide +kernel
theorem d_L_law_849 : decode b_L_law 849 = .ok (.iaload, 1) := by decide +kernel
theorem d_L_law_850 : decode b_L_law 850 = .ok (.aload_n 0, 1) := by decide +kernel
theorem d_L_law_851 : decode b_L_law 851 = .ok (.iload 4, 2) := by decide +kernel
theorem d_L_law_853 : decode b_L_law 853 = .ok (.iconst (2), 1) := by decide +kernel
theorem d_L_law_854 : decode b_L_law 854 = .ok (.iadd, 1) := by decide +kernel
theorem d_L_law_855 : decode b_L_law 855 = .ok (.iaload, 1) := by decide +kernel
theorem d_L_law_856 : decode b_L_law 856 = .ok (.aload_n 0, 1) := by decide +kernel
theorem d_L_law_857 : decode b_L_law 857 = .ok (.iload 4, 2) := by decide +kernel
theorem d_L_law_859 : decode b_L_law 859 = .ok (.iconst (3), 1) := by decide +kernel
theorem d_L_law_860 : decode b_L_law 860 = .ok (.iadd, 1) := by decide +kernel
theorem d_L_law_861 : decode b_L_law 861 = .ok (.iaload, 1) := by decide +kernel
theorem d_L_law_862 : decode b_L_law 862 = .ok (.aload_n 3, 1) := by decide +kernel
theorem d_L_law_863 : decode b_L_law 863 = .ok (.invokestatic 112, 3) := by decide +kernel
theorem d_L_law_866 : decode b_L_law 866 = .ok (.istore 5, 2) := by decide +kernel
theorem d_L_law_868 : decode b_L_law 868 = .ok (.aload_n 2, 1) := by decide +kernel
theorem d_L_law_869 : decode b_L_law 869 = .ok (.aload_n 0, 1) := by decide +kernel
theorem d_L_law_870 : decode b_L_law 870 = .ok (.iload 4, 2) := by decide +kernel
theorem d_L_law_872 : decode b_L_law 872 = .ok (.iconst (1), 1) := by decide +kernel
theorem d_L_law_873 : decode b_L_law 873 = .ok (.iadd, 1) := by decide +kernel
theorem d_L_law_874 : decode b_L_law 874 = .ok (.iaload, 1) := by decide +kernel
theorem d_L_law_875 : decode b_L_law 875 = .ok (.aload_n 0, 1) := by decide +kernel
theorem d_L_law_876 : decode b_L_law 876 = .ok (.iload 4, 2) := by decide +kernel
theorem d_L_law_878 : decode b_L_law 878 = .ok (.iconst (2), 1) := by decide +kernel
theorem d_L_law_879 : decode b_L_law 879 = .ok (.iadd, 1) := by decide +kernel
theorem d_L_law_880 : decode b_L_law 880 = .ok (.iaload, 1) := by decide +kernel
theorem d_L_law_881 : decode b_L_law 881 = .ok (.aload_n 0, 1) := by decide +kernel
theorem d_L_law_882 : decode b_L_law 882 = .ok (.iload 4, 2) := by decide +kernel
theorem d_L_law_884 : decode b_L_law 884 = .ok (.iconst (3), 1) := by decide +kernel
theorem d_L_law_885 : decode b_L_law 885 = .ok (.iadd, 1) := by decide +kernel
theorem d_L_law_886 : decode b_L_law 886 = .ok (.iaload, 1) := by decide +kernel
theorem d_L_law_887 : decode b_L_law 887 = .ok (.invokevirtual 115, 3) := by decide +kernel
theorem d_L_law_890 : decode b_L_law 890 = .ok (.istore 6, 2) := by decide +kernel
theorem d_L_law_892 : decode b_L_law 892 = .ok (.aload_n 2, 1) := by decide +kernel
theorem d_L_law_893 : decode b_L_law 893 = .ok (.invokevirtual 70, 3) := by decide +kernel
theorem d_L_law_896 : decode b_L_law 896 = .ok (.iload 5, 2) := by decide +kernel
theorem d_L_law_898 : decode b_L_law 898 = .ok (.if_icmp .eq (5), 3) := by decide +kernel
theorem d_L_law_901 : decode b_L_law 901 = .ok (.iconst (0), 1) := by decide +kernel
theorem d_L_law_902 : decode b_L_law 902 = .ok (.ireturn, 1) := by decide +kernel
theorem d_L_law_903 : decode b_L_law 903 = .ok (.iload 5, 2) := by decide +kernel
theorem d_L_law_905 : decode b_L_law 905 = .ok (.ifCond .ne (15), 3) := by decide +kernel
theorem d_L_law_908 : decode b_L_law 908 = .ok (.aload_n 3, 1) := by decide +kernel
theorem d_L_law_909 : decode b_L_law 909 = .ok (.iconst (0), 1) := by decide +kernel
theorem d_L_law_910 : decode b_L_law 910 = .ok (.laload, 1) := by decide +kernel
theorem d_L_law_911 : decode b_L_law 911 = .ok (.iload 6, 2) := by decide +kernel
theorem d_L_law_913 : decode b_L_law 913 = .ok (.i2l, 1) := by decide +kernel
theorem d_L_law_914 : decode b_L_law 914 = .ok (.lcmp, 1) := by decide +kernel
theorem d_L_law_915 : decode b_L_law 915 = .ok (.ifCond .eq (5), 3) := by decide +kernel
theorem d_L_law_918 : decode b_L_law 918 = .ok (.iconst (0), 1) := by decide +kernel
theorem d_L_law_919 : decode b_L_law 919 = .ok (.ireturn, 1) := by decide +kernel
theorem d_L_law_920 : decode b_L_law 920 = .ok (.goto (330), 3) := by decide +kernel
theorem d_L_law_923 : decode b_L_law 923 = .ok (.aload_n 1, 1) := by decide +kernel
theorem d_L_law_924 : decode b_L_law 924 = .ok (.aload_n 0, 1) := by decide +kernel
theorem d_L_law_925 : decode b_L_law 925 = .ok (.iload 4, 2) := by decide +kernel
theorem d_L_law_927 : decode b_L_law 927 = .ok (.iconst (1), 1) := by decide +kernel
theorem d_L_law_928 : decode b_L_law 928 = .ok (.iadd, 1) := by decide +kernel
theorem d_L_law_929 : decode b_L_law 929 = .ok (.iaload, 1) := by decide +kernel
theorem d_L_law_930 : decode b_L_law 930 = .ok (.aload_n 3, 1) := by decide +kernel
theorem d_L_law_931 : decode b_L_law 931 = .ok (.invokestatic 116, 3) := by decide +kernel
theorem d_L_law_934 : decode b_L_law 934 = .ok (.istore 5, 2) := by decide +kernel
theorem d_L_law_936 : decode b_L_law 936 = .ok (.aload_n 2, 1) := by decide +kernel
theorem d_L_law_937 : decode b_L_law 937 = .ok (.aload_n 0, 1) := by decide +kernel
theorem d_L_law_938 : decode b_L_law 938 = .ok (.iload 4, 2) := by decide +kernel
theorem d_L_law_940 : decode b_L_law 940 = .ok (.iconst (1), 1) := by decide +kernel
theorem d_L_law_941 : decode b_L_law 941 = .ok (.iadd, 1) := by decide +kernel
theorem d_L_law_942 : decode b_L_law 942 = .ok (.iaload, 1) := by decide +kernel
theorem d_L_law_943 : decode b_L_law 943 = .ok (.invokevirtual 119, 3) := by decide +kernel
theorem d_L_law_946 : decode b_L_law 946 = .ok (.istore 6, 2) := by decide +kernel
theorem d_L_law_948 : decode b_L_law 948 = .ok (.aload_n 2, 1) := by decide +kernel
theorem d_L_law_949 : decode b_L_law 949 = .ok (.invokevirtual 70, 3) := by decide +kernel
theorem d_L_law_952 : decode b_L_law 952 = .ok (.iload 5, 2) := by decide +kernel
theorem d_L_law_954 : decode b_L_law 954 = .ok (.if_icmp .eq (5), 3) := by decide +kernel
theorem d_L_law_957 : decode b_L_law 957 = .ok (.iconst (0), 1) := by decide +kernel
theorem d_L_law_958 : decode b_L_law 958 = .ok (.ireturn, 1) := by decide +kernel
theorem d_L_law_959 : decode b_L_law 959 = .ok (.iload 5, 2) := by decide +kernel
theorem d_L_law_961 : decode b_L_law 961 = .ok (.ifCond .ne (15), 3) := by decide +kernel
theorem d_L_law_964 : decode b_L_law 964 = .ok (.aload_n 3, 1) := by decide +kernel
theorem d_L_law_965 : decode b_L_law 965 = .ok (.iconst (0), 1) := by decide +kernel
theorem d_L_law_966 : decode b_L_law 966 = .ok (.laload, 1) := by decide +kernel
theorem d_L_law_967 : decode b_L_law 967 = .ok (.iload 6, 2) := by decide +kernel
theorem d_L_law_969 : decode b_L_law 969 = .ok (.i2l, 1) := by decide +kernel
theorem d_L_law_970 : decode b_L_law 970 = .ok (.lcmp, 1) := by decide +kernel
theorem d_L_law_971 : decode b_L_law 971 = .ok (.ifCond .eq (5), 3) := by decide +kernel
theorem d_L_law_974 : decode b_L_law 974 = .ok (.iconst (0), 1) := by decide +kernel
theorem d_L_law_975 : decode b_L_law 975 = .ok (.ireturn, 1) := by decide +kernel
theorem d_L_law_976 : decode b_L_law 976 = .ok (.goto (274), 3) := by decide +kernel
theorem d_L_law_979 : decode b_L_law 979 = .ok (.aload_n 1, 1) := by decide +kernel
theorem d_L_law_980 : decode b_L_law 980 = .ok (.aload_n 0, 1) := by decide +kernel
theorem d_L_law_981 : decode b_L_law 981 = .ok (.iload 4, 2) := by decide +kernel
theorem d_L_law_983 : decode b_L_law 983 = .ok (.iconst (1), 1) := by decide +kernel
theorem d_L_law_984 : decode b_L_law 984 = .ok (.iadd, 1) := by decide +kernel
theorem d_L_law_985 : decode b_L_law 985 = .ok (.iaload, 1) := by decide +kernel
theorem d_L_law_986 : decode b_L_law 986 = .ok (.aload_n 0, 1) := by decide +kernel
theorem d_L_law_987 : decode b_L_law 987 = .ok (.iload 4, 2) := by decide +kernel
theorem d_L_law_989 : decode b_L_law 989 = .ok (.iconst (2), 1) := by decide +kernel
theorem d_L_law_990 : decode b_L_law 990 = .ok (.iadd, 1) := by decide +kernel
theorem d_L_law_991 : decode b_L_law 991 = .ok (.iaload, 1) := by decide +kernel
theorem d_L_law_992 : decode b_L_law 992 = .ok (.aload_n 3, 1) := by decide +kernel
theorem d_L_law_993 : decode b_L_law 993 = .ok (.invokestatic 120, 3) := by decide +kernel
theorem d_L_law_996 : decode b_L_law 996 = .ok (.istore 5, 2) := by decide +kernel
theorem d_L_law_998 : decode b_L_law 998 = .ok (.aload_n 2, 1) := by decide +kernel
theorem d_L_law_999 : decode b_L_law 999 = .ok (.aload_n 0, 1) := by decide +kernel
theorem d_L_law_1000 : decode b_L_law 1000 = .ok (.iload 4, 2) := by decide +kernel
theorem d_L_law_1002 : decode b_L_law 1002 = .ok (.iconst (1), 1) := by decide +kernel
theorem d_L_law_1003 : decode b_L_law 1003 = .ok (.iadd, 1) := by decide +kernel
theorem d_L_law_1004 : decode b_L_law 1004 = .ok (.iaload, 1) := by decide +kernel
theorem d_L_law_1005 : decode b_L_law 1005 = .ok (.aload_n 0, 1) := by decide +kernel
theorem d_L_law_1006 : decode b_L_law 1006 = .ok (.iload 4, 2) := by decide +kernel
theorem d_L_law_1008 : decode b_L_law 1008 = .ok (.iconst (2), 1) := by decide +kernel
theorem d_L_law_1009 : decode b_L_law 1009 = .ok (.iadd, 1) := by decide +kernel
theorem d_L_law_1010 : decode b_L_law 1010 = .ok (.iaload, 1) := by decide +kernel
theorem d_L_law_1011 : decode b_L_law 1011 = .ok (.invokevirtual 123, 3) := by decide +kernel
theorem d_L_law_1014 : decode b_L_law 1014 = .ok (.istore 6, 2) := by decide +kernel
theorem d_L_law_1016 : decode b_L_law 1016 = .ok (.aload_n 2, 1) := by decide +kernel
theorem d_L_law_1017 : decode b_L_law 1017 = .ok (.invokevirtual 70, 3) := by decide +kernel
theorem d_L_law_1020 : decode b_L_law 1020 = .ok (.iload 5, 2) := by decide +kernel
theorem d_L_law_1022 : decode b_L_law 1022 = .ok (.if_icmp .eq (5), 3) := by decide +kernel
theorem d_L_law_1025 : decode b_L_law 1025 = .ok (.iconst (0), 1) := by decide +kernel
theorem d_L_law_1026 : decode b_L_law 1026 = .ok (.ireturn, 1) := by decide +kernel
theorem d_L_law_1027 : decode b_L_law 1027 = .ok (.iload 5, 2) := by decide +kernel
theorem d_L_law_1029 : decode b_L_law 1029 = .ok (.ifCond .ne (15), 3) := by decide +kernel
theorem d_L_law_1032 : decode b_L_law 1032 = .ok (.aload_n 3, 1) := by decide +kernel
theorem d_L_law_1033 : decode b_L_law 1033 = .ok (.iconst (0), 1) := by decide +kernel
theorem d_L_law_1034 : decode b_L_law 1034 = .ok (.laload, 1) := by decide +kernel
theorem d_L_law_1035 : decode b_L_law 1035 = .ok (.iload 6, 2) := by decide +kernel
theorem d_L_law_1037 : decode b_L_law 1037 = .ok (.i2l, 1) := by decide +kernel
theorem d_L_law_1038 : decode b_L_law 1038 = .ok (.lcmp, 1) := by decide +kernel
theorem d_L_law_1039 : decode b_L_law 1039 = .ok (.ifCond .eq (5), 3) := by decide +kernel
theorem d_L_law_1042 : decode b_L_law 1042 = .ok (.iconst (0), 1) := by decide +kernel
theorem d_L_law_1043 : decode b_L_law 1043 = .ok (.ireturn, 1) := by decide +kernel
theorem d_L_law_1044 : decode b_L_law 1044 = .ok (.goto (206), 3) := by decide +kernel
theorem d_L_law_1047 : decode b_L_law 1047 = .ok (.aload_n 1, 1) := by decide +kernel
theorem d_L_law_1048 : decode b_L_law 1048 = .ok (.aload_n 0, 1) := by decide +kernel
theorem d_L_law_1049 : decode b_L_law 1049 = .ok (.iload 4, 2) := by decide +kernel
theorem d_L_law_1051 : decode b_L_law 1051 = .ok (.iconst (1), 1) := by decide +kernel
theorem d_L_law_1052 : decode b_L_law 1052 = .ok (.iadd, 1) := by decide +kernel
theorem d_L_law_1053 : decode b_L_law 1053 = .ok (.iaload, 1) := by decide +kernel
theorem d_L_law_1054 : decode b_L_law 1054 = .ok (.aload_n 0, 1) := by decide +kernel
theorem d_L_law_1055 : decode b_L_law 1055 = .ok (.iload 4, 2) := by decide +kernel
theorem d_L_law_1057 : decode b_L_law 1057 = .ok (.iconst (2), 1) := by decide +kernel
theorem d_L_law_1058 : decode b_L_law 1058 = .ok (.iadd, 1) := by decide +kernel
theorem d_L_law_1059 : decode b_L_law 1059 = .ok (.iaload, 1) := by decide +kernel
theorem d_L_law_1060 : decode b_L_law 1060 = .ok (.aload_n 3, 1) := by decide +kernel
theorem d_L_law_1061 : decode b_L_law 1061 = .ok (.invokestatic 124, 3) := by decide +kernel
theorem d_L_law_1064 : decode b_L_law 1064 = .ok (.istore 5, 2) := by decide +kernel
theorem d_L_law_1066 : decode b_L_law 1066 = .ok (.aload_n 2, 1) := by decide +kernel
theorem d_L_law_1067 : decode b_L_law 1067 = .ok (.aload_n 0, 1) := by decide +kernel
theorem d_L_law_1068 : decode b_L_law 1068 = .ok (.iload 4, 2) := by decide +kernel
theorem d_L_law_1070 : decode b_L_law 1070 = .ok (.iconst (1), 1) := by decide +kernel
theorem d_L_law_1071 : decode b_L_law 1071 = .ok (.iadd, 1) := by decide +kernel
theorem d_L_law_1072 : decode b_L_law 1072 = .ok (.iaload, 1) := by decide +kernel
theorem d_L_law_1073 : decode b_L_law 1073 = .ok (.aload_n 0, 1) := by decide +kernel
theorem d_L_law_1074 : decode b_L_law 1074 = .ok (.iload 4, 2) := by decide +kernel
theorem d_L_law_1076 : decode b_L_law 1076 = .ok (.iconst (2), 1) := by decide +kernel
theorem d_L_law_1077 : decode b_L_law 1077 = .ok (.iadd, 1) := by decide +kernel
theorem d_L_law_1078 : decode b_L_law 1078 = .ok (.iaload, 1) := by decide +kernel
theorem d_L_law_1079 : decode b_L_law 1079 = .ok (.invokevirtual 126, 3) := by decide +kernel
theorem d_L_law_1082 : decode b_L_law 1082 = .ok (.lstore 6, 2) := by decide +kernel
theorem d_L_law_1084 : decode b_L_law 1084 = .ok (.aload_n 2, 1) := by decide +kernel
theorem d_L_law_1085 : decode b_L_law 1085 = .ok (.invokevirtual 70, 3) := by decide +kernel
theorem d_L_law_1088 : decode b_L_law 1088 = .ok (.iload 5, 2) := by decide +kernel
theorem d_L_law_1090 : decode b_L_law 1090 = .ok (.if_icmp .eq (5), 3) := by decide +kernel
theorem d_L_law_1093 : decode b_L_law 1093 = .ok (.iconst (0), 1) := by decide +kernel
theorem d_L_law_1094 : decode b_L_law 1094 = .ok (.ireturn, 1) := by decide +kernel
theorem d_L_law_1095 : decode b_L_law 1095 = .ok (.iload 5, 2) := by decide +kernel
theorem d_L_law_1097 : decode b_L_law 1097 = .ok (.ifCond .ne (14), 3) := by decide +kernel
theorem d_L_law_1100 : decode b_L_law 1100 = .ok (.aload_n 3, 1) := by decide +kernel
theorem d_L_law_1101 : decode b_L_law 1101 = .ok (.iconst (0), 1) := by decide +kernel
theorem d_L_law_1102 : decode b_L_law 1102 = .ok (.laload, 1) := by decide +kernel
theorem d_L_law_1103 : decode b_L_law 1103 = .ok (.lload 6, 2) := by decide +kernel
theorem d_L_law_1105 : decode b_L_law 1105 = .ok (.lcmp, 1) := by decide +kernel
theorem d_L_law_1106 : decode b_L_law 1106 = .ok (.ifCond .eq (5), 3) := by decide +kernel
theorem d_L_law_1109 : decode b_L_law 1109 = .ok (.iconst (0), 1) := by decide +kernel
theorem d_L_law_1110 : decode b_L_law 1110 = .ok (.ireturn, 1) := by decide +kernel
theorem d_L_law_1111 : decode b_L_law 1111 = .ok (.goto (139), 3) := by decide +kernel
theorem d_L_law_1114 : decode b_L_law 1114 = .ok (.aload_n 1, 1) := by decide +kernel
theorem d_L_law_1115 : decode b_L_law 1115 = .ok (.aload_n 0, 1) := by decide +kernel
theorem d_L_law_1116 : decode b_L_law 1116 = .ok (.iload 4, 2) := by decide +kernel
theorem d_L_law_1118 : decode b_L_law 1118 = .ok (.iconst (1), 1) := by decide +kernel
theorem d_L_law_1119 : decode b_L_law 1119 = .ok (.iadd, 1) := by decide +kernel
theorem d_L_law_1120 : decode b_L_law 1120 = .ok (.iaload, 1) := by decide +kernel
theorem d_L_law_1121 : decode b_L_law 1121 = .ok (.aload_n 0, 1) := by decide +kernel
theorem d_L_law_1122 : decode b_L_law 1122 = .ok (.iload 4, 2) := by decide +kernel
theorem d_L_law_1124 : decode b_L_law 1124 = .ok (.iconst (2), 1) := by decide +kernel
theorem d_L_law_1125 : decode b_L_law 1125 = .ok (.iadd, 1) := by decide +kernel
theorem d_L_law_1126 : decode b_L_law 1126 = .ok (.iaload, 1) := by decide +kernel
theorem d_L_law_1127 : decode b_L_law 1127 = .ok (.aload_n 3, 1) := by decide +kernel
theorem d_L_law_1128 : decode b_L_law 1128 = .ok (.invokestatic 127, 3) := by decide +kernel
theorem d_L_law_1131 : decode b_L_law 1131 = .ok (.istore 5, 2) := by decide +kernel
theorem d_L_law_1133 : decode b_L_law 1133 = .ok (.aload_n 2, 1) := by decide +kernel
theorem d_L_law_1134 : decode b_L_law 1134 = .ok (.aload_n 0, 1) := by decide +kernel
theorem d_L_law_1135 : decode b_L_law 1135 = .ok (.iload 4, 2) := by decide +kernel
theorem d_L_law_1137 : decode b_L_law 1137 = .ok (.iconst (1), 1) := by decide +kernel
theorem d_L_law_1138 : decode b_L_law 1138 = .ok (.iadd, 1) := by decide +kernel
theorem d_L_law_1139 : decode b_L_law 1139 = .ok (.iaload, 1) := by decide +kernel
theorem d_L_law_1140 : decode b_L_law 1140 = .ok (.aload_n 0, 1) := by decide +kernel
theorem d_L_law_1141 : decode b_L_law 1141 = .ok (.iload 4, 2) := by decide +kernel
theorem d_L_law_1143 : decode b_L_law 1143 = .ok (.iconst (2), 1) := by decide +kernel
theorem d_L_law_1144 : decode b_L_law 1144 = .ok (.iadd, 1) := by decide +kernel
theorem d_L_law_1145 : decode b_L_law 1145 = .ok (.iaload, 1) := by decide +kernel
theorem d_L_law_1146 : decode b_L_law 1146 = .ok (.invokevirtual 129, 3) := by decide +kernel
theorem d_L_law_1149 : decode b_L_law 1149 = .ok (.istore 6, 2) := by decide +kernel
theorem d_L_law_1151 : decode b_L_law 1151 = .ok (.aload_n 2, 1) := by decide +kernel
theorem d_L_law_1152 : decode b_L_law 1152 = .ok (.invokevirtual 70, 3) := by decide +kernel
theorem d_L_law_1155 : decode b_L_law 1155 = .ok (.iload 5, 2) := by decide +kernel
theorem d_L_law_1157 : decode b_L_law 1157 = .ok (.if_icmp .eq (5), 3) := by decide +kernel
theorem d_L_law_1160 : decode b_L_law 1160 = .ok (.iconst (0), 1) := by decide +kernel
theorem d_L_law_1161 : decode b_L_law 1161 = .ok (.ireturn, 1) := by decide +kernel
theorem d_L_law_1162 : decode b_L_law 1162 = .ok (.iload 5, 2) := by decide +kernel
theorem d_L_law_1164 : decode b_L_law 1164 = .ok (.ifCond .ne (15), 3) := by decide +kernel
theorem d_L_law_1167 : decode b_L_law 1167 = .ok (.aload_n 3, 1) := by decide +kernel
theorem d_L_law_1168 : decode b_L_law 1168 = .ok (.iconst (0), 1) := by decide +kernel
theorem d_L_law_1169 : decode b_L_law 1169 = .ok (.laload, 1) := by decide +kernel
theorem d_L_law_1170 : decode b_L_law 1170 = .ok (.iload 6, 2) := by decide +kernel
theorem d_L_law_1172 : decode b_L_law 1172 = .ok (.i2l, 1) := by decide +kernel
theorem d_L_law_1173 : decode b_L_law 1173 = .ok (.lcmp, 1) := by decide +kernel
theorem d_L_law_1174 : decode b_L_law 1174 = .ok (.ifCond .eq (5), 3) := by decide +kernel
theorem d_L_law_1177 : decode b_L_law 1177 = .ok (.iconst (0), 1) := by decide +kernel
theorem d_L_law_1178 : decode b_L_law 1178 = .ok (.ireturn, 1) := by decide +kernel
theorem d_L_law_1179 : decode b_L_law 1179 = .ok (.goto (71), 3) := by decide +kernel
theorem d_L_law_1182 : decode b_L_law 1182 = .ok (.aload_n 1, 1) := by decide +kernel
theorem d_L_law_1183 : decode b_L_law 1183 = .ok (.aload_n 0, 1) := by decide +kernel
theorem d_L_law_1184 : decode b_L_law 1184 = .ok (.iload 4, 2) := by decide +kernel
theorem d_L_law_1186 : decode b_L_law 1186 = .ok (.iconst (1), 1) := by decide +kernel
theorem d_L_law_1187 : decode b_L_law 1187 = .ok (.iadd, 1) := by decide +kernel
theorem d_L_law_1188 : decode b_L_law 1188 = .ok (.iaload, 1) := by decide +kernel
theorem d_L_law_1189 : decode b_L_law 1189 = .ok (.aload_n 0, 1) := by decide +kernel
theorem d_L_law_1190 : decode b_L_law 1190 = .ok (.iload 4, 2) := by decide +kernel
theorem d_L_law_1192 : decode b_L_law 1192 = .ok (.iconst (2), 1) := by decide +kernel
theorem d_L_law_1193 : decode b_L_law 1193 = .ok (.iadd, 1) := by decide +kernel
theorem d_L_law_1194 : decode b_L_law 1194 = .ok (.iaload, 1) := by decide +kernel
theorem d_L_law_1195 : decode b_L_law 1195 = .ok (.aload_n 3, 1) := by decide +kernel
theorem d_L_law_1196 : decode b_L_law 1196 = .ok (.invokestatic 130, 3) := by decide +kernel
theorem d_L_law_1199 : decode b_L_law 1199 = .ok (.istore 5, 2) := by decide +kernel
theorem d_L_law_1201 : decode b_L_law 1201 = .ok (.aload_n 2, 1) := by decide +kernel
theorem d_L_law_1202 : decode b_L_law 1202 = .ok (.aload_n 0, 1) := by decide +kernel
theorem d_L_law_1203 : decode b_L_law 1203 = .ok (.iload 4, 2) := by decide +kernel
theorem d_L_law_1205 : decode b_L_law 1205 = .ok (.iconst (1), 1) := by decide +kernel
theorem d_L_law_1206 : decode b_L_law 1206 = .ok (.iadd, 1) := by decide +kernel
theorem d_L_law_1207 : decode b_L_law 1207 = .ok (.iaload, 1) := by decide +kernel
theorem d_L_law_1208 : decode b_L_law 1208 = .ok (.aload_n 0, 1) := by decide +kernel
theorem d_L_law_1209 : decode b_L_law 1209 = .ok (.iload 4, 2) := by decide +kernel
end
section
theorem d_L_law_1211 : decode b_L_law 1211 = .ok (.iconst (2), 1) := by decide +kernel
theorem d_L_law_1212 : decode b_L_law 1212 = .ok (.iadd, 1) := by decide +kernel
theorem d_L_law_1213 : decode b_L_law 1213 = .ok (.iaload, 1) := by decide +kernel
theorem d_L_law_1214 : decode b_L_law 1214 = .ok (.invokevirtual 132, 3) := by decide +kernel
theorem d_L_law_1217 : decode b_L_law 1217 = .ok (.istore 6, 2) := by decide +kernel
theorem d_L_law_1219 : decode b_L_law 1219 = .ok (.aload_n 2, 1) := by decide +kernel
theorem d_L_law_1220 : decode b_L_law 1220 = .ok (.invokevirtual 70, 3) := by decide +kernel
theorem d_L_law_1223 : decode b_L_law 1223 = .ok (.iload 5, 2) := by decide +kernel
theorem d_L_law_1225 : decode b_L_law 1225 = .ok (.if_icmp .eq (5), 3) := by decide +kernel
theorem d_L_law_1228 : decode b_L_law 1228 = .ok (.iconst (0), 1) := by decide +kernel
theorem d_L_law_1229 : decode b_L_law 1229 = .ok (.ireturn, 1) := by decide +kernel
theorem d_L_law_1230 : decode b_L_law 1230 = .ok (.iload 5, 2) := by decide +kernel
theorem d_L_law_1232 : decode b_L_law 1232 = .ok (.ifCond .ne (15), 3) := by decide +kernel
theorem d_L_law_1235 : decode b_L_law 1235 = .ok (.aload_n 3, 1) := by decide +kernel
theorem d_L_law_1236 : decode b_L_law 1236 = .ok (.iconst (0), 1) := by decide +kernel
theorem d_L_law_1237 : decode b_L_law 1237 = .ok (.laload, 1) := by decide +kernel
theorem d_L_law_1238 : decode b_L_law 1238 = .ok (.iload 6, 2) := by decide +kernel
theorem d_L_law_1240 : decode b_L_law 1240 = .ok (.i2l, 1) := by decide +kernel
theorem d_L_law_1241 : decode b_L_law 1241 = .ok (.lcmp, 1) := by decide +kernel
theorem d_L_law_1242 : decode b_L_law 1242 = .ok (.ifCond .eq (5), 3) := by decide +kernel
theorem d_L_law_1245 : decode b_L_law 1245 = .ok (.iconst (0), 1) := by decide +kernel
theorem d_L_law_1246 : decode b_L_law 1246 = .ok (.ireturn, 1) := by decide +kernel
theorem d_L_law_1247 : decode b_L_law 1247 = .ok (.goto (3), 3) := by decide +kernel
theorem d_L_law_1250 : decode b_L_law 1250 = .ok (.iinc 4 (5), 3) := by decide +kernel
theorem d_L_law_1253 : decode b_L_law 1253 = .ok (.goto (-1230), 3) := by decide +kernel
theorem d_L_law_1256 : decode b_L_law 1256 = .ok (.iconst (1), 1) := by decide +kernel
theorem d_L_law_1257 : decode b_L_law 1257 = .ok (.ireturn, 1) := by decide +kernel
theorem d_JI_numberOfLeadingZeros_0 : decode b_JI_numberOfLeadingZeros 0 = .ok (.iload_n 0, 1) := by decide +kernel
theorem d_JI_numberOfLeadingZeros_1 : decode b_JI_numberOfLeadingZeros 1 = .ok (.ifCond .gt (14), 3) := by decide +kernel
theorem d_JI_numberOfLeadingZeros_4 : decode b_JI_numberOfLeadingZeros 4 = .ok (.iload_n 0, 1) := by decide +kernel
theorem d_JI_numberOfLeadingZeros_5 : decode b_JI_numberOfLeadingZeros 5 = .ok (.ifCond .ne (8), 3) := by decide +kernel
theorem d_JI_numberOfLeadingZeros_8 : decode b_JI_numberOfLeadingZeros 8 = .ok (.bipush (32), 2) := by decide +kernel
theorem d_JI_numberOfLeadingZeros_10 : decode b_JI_numberOfLeadingZeros 10 = .ok (.goto (4), 3) := by decide +kernel
theorem d_JI_numberOfLeadingZeros_13 : decode b_JI_numberOfLeadingZeros 13 = .ok (.iconst (0), 1) := by decide +kernel
theorem d_JI_numberOfLeadingZeros_14 : decode b_JI_numberOfLeadingZeros 14 = .ok (.ireturn, 1) := by decide +kernel
theorem d_JI_numberOfLeadingZeros_15 : decode b_JI_numberOfLeadingZeros 15 = .ok (.bipush (31), 2) := by decide +kernel
theorem d_JI_numberOfLeadingZeros_17 : decode b_JI_numberOfLeadingZeros 17 = .ok (.istore_n 1, 1) := by decide +kernel
theorem d_JI_numberOfLeadingZeros_18 : decode b_JI_numberOfLeadingZeros 18 = .ok (.iload_n 0, 1) := by decide +kernel
theorem d_JI_numberOfLeadingZeros_19 : decode b_JI_numberOfLeadingZeros 19 = .ok (.ldc_w 264, 3) := by decide +kernel
theorem d_JI_numberOfLeadingZeros_22 : decode b_JI_numberOfLeadingZeros 22 = .ok (.if_icmp .lt (11), 3) := by decide +kernel
theorem d_JI_numberOfLeadingZeros_25 : decode b_JI_numberOfLeadingZeros 25 = .ok (.iinc 1 (-16), 3) := by decide +kernel
theorem d_JI_numberOfLeadingZeros_28 : decode b_JI_numberOfLeadingZeros 28 = .ok (.iload_n 0, 1) := by decide +kernel
theorem d_JI_numberOfLeadingZeros_29 : decode b_JI_numberOfLeadingZeros 29 = .ok (.bipush (16), 2) := by decide +kernel
theorem d_JI_numberOfLeadingZeros_31 : decode b_JI_numberOfLeadingZeros 31 = .ok (.iushr, 1) := by decide +kernel
theorem d_JI_numberOfLeadingZeros_32 : decode b_JI_numberOfLeadingZeros 32 = .ok (.istore_n 0, 1) := by decide +kernel
theorem d_JI_numberOfLeadingZeros_33 : decode b_JI_numberOfLeadingZeros 33 = .ok (.iload_n 0, 1) := by decide +kernel
theorem d_JI_numberOfLeadingZeros_34 : decode b_JI_numberOfLeadingZeros 34 = .ok (.sipush (256), 3) := by decide +kernel
theorem d_JI_numberOfLeadingZeros_37 : decode b_JI_numberOfLeadingZeros 37 = .ok (.if_icmp .lt (11), 3) := by decide +kernel
theorem d_JI_numberOfLeadingZeros_40 : decode b_JI_numberOfLeadingZeros 40 = .ok (.iinc 1 (-8), 3) := by decide +kernel
theorem d_JI_numberOfLeadingZeros_43 : decode b_JI_numberOfLeadingZeros 43 = .ok (.iload_n 0, 1) := by decide +kernel
theorem d_JI_numberOfLeadingZeros_44 : decode b_JI_numberOfLeadingZeros 44 = .ok (.bipush (8), 2) := by decide +kernel
theorem d_JI_numberOfLeadingZeros_46 : decode b_JI_numberOfLeadingZeros 46 = .ok (.iushr, 1) := by decide +kernel
theorem d_JI_numberOfLeadingZeros_47 : decode b_JI_numberOfLeadingZeros 47 = .ok (.istore_n 0, 1) := by decide +kernel
theorem d_JI_numberOfLeadingZeros_48 : decode b_JI_numberOfLeadingZeros 48 = .ok (.iload_n 0, 1) := by decide +kernel
theorem d_JI_numberOfLeadingZeros_49 : decode b_JI_numberOfLeadingZeros 49 = .ok (.bipush (16), 2) := by decide +kernel
theorem d_JI_numberOfLeadingZeros_51 : decode b_JI_numberOfLeadingZeros 51 = .ok (.if_icmp .lt (10), 3) := by decide +kernel
theorem d_JI_numberOfLeadingZeros_54 : decode b_JI_numberOfLeadingZeros 54 = .ok (.iinc 1 (-4), 3) := by decide +kernel
theorem d_JI_numberOfLeadingZeros_57 : decode b_JI_numberOfLeadingZeros 57 = .ok (.iload_n 0, 1) := by decide +kernel
theorem d_JI_numberOfLeadingZeros_58 : decode b_JI_numberOfLeadingZeros 58 = .ok (.iconst (4), 1) := by decide +kernel
theorem d_JI_numberOfLeadingZeros_59 : decode b_JI_numberOfLeadingZeros 59 = .ok (.iushr, 1) := by decide +kernel
theorem d_JI_numberOfLeadingZeros_60 : decode b_JI_numberOfLeadingZeros 60 = .ok (.istore_n 0, 1) := by decide +kernel
theorem d_JI_numberOfLeadingZeros_61 : decode b_JI_numberOfLeadingZeros 61 = .ok (.iload_n 0, 1) := by decide +kernel
theorem d_JI_numberOfLeadingZeros_62 : decode b_JI_numberOfLeadingZeros 62 = .ok (.iconst (4), 1) := by decide +kernel
theorem d_JI_numberOfLeadingZeros_63 : decode b_JI_numberOfLeadingZeros 63 = .ok (.if_icmp .lt (10), 3) := by decide +kernel
theorem d_JI_numberOfLeadingZeros_66 : decode b_JI_numberOfLeadingZeros 66 = .ok (.iinc 1 (-2), 3) := by decide +kernel
theorem d_JI_numberOfLeadingZeros_69 : decode b_JI_numberOfLeadingZeros 69 = .ok (.iload_n 0, 1) := by decide +kernel
theorem d_JI_numberOfLeadingZeros_70 : decode b_JI_numberOfLeadingZeros 70 = .ok (.iconst (2), 1) := by decide +kernel
theorem d_JI_numberOfLeadingZeros_71 : decode b_JI_numberOfLeadingZeros 71 = .ok (.iushr, 1) := by decide +kernel
theorem d_JI_numberOfLeadingZeros_72 : decode b_JI_numberOfLeadingZeros 72 = .ok (.istore_n 0, 1) := by decide +kernel
theorem d_JI_numberOfLeadingZeros_73 : decode b_JI_numberOfLeadingZeros 73 = .ok (.iload_n 1, 1) := by decide +kernel
theorem d_JI_numberOfLeadingZeros_74 : decode b_JI_numberOfLeadingZeros 74 = .ok (.iload_n 0, 1) := by decide +kernel
theorem d_JI_numberOfLeadingZeros_75 : decode b_JI_numberOfLeadingZeros 75 = .ok (.iconst (1), 1) := by decide +kernel
theorem d_JI_numberOfLeadingZeros_76 : decode b_JI_numberOfLeadingZeros 76 = .ok (.iushr, 1) := by decide +kernel
theorem d_JI_numberOfLeadingZeros_77 : decode b_JI_numberOfLeadingZeros 77 = .ok (.isub, 1) := by decide +kernel
theorem d_JI_numberOfLeadingZeros_78 : decode b_JI_numberOfLeadingZeros 78 = .ok (.ireturn, 1) := by decide +kernel
theorem d_JI_numberOfTrailingZeros_0 : decode b_JI_numberOfTrailingZeros 0 = .ok (.iload_n 0, 1) := by decide +kernel
theorem d_JI_numberOfTrailingZeros_1 : decode b_JI_numberOfTrailingZeros 1 = .ok (.iconst (-1), 1) := by decide +kernel
theorem d_JI_numberOfTrailingZeros_2 : decode b_JI_numberOfTrailingZeros 2 = .ok (.ixor, 1) := by decide +kernel
theorem d_JI_numberOfTrailingZeros_3 : decode b_JI_numberOfTrailingZeros 3 = .ok (.iload_n 0, 1) := by decide +kernel
theorem d_JI_numberOfTrailingZeros_4 : decode b_JI_numberOfTrailingZeros 4 = .ok (.iconst (1), 1) := by decide +kernel
theorem d_JI_numberOfTrailingZeros_5 : decode b_JI_numberOfTrailingZeros 5 = .ok (.isub, 1) := by decide +kernel
theorem d_JI_numberOfTrailingZeros_6 : decode b_JI_numberOfTrailingZeros 6 = .ok (.iand, 1) := by decide +kernel
theorem d_JI_numberOfTrailingZeros_7 : decode b_JI_numberOfTrailingZeros 7 = .ok (.istore_n 0, 1) := by decide +kernel
theorem d_JI_numberOfTrailingZeros_8 : decode b_JI_numberOfTrailingZeros 8 = .ok (.iload_n 0, 1) := by decide +kernel
theorem d_JI_numberOfTrailingZeros_9 : decode b_JI_numberOfTrailingZeros 9 = .ok (.ifCond .gt (8), 3) := by decide +kernel
theorem d_JI_numberOfTrailingZeros_12 : decode b_JI_numberOfTrailingZeros 12 = .ok (.iload_n 0, 1) := by decide +kernel
theorem d_JI_numberOfTrailingZeros_13 : decode b_JI_numberOfTrailingZeros 13 = .ok (.bipush (32), 2) := by decide +kernel
theorem d_JI_numberOfTrailingZeros_15 : decode b_JI_numberOfTrailingZeros 15 = .ok (.iand, 1) := by decide +kernel
theorem d_JI_numberOfTrailingZeros_16 : decode b_JI_numberOfTrailingZeros 16 = .ok (.ireturn, 1) := by decide +kernel
theorem d_JI_numberOfTrailingZeros_17 : decode b_JI_numberOfTrailingZeros 17 = .ok (.iconst (1), 1) := by decide +kernel
theorem d_JI_numberOfTrailingZeros_18 : decode b_JI_numberOfTrailingZeros 18 = .ok (.istore_n 1, 1) := by decide +kernel
theorem d_JI_numberOfTrailingZeros_19 : decode b_JI_numberOfTrailingZeros 19 = .ok (.iload_n 0, 1) := by decide +kernel
theorem d_JI_numberOfTrailingZeros_20 : decode b_JI_numberOfTrailingZeros 20 = .ok (.ldc_w 264, 3) := by decide +kernel
theorem d_JI_numberOfTrailingZeros_23 : decode b_JI_numberOfTrailingZeros 23 = .ok (.if_icmp .le (11), 3) := by decide +kernel
theorem d_JI_numberOfTrailingZeros_26 : decode b_JI_numberOfTrailingZeros 26 = .ok (.iinc 1 (16), 3) := by decide +kernel
theorem d_JI_numberOfTrailingZeros_29 : decode b_JI_numberOfTrailingZeros 29 = .ok (.iload_n 0, 1) := by decide +kernel
theorem d_JI_numberOfTrailingZeros_30 : decode b_JI_numberOfTrailingZeros 30 = .ok (.bipush (16), 2) := by decide +kernel
theorem d_JI_numberOfTrailingZeros_32 : decode b_JI_numberOfTrailingZeros 32 = .ok (.iushr, 1) := by decide +kernel
theorem d_JI_numberOfTrailingZeros_33 : decode b_JI_numberOfTrailingZeros 33 = .ok (.istore_n 0, 1) := by decide +kernel
theorem d_JI_numberOfTrailingZeros_34 : decode b_JI_numberOfTrailingZeros 34 = .ok (.iload_n 0, 1) := by decide +kernel
theorem d_JI_numberOfTrailingZeros_35 : decode b_JI_numberOfTrailingZeros 35 = .ok (.sipush (256), 3) := by decide +kernel
theorem d_JI_numberOfTrailingZeros_38 : decode b_JI_numberOfTrailingZeros 38 = .ok (.if_icmp .le (11), 3) := by decide +kernel
theorem d_JI_numberOfTrailingZeros_41 : decode b_JI_numberOfTrailingZeros 41 = .ok (.iinc 1 (8), 3) := by decide +kernel
theorem d_JI_numberOfTrailingZeros_44 : decode b_JI_numberOfTrailingZeros 44 = .ok (.iload_n 0, 1) := by decide +kernel
theorem d_JI_numberOfTrailingZeros_45 : decode b_JI_numberOfTrailingZeros 45 = .ok (.bipush (8), 2) := by decide +kernel
theorem d_JI_numberOfTrailingZeros_47 : decode b_JI_numberOfTrailingZeros 47 = .ok (.iushr, 1) := by decide +kernel
theorem d_JI_numberOfTrailingZeros_48 : decode b_JI_numberOfTrailingZeros 48 = .ok (.istore_n 0, 1) := by decide +kernel
theorem d_JI_numberOfTrailingZeros_49 : decode b_JI_numberOfTrailingZeros 49 = .ok (.iload_n 0, 1) := by decide +kernel
theorem d_JI_numberOfTrailingZeros_50 : decode b_JI_numberOfTrailingZeros 50 = .ok (.bipush (16), 2) := by decide +kernel
theorem d_JI_numberOfTrailingZeros_52 : decode b_JI_numberOfTrailingZeros 52 = .ok (.if_icmp .le (10), 3) := by decide +kernel
theorem d_JI_numberOfTrailingZeros_55 : decode b_JI_numberOfTrailingZeros 55 = .ok (.iinc 1 (4), 3) := by decide +kernel
theorem d_JI_numberOfTrailingZeros_58 : decode b_JI_numberOfTrailingZeros 58 = .ok (.iload_n 0, 1) := by decide +kernel
theorem d_JI_numberOfTrailingZeros_59 : decode b_JI_numberOfTrailingZeros 59 = .ok (.iconst (4), 1) := by decide +kernel
theorem d_JI_numberOfTrailingZeros_60 : decode b_JI_numberOfTrailingZeros 60 = .ok (.iushr, 1) := by decide +kernel
theorem d_JI_numberOfTrailingZeros_61 : decode b_JI_numberOfTrailingZeros 61 = .ok (.istore_n 0, 1) := by decide +kernel
theorem d_JI_numberOfTrailingZeros_62 : decode b_JI_numberOfTrailingZeros 62 = .ok (.iload_n 0, 1) := by decide +kernel
theorem d_JI_numberOfTrailingZeros_63 : decode b_JI_numberOfTrailingZeros 63 = .ok (.iconst (4), 1) := by decide +kernel
theorem d_JI_numberOfTrailingZeros_64 : decode b_JI_numberOfTrailingZeros 64 = .ok (.if_icmp .le (10), 3) := by decide +kernel
theorem d_JI_numberOfTrailingZeros_67 : decode b_JI_numberOfTrailingZeros 67 = .ok (.iinc 1 (2), 3) := by decide +kernel
theorem d_JI_numberOfTrailingZeros_70 : decode b_JI_numberOfTrailingZeros 70 = .ok (.iload_n 0, 1) := by decide +kernel
theorem d_JI_numberOfTrailingZeros_71 : decode b_JI_numberOfTrailingZeros 71 = .ok (.iconst (2), 1) := by decide +kernel
theorem d_JI_numberOfTrailingZeros_72 : decode b_JI_numberOfTrailingZeros 72 = .ok (.iushr, 1) := by decide +kernel
theorem d_JI_numberOfTrailingZeros_73 : decode b_JI_numberOfTrailingZeros 73 = .ok (.istore_n 0, 1) := by decide +kernel
theorem d_JI_numberOfTrailingZeros_74 : decode b_JI_numberOfTrailingZeros 74 = .ok (.iload_n 1, 1) := by decide +kernel
theorem d_JI_numberOfTrailingZeros_75 : decode b_JI_numberOfTrailingZeros 75 = .ok (.iload_n 0, 1) := by decide +kernel
theorem d_JI_numberOfTrailingZeros_76 : decode b_JI_numberOfTrailingZeros 76 = .ok (.iconst (1), 1) := by decide +kernel
theorem d_JI_numberOfTrailingZeros_77 : decode b_JI_numberOfTrailingZeros 77 = .ok (.iushr, 1) := by decide +kernel
theorem d_JI_numberOfTrailingZeros_78 : decode b_JI_numberOfTrailingZeros 78 = .ok (.iadd, 1) := by decide +kernel
theorem d_JI_numberOfTrailingZeros_79 : decode b_JI_numberOfTrailingZeros 79 = .ok (.ireturn, 1) := by decide +kernel
theorem d_JL_bitCount_0 : decode b_JL_bitCount 0 = .ok (.lload_n 0, 1) := by decide +kernel
theorem d_JL_bitCount_1 : decode b_JL_bitCount 1 = .ok (.lload_n 0, 1) := by decide +kernel
theorem d_JL_bitCount_2 : decode b_JL_bitCount 2 = .ok (.iconst (1), 1) := by decide +kernel
theorem d_JL_bitCount_3 : decode b_JL_bitCount 3 = .ok (.lushr, 1) := by decide +kernel
theorem d_JL_bitCount_4 : decode b_JL_bitCount 4 = .ok (.ldc2_w 314, 3) := by decide +kernel
theorem d_JL_bitCount_7 : decode b_JL_bitCount 7 = .ok (.land, 1) := by decide +kernel
theorem d_JL_bitCount_8 : decode b_JL_bitCount 8 = .ok (.lsub, 1) := by decide +kernel
theorem d_JL_bitCount_9 : decode b_JL_bitCount 9 = .ok (.lstore_n 0, 1) := by decide +kernel
theorem d_JL_bitCount_10 : decode b_JL_bitCount 10 = .ok (.lload_n 0, 1) := by decide +kernel
theorem d_JL_bitCount_11 : decode b_JL_bitCount 11 = .ok (.ldc2_w 316, 3) := by decide +kernel
theorem d_JL_bitCount_14 : decode b_JL_bitCount 14 = .ok (.land, 1) := by decide +kernel
theorem d_JL_bitCount_15 : decode b_JL_bitCount 15 = .ok (.lload_n 0, 1) := by decide +kernel
theorem d_JL_bitCount_16 : decode b_JL_bitCount 16 = .ok (.iconst (2), 1) := by decide +kernel
theorem d_JL_bitCount_17 : decode b_JL_bitCount 17 = .ok (.lushr, 1) := by decide +kernel
theorem d_JL_bitCount_18 : decode b_JL_bitCount 18 = .ok (.ldc2_w 316, 3) := by decide +kernel
theorem d_JL_bitCount_21 : decode b_JL_bitCount 21 = .ok (.land, 1) := by decide +kernel
theorem d_JL_bitCount_22 : decode b_JL_bitCount 22 = .ok (.ladd, 1) := by decide +kernel
theorem d_JL_bitCount_23 : decode b_JL_bitCount 23 = .ok (.lstore_n 0, 1) := by decide +kernel
theorem d_JL_bitCount_24 : decode b_JL_bitCount 24 = .ok (.lload_n 0, 1) := by decide +kernel
theorem d_JL_bitCount_25 : decode b_JL_bitCount 25 = .ok (.lload_n 0, 1) := by decide +kernel
theorem d_JL_bitCount_26 : decode b_JL_bitCount 26 = .ok (.iconst (4), 1) := by decide +kernel
theorem d_JL_bitCount_27 : decode b_JL_bitCount 27 = .ok (.lushr, 1) := by decide +kernel
theorem d_JL_bitCount_28 : decode b_JL_bitCount 28 = .ok (.ladd, 1) := by decide +kernel
theorem d_JL_bitCount_29 : decode b_JL_bitCount 29 = .ok (.ldc2_w 318, 3) := by decide +kernel
theorem d_JL_bitCount_32 : decode b_JL_bitCount 32 = .ok (.land, 1) := by decide +kernel
theorem d_JL_bitCount_33 : decode b_JL_bitCount 33 = .ok (.lstore_n 0, 1) := by decide +kernel
theorem d_JL_bitCount_34 : decode b_JL_bitCount 34 = .ok (.lload_n 0, 1) := by decide +kernel
theorem d_JL_bitCount_35 : decode b_JL_bitCount 35 = .ok (.lload_n 0, 1) := by decide +kernel
theorem d_JL_bitCount_36 : decode b_JL_bitCount 36 = .ok (.bipush (8), 2) := by decide +kernel
theorem d_JL_bitCount_38 : decode b_JL_bitCount 38 = .ok (.lushr, 1) := by decide +kernel
theorem d_JL_bitCount_39 : decode b_JL_bitCount 39 = .ok (.ladd, 1) := by decide +kernel
theorem d_JL_bitCount_40 : decode b_JL_bitCount 40 = .ok (.lstore_n 0, 1) := by decide +kernel
theorem d_JL_bitCount_41 : decode b_JL_bitCount 41 = .ok (.lload_n 0, 1) := by decide +kernel
theorem d_JL_bitCount_42 : decode b_JL_bitCount 42 = .ok (.lload_n 0, 1) := by decide +kernel
theorem d_JL_bitCount_43 : decode b_JL_bitCount 43 = .ok (.bipush (16), 2) := by decide +kernel
theorem d_JL_bitCount_45 : decode b_JL_bitCount 45 = .ok (.lushr, 1) := by decide +kernel
theorem d_JL_bitCount_46 : decode b_JL_bitCount 46 = .ok (.ladd, 1) := by decide +kernel
theorem d_JL_bitCount_47 : decode b_JL_bitCount 47 = .ok (.lstore_n 0, 1) := by decide +kernel
theorem d_JL_bitCount_48 : decode b_JL_bitCount 48 = .ok (.lload_n 0, 1) := by decide +kernel
theorem d_JL_bitCount_49 : decode b_JL_bitCount 49 = .ok (.lload_n 0, 1) := by decide +kernel
theorem d_JL_bitCount_50 : decode b_JL_bitCount 50 = .ok (.bipush (32), 2) := by decide +kernel
theorem d_JL_bitCount_52 : decode b_JL_bitCount 52 = .ok (.lushr, 1) := by decide +kernel
theorem d_JL_bitCount_53 : decode b_JL_bitCount 53 = .ok (.ladd, 1) := by decide +kernel
theorem d_JL_bitCount_54 : decode b_JL_bitCount 54 = .ok (.lstore_n 0, 1) := by decide +kernel
theorem d_JL_bitCount_55 : decode b_JL_bitCount 55 = .ok (.lload_n 0, 1) := by decide +kernel
theorem d_JL_bitCount_56 : decode b_JL_bitCount 56 = .ok (.l2i, 1) := by decide +kernel
theorem d_JL_bitCount_57 : decode b_JL_bitCount 57 = .ok (.bipush (127), 2) := by decide +kernel
theorem d_JL_bitCount_59 : decode b_JL_bitCount 59 = .ok (.iand, 1) := by decide +kernel
theorem d_JL_bitCount_60 : decode b_JL_bitCount 60 = .ok (.ireturn, 1) := by decide +kernel
theorem d_JL_numberOfLeadingZeros_0 : decode b_JL_numberOfLeadingZeros 0 = .ok (.lload_n 0, 1) := by decide +kernel
theorem d_JL_numberOfLeadingZeros_1 : decode b_JL_numberOfLeadingZeros 1 = .ok (.bipush (32), 2) := by decide +kernel
theorem d_JL_numberOfLeadingZeros_3 : decode b_JL_numberOfLeadingZeros 3 = .ok (.lushr, 1) := by decide +kernel
theorem d_JL_numberOfLeadingZeros_4 : decode b_JL_numberOfLeadingZeros 4 = .ok (.l2i, 1) := by decide +kernel
theorem d_JL_numberOfLeadingZeros_5 : decode b_JL_numberOfLeadingZeros 5 = .ok (.istore_n 2, 1) := by decide +kernel
theorem d_JL_numberOfLeadingZeros_6 : decode b_JL_numberOfLeadingZeros 6 = .ok (.iload_n 2, 1) := by decide +kernel
theorem d_JL_numberOfLeadingZeros_7 : decode b_JL_numberOfLeadingZeros 7 = .ok (.ifCond .ne (14), 3) := by decide +kernel
theorem d_JL_numberOfLeadingZeros_10 : decode b_JL_numberOfLeadingZeros 10 = .ok (.bipush (32), 2) := by decide +kernel
theorem d_JL_numberOfLeadingZeros_12 : decode b_JL_numberOfLeadingZeros 12 = .ok (.lload_n 0, 1) := by decide +kernel
theorem d_JL_numberOfLeadingZeros_13 : decode b_JL_numberOfLeadingZeros 13 = .ok (.l2i, 1) := by decide +kernel
theorem d_JL_numberOfLeadingZeros_14 : decode b_JL_numberOfLeadingZeros 14 = .ok (.invokestatic 308, 3) := by decide +kernel
theorem d_JL_numberOfLeadingZeros_17 : decode b_JL_numberOfLeadingZeros 17 = .ok (.iadd, 1) := by decide +kernel
theorem d_JL_numberOfLeadingZeros_18 : decode b_JL_numberOfLeadingZeros 18 = .ok (.goto (7), 3) := by decide +kernel
theorem d_JL_numberOfLeadingZeros_21 : decode b_JL_numberOfLeadingZeros 21 = .ok (.iload_n 2, 1) := by decide +kernel
theorem d_JL_numberOfLeadingZeros_22 : decode b_JL_numberOfLeadingZeros 22 = .ok (.invokestatic 308, 3) := by decide +kernel
theorem d_JL_numberOfLeadingZeros_25 : decode b_JL_numberOfLeadingZeros 25 = .ok (.ireturn, 1) := by decide +kernel
theorem d_JL_numberOfTrailingZeros_0 : decode b_JL_numberOfTrailingZeros 0 = .ok (.lload_n 0, 1) := by decide +kernel
theorem d_JL_numberOfTrailingZeros_1 : decode b_JL_numberOfTrailingZeros 1 = .ok (.l2i, 1) := by decide +kernel
theorem d_JL_numberOfTrailingZeros_2 : decode b_JL_numberOfTrailingZeros 2 = .ok (.istore_n 2, 1) := by decide +kernel
theorem d_JL_numberOfTrailingZeros_3 : decode b_JL_numberOfTrailingZeros 3 = .ok (.iload_n 2, 1) := by decide +kernel
theorem d_JL_numberOfTrailingZeros_4 : decode b_JL_numberOfTrailingZeros 4 = .ok (.ifCond .ne (17), 3) := by decide +kernel
theorem d_JL_numberOfTrailingZeros_7 : decode b_JL_numberOfTrailingZeros 7 = .ok (.bipush (32), 2) := by decide +kernel
theorem d_JL_numberOfTrailingZeros_9 : decode b_JL_numberOfTrailingZeros 9 = .ok (.lload_n 0, 1) := by decide +kernel
theorem d_JL_numberOfTrailingZeros_10 : decode b_JL_numberOfTrailingZeros 10 = .ok (.bipush (32), 2) := by decide +kernel
theorem d_JL_numberOfTrailingZeros_12 : decode b_JL_numberOfTrailingZeros 12 = .ok (.lushr, 1) := by decide +kernel
theorem d_JL_numberOfTrailingZeros_13 : decode b_JL_numberOfTrailingZeros 13 = .ok (.l2i, 1) := by decide +kernel
theorem d_JL_numberOfTrailingZeros_14 : decode b_JL_numberOfTrailingZeros 14 = .ok (.invokestatic 311, 3) := by decide +kernel
theorem d_JL_numberOfTrailingZeros_17 : decode b_JL_numberOfTrailingZeros 17 = .ok (.iadd, 1) := by decide +kernel
theorem d_JL_numberOfTrailingZeros_18 : decode b_JL_numberOfTrailingZeros 18 = .ok (.goto (7), 3) := by decide +kernel
theorem d_JL_numberOfTrailingZeros_21 : decode b_JL_numberOfTrailingZeros 21 = .ok (.iload_n 2, 1) := by decide +kernel
theorem d_JL_numberOfTrailingZeros_22 : decode b_JL_numberOfTrailingZeros 22 = .ok (.invokestatic 311, 3) := by decide +kernel
theorem d_JL_numberOfTrailingZeros_25 : decode b_JL_numberOfTrailingZeros 25 = .ok (.ireturn, 1) := by decide +kernel
end
section
/-! polynomials over two elements, as numbers: bit k is that of x^k; their sum is ^^^, their product px_m; px_dv f a: f divides a -/
def px_m (a b : Nat) : Nat := if b = 0 then 0 else (2 * px_m a (b / 2)) ^^^ (if b % 2 = 1 then a else 0)
termination_by b
decreasing_by omega
theorem px_bin {P : Nat → Prop} (h0 : P 0) (h : ∀ b, P b → P (2 * b)) (h1 : ∀ b, P b → P (2 * b + 1)) : ∀ b, P b := by
  intro b
  induction b using Nat.strongRecOn with
  | _ b ih =>
    by_cases hb : b = 0
    · subst hb; exact h0
    · rcases Nat.mod_two_eq_zero_or_one b with e | e
      · have := h (b / 2) (ih (b / 2) (by omega))
        rwa [show 2 * (b / 2) = b by omega] at this
      · have := h1 (b / 2) (ih (b / 2) (by omega))
        rwa [show 2 * (b / 2) + 1 = b by omega] at this
theorem px_dbl (u v : Nat) : 2 * (u ^^^ v) = 2 * u ^^^ 2 * v := by
  have := @Nat.shiftLeft_xor_distrib 1 u v
  simpa [Nat.shiftLeft_eq, Nat.mul_comm] using this
theorem px_d1 (u : Nat) : 2 * u ^^^ 1 = 2 * u + 1 := by
  have h1 : (2 * u ^^^ 1) / 2 = u := by
    rw [Nat.xor_div_two, show 2 * u / 2 = u by omega]
    simp
  have h2 : (2 * u ^^^ 1) % 2 = 1 := by
    rw [Nat.xor_mod_two_eq_one]
    omega
  omega
theorem px_cc (a b : Nat) : a ^^^ b ^^^ b = a := by rw [Nat.xor_assoc, Nat.xor_self, Nat.xor_zero]
theorem px_eq0 {a b : Nat} (h : a ^^^ b = 0) : a = b := by
  have := px_cc a b
  rw [h, Nat.zero_xor] at this
  exact this.symm
theorem px_m_zero (a : Nat) : px_m a 0 = 0 := by rw [px_m]; simp
theorem px_m_dbl (a b : Nat) : px_m a (2 * b) = 2 * px_m a b := by
  by_cases hb : b = 0
  · subst hb; simp [px_m_zero]
  · rw [px_m, if_neg (by omega), show 2 * b / 2 = b by omega, if_neg (by omega)]
    simp
theorem px_m_odd (a b : Nat) : px_m a (2 * b + 1) = 2 * px_m a b ^^^ a := by
  rw [px_m, if_neg (by omega), show (2 * b + 1) / 2 = b by omega, if_pos (by omega)]
theorem px_m_zero_left (b : Nat) : px_m 0 b = 0 := by
  induction b using px_bin with
  | h0 => exact px_m_zero 0
  | h b ih => rw [px_m_dbl, ih]
  | h1 b ih => rw [px_m_odd, ih]; simp
theorem px_m_xor_left (a c b : Nat) : px_m (a ^^^ c) b = px_m a b ^^^ px_m c b := by
  induction b using px_bin with
  | h0 => simp [px_m_zero]
  | h b ih => rw [px_m_dbl, px_m_dbl, px_m_dbl, ih, px_dbl]
  | h1 b ih => rw [px_m_odd, px_m_odd, px_m_odd, ih, px_dbl]; ac_rfl
theorem px_m_dbl_left (a b : Nat) : px_m (2 * a) b = 2 * px_m a b := by
  induction b using px_bin with
  | h0 => simp [px_m_zero]
  | h b ih => rw [px_m_dbl, px_m_dbl, ih]
  | h1 b ih => rw [px_m_odd, px_m_odd, ih, px_dbl]
theorem px_m_one_left (b : Nat) : px_m 1 b = b := by
  induction b using px_bin with
  | h0 => exact px_m_zero 1
  | h b ih => rw [px_m_dbl, ih]
  | h1 b ih => rw [px_m_odd, ih, px_d1]
theorem px_m_one (a : Nat) : px_m a 1 = a := by
  have := px_m_odd a 0
  simpa [px_m_zero] using this
theorem px_m_odd_left (a b : Nat) : px_m (2 * a + 1) b = 2 * px_m a b ^^^ b := by
  rw [← px_d1, px_m_xor_left, px_m_dbl_left, px_m_one_left]
theorem px_m_comm (a b : Nat) : px_m a b = px_m b a := by
  induction b using px_bin with
  | h0 => rw [px_m_zero, px_m_zero_left]
  | h b ih => rw [px_m_dbl, px_m_dbl_left, ih]
  | h1 b ih => rw [px_m_odd, px_m_odd_left, ih]
theorem px_m_xor_right (a b c : Nat) : px_m a (b ^^^ c) = px_m a b ^^^ px_m a c := by
  rw [px_m_comm, px_m_xor_left, px_m_comm b a, px_m_comm c a]
theorem px_m_assoc (a b c : Nat) : px_m (px_m a b) c = px_m a (px_m b c) := by
  induction c using px_bin with
  | h0 => simp [px_m_zero]
  | h c ih => rw [px_m_dbl, px_m_dbl, px_m_dbl, ih]
  | h1 c ih => rw [px_m_odd, px_m_odd, px_m_xor_right, px_m_dbl, ih]
theorem px_m_left_comm (a b c : Nat) : px_m a (px_m b c) = px_m b (px_m a c) := by
  rw [← px_m_assoc, px_m_comm a b, px_m_assoc]
theorem px_m_two (a : Nat) : px_m a 2 = 2 * a := by
  have := px_m_dbl a 1
  rw [px_m_one] at this
  exact this
theorem px_m_pow2 (a k : Nat) : px_m a (2 ^ k) = a * 2 ^ k := by
  induction k with
  | zero => simpa using px_m_one a
  | succ k ih => rw [Nat.pow_succ, Nat.mul_comm (2 ^ k) 2, px_m_dbl, ih, Nat.mul_left_comm]
/-! degrees -/
theorem px_top {u v k : Nat} (h1 : 2 ^ k ≤ u) (h2 : u < 2 ^ (k + 1)) (h3 : v < 2 ^ k) : 2 ^ k ≤ u ^^^ v ∧ u ^^^ v < 2 ^ (k + 1) := by
  have hk : 2 ^ (k + 1) = 2 * 2 ^ k := by rw [Nat.pow_succ, Nat.mul_comm]
  refine ⟨?_, Nat.xor_lt_two_pow h2 (by omega)⟩
  apply Nat.ge_two_pow_of_testBit
  rw [Nat.testBit_xor, Nat.testBit_lt_two_pow h3, Nat.testBit_of_two_pow_le_and_two_pow_add_one_gt h1 h2]
  rfl
theorem px_tops {u v k : Nat} (h1 : 2 ^ k ≤ u) (h2 : u < 2 ^ (k + 1)) (h3 : 2 ^ k ≤ v) (h4 : v < 2 ^ (k + 1)) : u ^^^ v < 2 ^ k := by
  apply Nat.lt_pow_two_of_testBit
  intro i hi
  rw [Nat.testBit_xor]
  by_cases hik : i = k
  · subst hik
    rw [Nat.testBit_of_two_pow_le_and_two_pow_add_one_gt h1 h2, Nat.testBit_of_two_pow_le_and_two_pow_add_one_gt h3 h4]
    rfl
  · have hle : 2 ^ (k + 1) ≤ 2 ^ i := Nat.pow_le_pow_right (by decide) (by omega)
    rw [Nat.testBit_lt_two_pow (Nat.lt_of_lt_of_le h2 hle), Nat.testBit_lt_two_pow (Nat.lt_of_lt_of_le h4 hle)]
    rfl
theorem px_deg {a b i j : Nat} (ha : 2 ^ i ≤ a) (ha' : a < 2 ^ (i + 1)) (hb : 2 ^ j ≤ b) (hb' : b < 2 ^ (j + 1)) : 2 ^ (i + j) ≤ px_m a b ∧ px_m a b < 2 ^ (i + j + 1) := by
  induction j generalizing b with
  | zero =>
    have : b = 1 := by simp at hb hb'; omega
    subst this
    rw [px_m_one]
    exact ⟨ha, ha'⟩
  | succ j ih =>
    have e1 : 2 ^ (j + 1) = 2 * 2 ^ j := by rw [Nat.pow_succ, Nat.mul_comm]
    have e2 : 2 ^ (j + 1 + 1) = 2 * 2 ^ (j + 1) := by rw [Nat.pow_succ, Nat.mul_comm]
    have e3 : 2 ^ (i + (j + 1)) = 2 * 2 ^ (i + j) := by rw [← Nat.add_assoc, Nat.pow_succ, Nat.mul_comm]
    have e4 : 2 ^ (i + (j + 1) + 1) = 2 * 2 ^ (i + (j + 1)) := by rw [Nat.pow_succ, Nat.mul_comm]
    have e5 : 2 ^ (i + j + 1) = 2 * 2 ^ (i + j) := by rw [Nat.pow_succ, Nat.mul_comm]
    obtain ⟨q1, q2⟩ := ih (b := b / 2) (by omega) (by omega)
    rcases Nat.mod_two_eq_zero_or_one b with e | e
    · rw [show b = 2 * (b / 2) by omega, px_m_dbl]
      omega
    · rw [show b = 2 * (b / 2) + 1 by omega, px_m_odd]
      have hle : 2 ^ (i + 1) ≤ 2 ^ (i + (j + 1)) := Nat.pow_le_pow_right (by decide) (by omega)
      exact px_top (by omega) (by omega) (by omega)
theorem px_lg1 {a : Nat} (h : a ≠ 0) : 2 ^ a.log2 ≤ a := Nat.log2_self_le h
theorem px_lg2 (a : Nat) : a < 2 ^ (a.log2 + 1) := Nat.lt_log2_self
theorem px_lg {a i : Nat} (h1 : 2 ^ i ≤ a) (h2 : a < 2 ^ (i + 1)) : a.log2 = i :=
  (Nat.log2_eq_iff (by have := Nat.two_pow_pos i; omega)).2 ⟨h1, h2⟩
theorem px_ne0 {a b : Nat} (ha : a ≠ 0) (hb : b ≠ 0) : px_m a b ≠ 0 := by
  have := (px_deg (px_lg1 ha) (px_lg2 a) (px_lg1 hb) (px_lg2 b)).1
  have := Nat.two_pow_pos (a.log2 + b.log2)
  omega
theorem px_zero {a b : Nat} (h : px_m a b = 0) : a = 0 ∨ b = 0 := by
  by_cases ha : a = 0
  · exact Or.inl ha
  · by_cases hb : b = 0
    · exact Or.inr hb
    · exact absurd h (px_ne0 ha hb)
theorem px_log {a b : Nat} (ha : a ≠ 0) (hb : b ≠ 0) : (px_m a b).log2 = a.log2 + b.log2 :=
  px_lg (px_deg (px_lg1 ha) (px_lg2 a) (px_lg1 hb) (px_lg2 b)).1 (px_deg (px_lg1 ha) (px_lg2 a) (px_lg1 hb) (px_lg2 b)).2
theorem px_cancel {a b c : Nat} (ha : a ≠ 0) (h : px_m a b = px_m a c) : b = c := by
  have h1 : px_m a (b ^^^ c) = 0 := by rw [px_m_xor_right, h, Nat.xor_self]
  rcases px_zero h1 with e | e
  · exact absurd e ha
  · exact px_eq0 e
theorem px_div {b j : Nat} (hb : 2 ^ j ≤ b) (hb' : b < 2 ^ (j + 1)) : ∀ a : Nat, ∃ q r, a = px_m q b ^^^ r ∧ r < 2 ^ j := by
  intro a
  induction a using Nat.strongRecOn with
  | _ a ih =>
    by_cases h : a < 2 ^ j
    · exact ⟨0, a, by rw [px_m_zero_left, Nat.zero_xor], h⟩
    · have ha0 : a ≠ 0 := by have := Nat.two_pow_pos j; omega
      have hji : j ≤ a.log2 := (Nat.le_log2 ha0).2 (by omega)
      have hd := px_deg (a := 2 ^ (a.log2 - j)) (b := b) (i := a.log2 - j) (j := j) (Nat.le_refl _) (Nat.pow_lt_pow_right (by decide) (by omega)) hb hb'
      rw [show a.log2 - j + j = a.log2 by omega] at hd
      have hlt := px_tops (px_lg1 ha0) (px_lg2 a) hd.1 hd.2
      obtain ⟨q, r, e, hr⟩ := ih (a ^^^ px_m (2 ^ (a.log2 - j)) b) (Nat.lt_of_lt_of_le hlt (px_lg1 ha0))
      refine ⟨q ^^^ 2 ^ (a.log2 - j), r, ?_, hr⟩
      have e2 := px_cc a (px_m (2 ^ (a.log2 - j)) b)
      rw [e] at e2
      refine e2.symm.trans ?_
      rw [px_m_xor_left]
      ac_rfl
/-! divisors -/
def px_dv (f a : Nat) : Prop := ∃ q, a = px_m f q
theorem px_dv_refl (f : Nat) : px_dv f f := ⟨1, (px_m_one f).symm⟩
theorem px_dv_zero (f : Nat) : px_dv f 0 := ⟨0, (px_m_zero f).symm⟩
theorem px_dv_one (a : Nat) : px_dv 1 a := ⟨a, (px_m_one_left a).symm⟩
theorem px_dv_trans {f g a : Nat} (h1 : px_dv f g) (h2 : px_dv g a) : px_dv f a := by
  obtain ⟨q, rfl⟩ := h1
  obtain ⟨r, rfl⟩ := h2
  exact ⟨px_m q r, px_m_assoc f q r⟩
theorem px_dv_xor {f a b : Nat} (h1 : px_dv f a) (h2 : px_dv f b) : px_dv f (a ^^^ b) := by
  obtain ⟨q, rfl⟩ := h1
  obtain ⟨r, rfl⟩ := h2
  exact ⟨q ^^^ r, (px_m_xor_right f q r).symm⟩
theorem px_dv_ml {f a : Nat} (h : px_dv f a) (b : Nat) : px_dv f (px_m a b) := by
  obtain ⟨q, rfl⟩ := h
  exact ⟨px_m q b, px_m_assoc f q b⟩
theorem px_dv_mr {f a : Nat} (h : px_dv f a) (b : Nat) : px_dv f (px_m b a) := by
  rw [px_m_comm]
  exact px_dv_ml h b
theorem px_dv_m (f b : Nat) : px_dv f (px_m f b) := ⟨b, rfl⟩
theorem px_dv_m' (f b : Nat) : px_dv f (px_m b f) := ⟨b, px_m_comm b f⟩
theorem px_dv_of {f a b : Nat} (h : px_dv f (a ^^^ b)) (h2 : px_dv f b) : px_dv f a := by
  have := px_dv_xor h h2
  rwa [px_cc] at this
theorem px_dv_small {f a j : Nat} (h : px_dv f a) (ha : a < 2 ^ j) (hf : 2 ^ j ≤ f) : a = 0 := by
  obtain ⟨q, rfl⟩ := h
  by_cases hq : q = 0
  · subst hq; exact px_m_zero f
  · have hf0 : f ≠ 0 := by have := Nat.two_pow_pos j; omega
    have h1 := px_log hf0 hq
    have h2 : j ≤ f.log2 := (Nat.le_log2 hf0).2 hf
    have h3 := px_lg1 (px_ne0 hf0 hq)
    have h4 : 2 ^ j ≤ 2 ^ (px_m f q).log2 := Nat.pow_le_pow_right (by decide) (by omega)
    omega
theorem px_dv_le {f a : Nat} (h : px_dv f a) (ha : a ≠ 0) : f ≠ 0 ∧ f.log2 ≤ a.log2 := by
  obtain ⟨q, rfl⟩ := h
  have hf : f ≠ 0 := fun e => ha (by rw [e, px_m_zero_left])
  have hq : q ≠ 0 := fun e => ha (by rw [e, px_m_zero])
  refine ⟨hf, ?_⟩
  rw [px_log hf hq]
  omega
theorem px_dv_unit {f : Nat} (h : px_dv f 1) : f = 1 := by
  obtain ⟨hf, hl⟩ := px_dv_le h (by decide)
  have h1 : Nat.log2 1 = 0 := px_lg (i := 0) (by decide) (by decide)
  have h0 : f.log2 = 0 := by omega
  have h2 := px_lg2 f
  rw [h0] at h2
  simp at h2
  omega
theorem px_dv_anti {f g : Nat} (h1 : px_dv f g) (h2 : px_dv g f) : f = g := by
  obtain ⟨q, e⟩ := h1
  by_cases hf : f = 0
  · rw [e, hf, px_m_zero_left]
  · obtain ⟨r, e2⟩ := h2
    rw [e, px_m_assoc] at e2
    have e3 : px_m f 1 = px_m f (px_m q r) := by rw [px_m_one]; exact e2
    have e4 := px_cancel hf e3
    have hq : q = 1 := px_dv_unit ⟨r, e4⟩
    rw [e, hq, px_m_one]
/-! congruence: px_dv p (a ^^^ b) -/
def px_cg (p a b : Nat) : Prop := px_dv p (a ^^^ b)
theorem px_cg_refl (p a : Nat) : px_cg p a a := by unfold px_cg; rw [Nat.xor_self]; exact px_dv_zero p
theorem px_cg_of {p a b : Nat} (h : a = b) : px_cg p a b := h ▸ px_cg_refl p a
theorem px_cg_symm {p a b : Nat} (h : px_cg p a b) : px_cg p b a := by unfold px_cg at *; rwa [Nat.xor_comm]
theorem px_cg_trans {p a b c : Nat} (h : px_cg p a b) (h2 : px_cg p b c) : px_cg p a c := by
  have := px_dv_xor h h2
  unfold px_cg
  rwa [← Nat.xor_assoc, px_cc] at this
theorem px_cg_xor {p a b c d : Nat} (h : px_cg p a b) (h2 : px_cg p c d) : px_cg p (a ^^^ c) (b ^^^ d) := by
  have := px_dv_xor h h2
  unfold px_cg
  rwa [show a ^^^ c ^^^ (b ^^^ d) = a ^^^ b ^^^ (c ^^^ d) by ac_rfl]
theorem px_cg_m {p a b c d : Nat} (h : px_cg p a b) (h2 : px_cg p c d) : px_cg p (px_m a c) (px_m b d) := by
  have h3 : px_cg p (px_m a c) (px_m b c) := by unfold px_cg; rw [← px_m_xor_left]; exact px_dv_ml h c
  have h4 : px_cg p (px_m b c) (px_m b d) := by unfold px_cg; rw [← px_m_xor_right]; exact px_dv_mr h2 b
  exact px_cg_trans h3 h4
theorem px_cg_dv {p a b : Nat} (h : px_cg p a b) (h2 : px_dv p b) : px_dv p a := px_dv_of h h2
theorem px_cg_down {f p a b : Nat} (hf : px_dv f p) (h : px_cg p a b) : px_cg f a b := px_dv_trans hf h
theorem px_uniq {p n a b : Nat} (hp : 2 ^ n ≤ p) (ha : a < 2 ^ n) (hb : b < 2 ^ n) (h : px_cg p a b) : a = b :=
  px_eq0 (px_dv_small h (Nat.xor_lt_two_pow ha hb) hp)
/-! powers -/
def px_pw (a : Nat) : Nat → Nat
  | 0 => 1
  | n + 1 => px_m (px_pw a n) a
theorem px_pw_one (a : Nat) : px_pw a 1 = a := px_m_one_left a
theorem px_pw_add (a m n : Nat) : px_pw a (m + n) = px_m (px_pw a m) (px_pw a n) := by
  induction n with
  | zero => exact (px_m_one _).symm
  | succ n ih => rw [← Nat.add_assoc]; show px_m (px_pw a (m + n)) a = _; rw [ih, px_m_assoc]; rfl
theorem px_pw_mm (a b n : Nat) : px_pw (px_m a b) n = px_m (px_pw a n) (px_pw b n) := by
  induction n with
  | zero => exact (px_m_one 1).symm
  | succ n ih =>
    show px_m (px_pw (px_m a b) n) (px_m a b) = px_m (px_m (px_pw a n) a) (px_m (px_pw b n) b)
    rw [ih, px_m_assoc, px_m_assoc, px_m_left_comm (px_pw b n) a b]
theorem px_pw_one_left (n : Nat) : px_pw 1 n = 1 := by
  induction n with
  | zero => rfl
  | succ n ih => show px_m (px_pw 1 n) 1 = 1; rw [px_m_one, ih]
theorem px_pw_mul (a m n : Nat) : px_pw a (m * n) = px_pw (px_pw a m) n := by
  induction n with
  | zero => rfl
  | succ n ih => rw [Nat.mul_succ, px_pw_add, ih]; rfl
theorem px_pw_dbl (a n : Nat) : px_pw a (2 * n) = px_m (px_pw a n) (px_pw a n) := by
  rw [show 2 * n = n + n by omega, px_pw_add]
theorem px_sq (a b : Nat) : px_m (a ^^^ b) (a ^^^ b) = px_m a a ^^^ px_m b b := by
  rw [px_m_xor_left, px_m_xor_right, px_m_xor_right, px_m_comm b a]
  generalize px_m a b = z
  rw [show px_m a a ^^^ z ^^^ (z ^^^ px_m b b) = px_m a a ^^^ px_m b b ^^^ z ^^^ z by ac_rfl, px_cc]
theorem px_frob (a b k : Nat) : px_pw (a ^^^ b) (2 ^ k) = px_pw a (2 ^ k) ^^^ px_pw b (2 ^ k) := by
  induction k with
  | zero => simp only [Nat.pow_zero, px_pw_one]
  | succ k ih => rw [Nat.pow_succ, Nat.mul_comm, px_pw_dbl, px_pw_dbl, px_pw_dbl, ih, px_sq]
theorem px_cg_pw {p a b : Nat} (h : px_cg p a b) (n : Nat) : px_cg p (px_pw a n) (px_pw b n) := by
  induction n with
  | zero => exact px_cg_refl p 1
  | succ n ih => exact px_cg_m ih h
theorem px_pw_two (k : Nat) : px_pw 2 k = 2 ^ k := by
  induction k with
  | zero => rfl
  | succ k ih => show px_m (px_pw 2 k) 2 = _; rw [px_m_two, ih, Nat.pow_succ, Nat.mul_comm]
end
section
/-! common divisors, irreducible ones, and what they divide -/
def px_G (g a b : Nat) : Prop := px_dv g a ∧ px_dv g b ∧ ∃ u v, g = px_m u a ^^^ px_m v b
theorem px_G_ex : ∀ b a : Nat, ∃ g, px_G g a b := by
  intro b
  induction b using Nat.strongRecOn with
  | _ b ih =>
    intro a
    by_cases hb : b = 0
    · subst hb
      exact ⟨a, px_dv_refl a, px_dv_zero a, 1, 0, by rw [px_m_one_left, px_m_zero, Nat.xor_zero]⟩
    · obtain ⟨q, r, e, hr⟩ := px_div (px_lg1 hb) (px_lg2 b) a
      obtain ⟨g, h1, h2, u, v, hg⟩ := ih r (Nat.lt_of_lt_of_le hr (px_lg1 hb)) b
      refine ⟨g, ?_, h1, v, u ^^^ px_m v q, ?_⟩
      · rw [e]; exact px_dv_xor (px_dv_mr h1 q) h2
      · have er : r = a ^^^ px_m q b := by
          rw [e, Nat.xor_comm (px_m q b) r, px_cc]
        rw [hg, er, px_m_xor_right, px_m_xor_left, ← px_m_assoc]
        ac_rfl
theorem px_G_dv {g a b d : Nat} (h : px_G g a b) (h1 : px_dv d a) (h2 : px_dv d b) : px_dv d g := by
  obtain ⟨-, -, u, v, e⟩ := h
  rw [e]
  exact px_dv_xor (px_dv_mr h1 u) (px_dv_mr h2 v)
theorem px_G_self (a : Nat) : px_G a a 0 := ⟨px_dv_refl a, px_dv_zero a, 1, 0, by rw [px_m_one_left, px_m_zero, Nat.xor_zero]⟩
/-- one turn of Euclid -/
theorem px_G_turn {g a b q r : Nat} (e : a = px_m q b ^^^ r) (h : px_G g b r) : px_G g a b := by
  obtain ⟨h1, h2, u, v, hg⟩ := h
  refine ⟨?_, h1, v, u ^^^ px_m v q, ?_⟩
  · rw [e]; exact px_dv_xor (px_dv_mr h1 q) h2
  · have er : r = a ^^^ px_m q b := by
      rw [e, Nat.xor_comm (px_m q b) r, px_cc]
    rw [hg, er, px_m_xor_right, px_m_xor_left, ← px_m_assoc]
    ac_rfl
def px_ir (f : Nat) : Prop := 2 ≤ f ∧ ∀ a b, f = px_m a b → a = 1 ∨ b = 1
theorem px_ir_ne {f : Nat} (h : px_ir f) : f ≠ 0 := by have := h.1; omega
theorem px_ir_dv {f g : Nat} (h : px_ir f) (hg : px_dv g f) : g = 1 ∨ g = f := by
  obtain ⟨q, e⟩ := hg
  rcases h.2 _ _ e with h1 | h1
  · exact Or.inl h1
  · right; rw [e, h1, px_m_one]
theorem px_euclid {f a b : Nat} (h : px_ir f) (hd : px_dv f (px_m a b)) : px_dv f a ∨ px_dv f b := by
  obtain ⟨g, h1, h2, u, v, hg⟩ := px_G_ex a f
  rcases px_ir_dv h h1 with e | e
  · right
    have e2 : b = px_m (px_m u f) b ^^^ px_m (px_m v a) b := by
      rw [← px_m_xor_left, ← hg, e, px_m_one_left]
    rw [e2]
    refine px_dv_xor (px_dv_ml (px_dv_m' f u) b) ?_
    rw [px_m_assoc]
    exact px_dv_mr hd v
  · left; rw [← e]; exact h2
theorem px_lt_of_log {a b : Nat} (hb : b ≠ 0) (h : a.log2 < b.log2) : a < b := by
  have h1 := px_lg2 a
  have h2 := px_lg1 hb
  have h3 : 2 ^ (a.log2 + 1) ≤ 2 ^ b.log2 := Nat.pow_le_pow_right (by decide) h
  omega
theorem px_log_pos {a : Nat} (h : 2 ≤ a) : 1 ≤ a.log2 := (Nat.le_log2 (by omega)).2 (by simpa using h)
theorem px_two_le {a : Nat} (h : a ≠ 0) (h1 : a ≠ 1) : 2 ≤ a := by omega
/-- a product of two that are no 1: both of lesser degrees -/
theorem px_fac_lt {a b : Nat} (h : px_m a b ≠ 0) (ha : a ≠ 1) (hb : b ≠ 1) : a.log2 < (px_m a b).log2 ∧ b.log2 < (px_m a b).log2 ∧ 2 ≤ a ∧ 2 ≤ b := by
  have ha0 : a ≠ 0 := fun e => h (by rw [e, px_m_zero_left])
  have hb0 : b ≠ 0 := fun e => h (by rw [e, px_m_zero])
  have h1 := px_log ha0 hb0
  have h2 := px_log_pos (px_two_le ha0 ha)
  have h3 := px_log_pos (px_two_le hb0 hb)
  exact ⟨by omega, by omega, px_two_le ha0 ha, px_two_le hb0 hb⟩
theorem px_ir_ex : ∀ a : Nat, 2 ≤ a → ∃ f, px_ir f ∧ px_dv f a := by
  intro a
  induction a using Nat.strongRecOn with
  | _ a ih =>
    intro ha
    by_cases hi : px_ir a
    · exact ⟨a, hi, px_dv_refl a⟩
    · have : ∃ b c, a = px_m b c ∧ b ≠ 1 ∧ c ≠ 1 := by
        apply Classical.byContradiction
        intro hn
        apply hi
        refine ⟨ha, fun b c e => ?_⟩
        by_cases h1 : b = 1
        · exact Or.inl h1
        · by_cases h2 : c = 1
          · exact Or.inr h2
          · exact absurd ⟨b, c, e, h1, h2⟩ hn
      obtain ⟨b, c, e, h1, h2⟩ := this
      obtain ⟨q1, -, q3, -⟩ := px_fac_lt (a := b) (b := c) (by omega) h1 h2
      rw [← e] at q1
      obtain ⟨f, hf, hd⟩ := ih b (px_lt_of_log (by omega) q1) q3
      exact ⟨f, hf, px_dv_trans hd ⟨c, e⟩⟩
/-- if all irreducible divisors of p divide g, p divides a power of g -/
theorem px_rad : ∀ (n p g : Nat), p ≠ 0 → p.log2 ≤ n → (∀ f, px_ir f → px_dv f p → px_dv f g) → px_dv p (px_pw g n) := by
  intro n
  induction n with
  | zero =>
    intro p g hp hn hall
    have h := px_lg2 p
    rw [show p.log2 = 0 by omega] at h
    rw [show p = 1 by simp at h; omega]
    exact px_dv_one _
  | succ n ih =>
    intro p g hp hn hall
    by_cases h1 : p = 1
    · rw [h1]; exact px_dv_one _
    · obtain ⟨f, hf, q, e⟩ := px_ir_ex p (px_two_le hp h1)
      have hq : q ≠ 0 := fun e2 => hp (by rw [e, e2, px_m_zero])
      have hl := px_log (px_ir_ne hf) hq
      rw [← e] at hl
      have := px_log_pos hf.1
      have hq2 := ih q g hq (by omega) (fun f' hf' hd => hall f' hf' (px_dv_trans hd ⟨f, by rw [e, px_m_comm]⟩))
      obtain ⟨u, eu⟩ := hq2
      obtain ⟨v, ev⟩ := hall f hf ⟨q, e⟩
      refine ⟨px_m u v, ?_⟩
      show px_m (px_pw g n) g = _
      rw [eu, e]
      conv => lhs; rw [ev]
      rw [px_m_assoc, px_m_assoc, px_m_left_comm f q, px_m_left_comm f u]
/-! the product of all residues but 0: x^(2^d - 1) leaves 1 -/
def px_pd : List Nat → Nat
  | [] => 1
  | a :: l => px_m a (px_pd l)
theorem px_pd_perm {l1 l2 : List Nat} (h : l1.Perm l2) : px_pd l1 = px_pd l2 := by
  induction h with
  | nil => rfl
  | cons a _ ih => show px_m a _ = px_m a _; rw [ih]
  | swap a b l => show px_m b (px_m a (px_pd l)) = px_m a (px_m b (px_pd l)); exact px_m_left_comm _ _ _
  | trans _ _ ih1 ih2 => exact ih1.trans ih2
theorem px_perm_of : ∀ (l1 l2 : List Nat), l1.Nodup → (∀ a ∈ l1, a ∈ l2) → l2.length ≤ l1.length → l1.Perm l2 := by
  intro l1
  induction l1 with
  | nil =>
    intro l2 _ _ h
    have e : l2 = [] := List.eq_nil_of_length_eq_zero (Nat.le_zero.mp h)
    subst e
    exact List.Perm.refl _
  | cons a t ih =>
    intro l2 hn hs hl
    obtain ⟨ha, ht⟩ := List.nodup_cons.mp hn
    have hm : a ∈ l2 := hs a List.mem_cons_self
    have h2 := List.length_erase_of_mem hm
    refine ((ih (l2.erase a) ht (fun b hb => ?_) ?_).cons a).trans (List.perm_cons_erase hm).symm
    · exact (List.mem_erase_of_ne (fun e : b = a => ha (by rw [← e]; exact hb))).mpr (hs b (List.mem_cons_of_mem _ hb))
    · simp only [List.length_cons] at hl
      omega
def px_st (f d r : Nat) : Nat := if 2 * r < 2 ^ d then 2 * r else 2 * r ^^^ f
theorem px_st_lt {f d r : Nat} (hf : 2 ^ d ≤ f) (hf' : f < 2 ^ (d + 1)) (hr : r < 2 ^ d) : px_st f d r < 2 ^ d := by
  unfold px_st
  split
  · assumption
  · exact px_tops (by omega) (by rw [Nat.pow_succ]; omega) hf hf'
theorem px_st_cg (f d r : Nat) : px_cg f (px_st f d r) (px_m 2 r) := by
  rw [px_m_comm, px_m_two]
  unfold px_st
  split
  · exact px_cg_refl _ _
  · unfold px_cg
    rw [Nat.xor_comm (2 * r) f, px_cc]
    exact px_dv_refl f
theorem px_pd_st (f d : Nat) : ∀ l : List Nat, px_cg f (px_pd (l.map (px_st f d))) (px_m (px_pw 2 l.length) (px_pd l)) := by
  intro l
  induction l with
  | nil => exact px_cg_of (px_m_one 1).symm
  | cons a t ih =>
    show px_cg f (px_m (px_st f d a) (px_pd (t.map (px_st f d)))) (px_m (px_m (px_pw 2 t.length) 2) (px_m a (px_pd t)))
    refine px_cg_trans (px_cg_m (px_st_cg f d a) ih) (px_cg_of ?_)
    rw [px_m_assoc, px_m_assoc, px_m_left_comm a (px_pw 2 t.length), px_m_left_comm 2 (px_pw 2 t.length)]
theorem px_pd_dv {f : Nat} (hf : px_ir f) : ∀ l : List Nat, (∀ a ∈ l, ¬ px_dv f a) → ¬ px_dv f (px_pd l) := by
  intro l
  induction l with
  | nil => intro _ h; have := px_dv_unit h; have := hf.1; omega
  | cons a t ih =>
    intro hl h
    rcases px_euclid hf h with h1 | h1
    · exact hl a List.mem_cons_self h1
    · exact ih (fun b hb => hl b (List.mem_cons_of_mem _ hb)) h1
theorem px_odd_dv2 {f : Nat} (hf : 2 ≤ f) (ho : f % 2 = 1) : ¬ px_dv f 2 := by
  rintro ⟨q, e⟩
  by_cases hq : q = 0
  · rw [hq, px_m_zero] at e; omega
  · have hl := px_log (a := f) (b := q) (by omega) hq
    rw [← e] at hl
    have h1 := px_log_pos hf
    have h2 : Nat.log2 2 = 1 := px_lg (i := 1) (by decide) (by decide)
    have hq0 : q.log2 = 0 := by omega
    have := px_lg2 q
    rw [hq0] at this
    have : q = 1 := by simp at this; omega
    rw [this, px_m_one] at e
    omega
theorem px_fermat {f d : Nat} (hf : px_ir f) (ho : f % 2 = 1) (h1 : 2 ^ d ≤ f) (h2 : f < 2 ^ (d + 1)) : px_dv f (2 ^ (2 ^ d - 1) ^^^ 1) := by
  have hS : ∀ a ∈ List.range' 1 (2 ^ d - 1), ¬ px_dv f a := by
    intro a ha hd
    rw [List.mem_range'_1] at ha
    have := px_dv_small hd (j := d) (by omega) h1
    omega
  have hlen : (List.range' 1 (2 ^ d - 1)).length = 2 ^ d - 1 := List.length_range'
  have hnd : ((List.range' 1 (2 ^ d - 1)).map (px_st f d)).Nodup := by
    unfold List.Nodup
    rw [List.pairwise_map]
    refine List.Pairwise.imp_of_mem ?_ (List.nodup_range' (s := 1) (n := 2 ^ d - 1))
    intro a b ha hb hab e
    rw [List.mem_range'_1] at ha hb
    apply hab
    have hc : px_cg f (px_m 2 a) (px_m 2 b) := by
      refine px_cg_trans (px_cg_symm (px_st_cg f d a)) ?_
      rw [e]
      exact px_st_cg f d b
    unfold px_cg at hc
    rw [← px_m_xor_right] at hc
    rcases px_euclid hf hc with h3 | h3
    · exact absurd h3 (px_odd_dv2 hf.1 ho)
    · exact px_uniq h1 (by omega) (by omega) h3
  have hsub : ∀ a ∈ (List.range' 1 (2 ^ d - 1)).map (px_st f d), a ∈ List.range' 1 (2 ^ d - 1) := by
    intro a ha
    obtain ⟨r, hr, rfl⟩ := List.mem_map.mp ha
    have hr' := hr
    rw [List.mem_range'_1] at hr ⊢
    have hlt := px_st_lt h1 h2 (r := r) (by omega)
    have hne : px_st f d r ≠ 0 := by
      intro e
      have hc := px_st_cg f d r
      rw [e] at hc
      unfold px_cg at hc
      rw [Nat.zero_xor] at hc
      rcases px_euclid hf hc with h3 | h3
      · exact px_odd_dv2 hf.1 ho h3
      · exact hS r hr' h3
    omega
  have hperm := px_perm_of _ _ hnd hsub (by rw [List.length_map]; exact Nat.le_refl _)
  have hc := px_pd_st f d (List.range' 1 (2 ^ d - 1))
  rw [px_pd_perm hperm, hlen, px_pw_two] at hc
  unfold px_cg at hc
  have e : px_pd (List.range' 1 (2 ^ d - 1)) ^^^ px_m (2 ^ (2 ^ d - 1)) (px_pd (List.range' 1 (2 ^ d - 1))) = px_m (2 ^ (2 ^ d - 1) ^^^ 1) (px_pd (List.range' 1 (2 ^ d - 1))) := by
    rw [px_m_xor_left, px_m_one_left, Nat.xor_comm]
  rw [e] at hc
  rcases px_euclid hf hc with h3 | h3
  · exact h3
  · exact absurd h3 (px_pd_dv hf _ hS)
theorem px_fermat2 {f d : Nat} (hf : px_ir f) (ho : f % 2 = 1) (h1 : 2 ^ d ≤ f) (h2 : f < 2 ^ (d + 1)) : px_dv f (2 ^ 2 ^ d ^^^ 2) := by
  have h := px_dv_ml (px_fermat hf ho h1 h2) 2
  rw [px_m_xor_left, px_m_one_left, px_m_two] at h
  have e : 2 * 2 ^ (2 ^ d - 1) = 2 ^ 2 ^ d := by
    have := Nat.two_pow_pos d
    rw [Nat.mul_comm, ← Nat.pow_succ, show Nat.succ (2 ^ d - 1) = 2 ^ d by omega]
  rwa [e] at h
/-! roots: a polynomial of degree D has no more than D roots among the residues modulo an irreducible one -/
def px_ev : List Nat → Nat → Nat
  | [], _ => 1
  | c :: l, y => px_m y (px_ev l y) ^^^ c
def px_qu (a : Nat) : List Nat → List Nat
  | [] => []
  | [_] => []
  | _ :: c :: l => px_ev (c :: l) a :: px_qu a (c :: l)
theorem px_qu_len (a : Nat) : ∀ l : List Nat, (px_qu a l).length = l.length - 1
  | [] => rfl
  | [_] => rfl
  | _ :: c :: l => by
    show (px_qu a (c :: l)).length + 1 = _
    rw [px_qu_len a (c :: l)]
    simp
theorem px_qu_ok (a y : Nat) : ∀ (l : List Nat), l ≠ [] → px_ev l y ^^^ px_ev l a = px_m (y ^^^ a) (px_ev (px_qu a l) y)
  | [], h => absurd rfl h
  | [c], _ => by
    show px_m y 1 ^^^ c ^^^ (px_m a 1 ^^^ c) = px_m (y ^^^ a) 1
    rw [px_m_one, px_m_one, px_m_one, show y ^^^ c ^^^ (a ^^^ c) = y ^^^ a ^^^ c ^^^ c by ac_rfl, px_cc]
  | c :: d :: l, _ => by
    have ih := px_qu_ok a y (d :: l) (by simp)
    show px_m y (px_ev (d :: l) y) ^^^ c ^^^ (px_m a (px_ev (d :: l) a) ^^^ c) = px_m (y ^^^ a) (px_m y (px_ev (px_qu a (d :: l)) y) ^^^ px_ev (d :: l) a)
    generalize px_ev (d :: l) y = Ey at *
    generalize px_ev (d :: l) a = Ea at *
    rw [px_m_xor_right, px_m_left_comm, ← ih, px_m_xor_right, px_m_xor_left]
    rw [show px_m y Ey ^^^ c ^^^ (px_m a Ea ^^^ c) = px_m y Ey ^^^ px_m a Ea ^^^ c ^^^ c by ac_rfl, px_cc]
    rw [show px_m y Ey ^^^ px_m y Ea ^^^ (px_m y Ea ^^^ px_m a Ea) = px_m y Ey ^^^ px_m a Ea ^^^ px_m y Ea ^^^ px_m y Ea by ac_rfl, px_cc]
theorem px_roots {p n : Nat} (hp : px_ir p) (hn : 2 ^ n ≤ p) : ∀ (k : Nat) (l R : List Nat), l.length = k → R.Nodup → (∀ a ∈ R, a < 2 ^ n ∧ px_dv p (px_ev l a)) → R.length ≤ k := by
  intro k
  induction k with
  | zero =>
    intro l R hl hR h
    rw [List.eq_nil_of_length_eq_zero hl] at h
    cases R with
    | nil => exact Nat.le_refl _
    | cons a R =>
      have := px_dv_unit (h a List.mem_cons_self).2
      have := hp.1
      omega
  | succ k ih =>
    intro l R hl hR h
    cases R with
    | nil => exact Nat.zero_le _
    | cons a R =>
      obtain ⟨ha, hR'⟩ := List.nodup_cons.mp hR
      have h0 := h a List.mem_cons_self
      have := ih (px_qu a l) R (by rw [px_qu_len, hl]; rfl) hR' (fun b hb => by
        have hb' := h b (List.mem_cons_of_mem _ hb)
        refine ⟨hb'.1, ?_⟩
        have hd := px_dv_xor hb'.2 h0.2
        rw [px_qu_ok a b l (fun e => by rw [e] at hl; cases hl)] at hd
        rcases px_euclid hp hd with h1 | h1
        · exact absurd (px_uniq hn hb'.1 h0.1 h1) (fun e => ha (e ▸ hb))
        · exact h1)
      simp only [List.length_cons]
      omega
theorem px_ev_zeros (y : Nat) : ∀ k, px_ev (List.replicate k 0) y = px_pw y k
  | 0 => rfl
  | k + 1 => by
    show px_m y (px_ev (List.replicate k 0) y) ^^^ 0 = px_m (px_pw y k) y
    rw [px_ev_zeros y k, Nat.xor_zero, px_m_comm]
/-- for every residue y: y^(2^d) leaves y, if x^(2^d) leaves x -/
theorem px_all {p d : Nat} (h : px_cg p (2 ^ 2 ^ d) 2) : ∀ y : Nat, px_cg p (px_pw y (2 ^ d)) y := by
  intro y
  induction y using px_bin with
  | h0 =>
    have hz : ∀ k, px_pw 0 (k + 1) = 0 := fun k => by show px_m (px_pw 0 k) 0 = 0; exact px_m_zero _
    have := Nat.two_pow_pos d
    rw [show 2 ^ d = 2 ^ d - 1 + 1 by omega, hz]
    exact px_cg_refl p 0
  | h y ih =>
    rw [← px_m_two, px_pw_mm, px_pw_two]
    exact px_cg_m ih h
  | h1 y ih =>
    rw [← px_d1, px_frob, px_pw_one_left, ← px_m_two, px_pw_mm, px_pw_two]
    exact px_cg_xor (px_cg_m ih h) (px_cg_refl p 1)
theorem px_big {p n d : Nat} (hp : px_ir p) (hn : 2 ^ n ≤ p) (hd : 1 ≤ d) (h : px_dv p (2 ^ 2 ^ d ^^^ 2)) : n ≤ d := by
  have h2 : 2 ^ 1 ≤ 2 ^ d := Nat.pow_le_pow_right (by decide) hd
  have hlen : (0 :: 1 :: List.replicate (2 ^ d - 2) 0).length = 2 ^ d := by
    simp only [List.length_cons, List.length_replicate]
    omega
  have hr := px_roots hp hn (2 ^ d) (0 :: 1 :: List.replicate (2 ^ d - 2) 0) (List.range (2 ^ n)) hlen List.nodup_range (fun a ha => by
    refine ⟨List.mem_range.mp ha, ?_⟩
    show px_dv p (px_m a (px_m a (px_ev (List.replicate (2 ^ d - 2) 0) a) ^^^ 1) ^^^ 0)
    rw [Nat.xor_zero, px_m_xor_right, px_m_one, px_ev_zeros]
    have e : px_m a (px_m a (px_pw a (2 ^ d - 2))) = px_pw a (2 ^ d) := by
      rw [show px_pw a (2 ^ d) = px_pw a (2 ^ d - 2 + 1 + 1) by rw [show 2 ^ d - 2 + 1 + 1 = 2 ^ d by omega]]
      show _ = px_m (px_m (px_pw a (2 ^ d - 2)) a) a
      rw [px_m_comm (px_pw a (2 ^ d - 2)) a, px_m_comm _ a]
    rw [e]
    exact px_all h a)
  rw [List.length_range] at hr
  exact (Nat.pow_le_pow_iff_right (by decide)).mp hr
end
section
/-! orders: px_o p k: x^k leaves 1 -/
def px_o (p k : Nat) : Prop := px_dv p (2 ^ k ^^^ 1)
theorem px_2add (a b : Nat) : 2 ^ (a + b) = px_m (2 ^ a) (2 ^ b) := by rw [← px_pw_two, ← px_pw_two, ← px_pw_two, px_pw_add]
theorem px_o_0 (p : Nat) : px_o p 0 := by unfold px_o; rw [Nat.pow_zero, Nat.xor_self]; exact px_dv_zero p
theorem px_o_add {p a b : Nat} (ha : px_o p a) (hb : px_o p b) : px_o p (a + b) := by
  have h : px_cg p (px_m (2 ^ a) (2 ^ b)) (px_m 1 1) := px_cg_m ha hb
  rw [px_m_one, ← px_2add] at h
  exact h
theorem px_o_sub {p a b : Nat} (h : px_o p (a + b)) (ha : px_o p a) : px_o p b := by
  have h1 : px_cg p (px_m (2 ^ a) (2 ^ b)) (px_m 1 (2 ^ b)) := px_cg_m ha (px_cg_refl p _)
  rw [px_m_one_left, ← px_2add] at h1
  exact px_cg_trans (px_cg_symm h1) h
theorem px_o_mul {p a : Nat} (ha : px_o p a) (k : Nat) : px_o p (a * k) := by
  induction k with
  | zero => exact px_o_0 p
  | succ k ih => rw [Nat.mul_succ]; exact px_o_add ih ha
theorem px_o_dvd {p a b : Nat} (ha : px_o p a) (h : a ∣ b) : px_o p b := by
  obtain ⟨k, rfl⟩ := h
  exact px_o_mul ha k
def px_ord (p k : Nat) : Prop := 0 < k ∧ px_o p k ∧ ∀ j, 0 < j → j < k → ¬ px_o p j
theorem px_ord_dvd {p k m : Nat} (h : px_ord p k) (hm : px_o p m) : k ∣ m := by
  have e := Nat.div_add_mod m k
  have h1 : px_o p (m % k) := by
    rw [← e] at hm
    exact px_o_sub hm (px_o_mul h.2.1 _)
  have h2 := Nat.mod_lt m h.1
  by_cases h0 : m % k = 0
  · exact Nat.dvd_of_mod_eq_zero h0
  · exact absurd h1 (h.2.2 _ (by omega) h2)
theorem px_ord_ex {p m : Nat} (h0 : 0 < m) (hm : px_o p m) : ∃ k, px_ord p k := by
  obtain ⟨k, ⟨h1, h2⟩, h3⟩ := pk_least (fun k => 0 < k ∧ px_o p k) ⟨m, h0, hm⟩
  exact ⟨k, h1, h2, fun j hj hjk hp => h3 j hjk ⟨hj, hp⟩⟩
theorem px_ord_uniq {p k j : Nat} (h1 : px_ord p k) (h2 : px_ord p j) : k = j := Nat.dvd_antisymm (px_ord_dvd h1 h2.2.1) (px_ord_dvd h2 h1.2.1)
/-! primes -/
def np (q : Nat) : Prop := 2 ≤ q ∧ ∀ d, d ∣ q → d = 1 ∨ d = q
theorem np_ex : ∀ n : Nat, 2 ≤ n → ∃ q, np q ∧ q ∣ n := by
  intro n
  induction n using Nat.strongRecOn with
  | _ n ih =>
    intro hn
    by_cases hp : np n
    · exact ⟨n, hp, Nat.dvd_refl n⟩
    · have : ∃ d, d ∣ n ∧ d ≠ 1 ∧ d ≠ n := by
        apply Classical.byContradiction
        intro hc
        apply hp
        refine ⟨hn, fun d hd => ?_⟩
        by_cases h1 : d = 1
        · exact Or.inl h1
        · by_cases h2 : d = n
          · exact Or.inr h2
          · exact absurd ⟨d, hd, h1, h2⟩ hc
      obtain ⟨d, hd, h1, h2⟩ := this
      have hle := Nat.le_of_dvd (by omega) hd
      have hd0 : d ≠ 0 := fun e => by rw [e] at hd; have := Nat.eq_zero_of_zero_dvd hd; omega
      obtain ⟨q, hq, hqd⟩ := ih d (by omega) (by omega)
      exact ⟨q, hq, Nat.dvd_trans hqd hd⟩
theorem np_euclid {q a b : Nat} (hq : np q) (h : q ∣ a * b) : q ∣ a ∨ q ∣ b := by
  rcases hq.2 (Nat.gcd q a) (Nat.gcd_dvd_left q a) with e | e
  · right
    have hc : Nat.Coprime q a := e
    exact hc.dvd_of_dvd_mul_left h
  · left
    rw [← e]
    exact Nat.gcd_dvd_right q a
theorem np_eq {q r : Nat} (hq : np q) (hr : np r) (h : q ∣ r) : q = r := by
  rcases hr.2 q h with e | e
  · have := hq.1; omega
  · exact e
def np_pr : List Nat → Nat
  | [] => 1
  | a :: l => a * np_pr l
theorem np_list {q : Nat} (hq : np q) : ∀ l : List Nat, q ∣ np_pr l → ∃ a ∈ l, q ∣ a
  | [], h => by
    have h1 : np_pr [] = 1 := rfl
    rw [h1] at h
    have := Nat.le_of_dvd (by decide) h
    have := hq.1
    omega
  | a :: l, h => by
    rcases np_euclid hq h with h1 | h1
    · exact ⟨a, List.mem_cons_self, h1⟩
    · obtain ⟨b, hb, hd⟩ := np_list hq l h1
      exact ⟨b, List.mem_cons_of_mem _ hb, hd⟩
def np_chk (q N : Nat) : Nat → Bool
  | 0 => true
  | f + 1 => (q % (N - f) != 0) && np_chk q N f
theorem np_chk_ok (q N : Nat) : ∀ f, np_chk q N f = true → ∀ d, N - f < d → d ≤ N → q % d ≠ 0 := by
  intro f
  induction f with
  | zero => intro _ d h1 h2; omega
  | succ f ih =>
    intro h d h1 h2
    simp only [np_chk, Bool.and_eq_true, bne_iff_ne, ne_eq] at h
    by_cases e : d = N - f
    · rw [e]; exact h.1
    · exact ih h.2 d (by omega) h2
theorem np_of {q N : Nat} (h2 : 2 ≤ q) (hN : q < (N + 1) * (N + 1)) (h1 : 1 ≤ N) (h : np_chk q N (N - 1) = true) : np q := by
  refine ⟨h2, fun d hd => ?_⟩
  obtain ⟨k, e⟩ := hd
  by_cases hd1 : d = 1
  · exact Or.inl hd1
  · by_cases hk1 : k = 1
    · right; rw [e, hk1, Nat.mul_one]
    · exfalso
      have hd0 : d ≠ 0 := fun z => by rw [z, Nat.zero_mul] at e; omega
      have hk0 : k ≠ 0 := fun z => by rw [z, Nat.mul_zero] at e; omega
      by_cases hle : d ≤ N
      · exact np_chk_ok q N _ h d (by omega) hle (by rw [e]; exact Nat.mul_mod_right d k)
      · by_cases hle2 : k ≤ N
        · exact np_chk_ok q N _ h k (by omega) hle2 (by rw [e]; exact Nat.mul_mod_left d k)
        · have := Nat.mul_le_mul (show N + 1 ≤ d by omega) (show N + 1 ≤ k by omega)
          omega
/-- an order, told by the primes of a multiple -/
theorem px_ord_crit {p m : Nat} (h0 : 0 < m) (hm : px_o p m) (h : ∀ q, np q → q ∣ m → ¬ px_o p (m / q)) : px_ord p m := by
  obtain ⟨k, hk⟩ := px_ord_ex h0 hm
  obtain ⟨t, e⟩ := px_ord_dvd hk hm
  by_cases ht : t = 1
  · rw [e, ht, Nat.mul_one]; exact hk
  · exfalso
    have ht0 : t ≠ 0 := fun z => by rw [z, Nat.mul_zero] at e; omega
    obtain ⟨q, hq, s, es⟩ := np_ex t (by omega)
    have hq0 := hq.1
    have e2 : m = q * (k * s) := by rw [e, es, Nat.mul_left_comm]
    refine h q hq ⟨k * s, e2⟩ ?_
    rw [e2, Nat.mul_div_cancel_left _ (by omega)]
    exact px_o_mul hk.2.1 s
theorem px_ord_crit' {p m : Nat} (h : px_ord p m) : ∀ q, np q → q ∣ m → ¬ px_o p (m / q) := by
  intro q hq hd
  have h0 := h.1
  have := hq.1
  refine h.2.2 _ (Nat.div_pos (Nat.le_of_dvd h0 hd) (by omega)) (Nat.div_lt_self h0 (by omega))
/-! the program's way: needless primes are divided out, one after the other -/
def ow_1 (o : Nat → Bool) (q : Nat) : Nat → Nat → Nat
  | 0, m => m
  | f + 1, m => if m % q = 0 then (if o (m / q) = true then ow_1 o q f (m / q) else m) else m
def ow_A (o : Nat → Bool) : List Nat → Nat → Nat
  | [], m => m
  | q :: l, m => ow_A o l (ow_1 o q 64 m)
theorem ow_1_ok {p : Nat} {o : Nat → Bool} (ho : ∀ e, o e = true ↔ px_o p e) {q : Nat} (hq : 2 ≤ q) : ∀ (f m : Nat), 0 < m → m < 2 ^ f → px_o p m → 0 < ow_1 o q f m ∧ px_o p (ow_1 o q f m) ∧ ow_1 o q f m ∣ m ∧ ¬ (q ∣ ow_1 o q f m ∧ px_o p (ow_1 o q f m / q)) := by
  intro f
  induction f with
  | zero => intro m h0 h1; simp at h1; omega
  | succ f ih =>
    intro m h0 h1 hm
    by_cases hd : m % q = 0
    · by_cases hx : o (m / q) = true
      · have e : ow_1 o q (f + 1) m = ow_1 o q f (m / q) := by simp only [ow_1, hd, hx, if_true]
        rw [e]
        have hle : q ≤ m := Nat.le_of_dvd h0 (Nat.dvd_of_mod_eq_zero hd)
        have hlt : m / q < 2 ^ f := by
          rw [Nat.div_lt_iff_lt_mul (by omega)]
          have : 2 ^ f * 2 ≤ 2 ^ f * q := Nat.mul_le_mul_left _ hq
          rw [Nat.pow_succ] at h1
          omega
        obtain ⟨q1, q2, q3, q4⟩ := ih (m / q) (Nat.div_pos hle (by omega)) hlt ((ho _).mp hx)
        exact ⟨q1, q2, Nat.dvd_trans q3 (Nat.div_dvd_of_dvd (Nat.dvd_of_mod_eq_zero hd)), q4⟩
      · have e : ow_1 o q (f + 1) m = m := by simp only [ow_1, hd, hx, if_true]; rfl
        rw [e]
        exact ⟨h0, hm, Nat.dvd_refl m, fun z => hx ((ho _).mpr z.2)⟩
    · have e : ow_1 o q (f + 1) m = m := by simp only [ow_1, hd, if_false]
      rw [e]
      exact ⟨h0, hm, Nat.dvd_refl m, fun z => hd (Nat.mod_eq_zero_of_dvd z.1)⟩
theorem ow_A_ok {p : Nat} {o : Nat → Bool} (ho : ∀ e, o e = true ↔ px_o p e) : ∀ (l : List Nat) (m : Nat), (∀ q ∈ l, 2 ≤ q) → 0 < m → m < 2 ^ 64 → px_o p m → 0 < ow_A o l m ∧ px_o p (ow_A o l m) ∧ ow_A o l m ∣ m ∧ ∀ q ∈ l, ¬ (q ∣ ow_A o l m ∧ px_o p (ow_A o l m / q)) := by
  intro l
  induction l with
  | nil => intro m _ h0 _ hm; exact ⟨h0, hm, Nat.dvd_refl m, fun q hq => absurd hq List.not_mem_nil⟩
  | cons a l ih =>
    intro m hl h0 h1 hm
    have ha : 2 ≤ a := hl a List.mem_cons_self
    obtain ⟨q1, q2, q3, q4⟩ := ow_1_ok ho ha 64 m h0 h1 hm
    have hle := Nat.le_of_dvd h0 q3
    obtain ⟨r1, r2, r3, r4⟩ := ih (ow_1 o a 64 m) (fun q hq => hl q (List.mem_cons_of_mem _ hq)) q1 (by omega) q2
    refine ⟨r1, r2, Nat.dvd_trans r3 q3, fun q hq => ?_⟩
    show ¬ (q ∣ ow_A o l (ow_1 o a 64 m) ∧ px_o p (ow_A o l (ow_1 o a 64 m) / q))
    rcases List.mem_cons.mp hq with e | e
    · subst e
      intro z
      refine q4 ⟨Nat.dvd_trans z.1 r3, px_o_dvd z.2 ?_⟩
      obtain ⟨k, ek⟩ := r3
      obtain ⟨j, ej⟩ := z.1
      have e1 : ow_A o l (ow_1 o q 64 m) / q = j := by rw [ej, Nat.mul_div_cancel_left _ (by omega)]
      have e2 : ow_1 o q 64 m = q * (j * k) := by rw [← Nat.mul_assoc, ← ej]; exact ek
      have e3 : ow_1 o q 64 m / q = j * k := by rw [e2, Nat.mul_div_cancel_left _ (by omega)]
      rw [e1, e3]
      exact ⟨k, rfl⟩
    · exact r4 q e
theorem ow_ord {p : Nat} {o : Nat → Bool} (ho : ∀ e, o e = true ↔ px_o p e) {l : List Nat} {m : Nat} (hl : ∀ q ∈ l, 2 ≤ q) (h0 : 0 < m) (h1 : m < 2 ^ 64) (hm : px_o p m) (hall : ∀ q, np q → q ∣ m → q ∈ l) : px_ord p (ow_A o l m) := by
  obtain ⟨r1, r2, r3, r4⟩ := ow_A_ok ho l m hl h0 h1 hm
  exact px_ord_crit r1 r2 (fun q hq hd hx => r4 q (hall q hq (Nat.dvd_trans hd r3)) ⟨hd, hx⟩)
/-! the other way: trial division up to the root -/
def td_1 (q : Nat) : Nat → Nat → Nat
  | 0, r => r
  | f + 1, r => if r % q = 0 then td_1 q f (r / q) else r
def td_A (o : Nat → Bool) (all : Nat) : Nat → Nat → Nat → Bool → Nat × Bool
  | 0, _, r, b => (r, b)
  | f + 1, q, r, b => if q * q ≤ all then td_A o all f (q + 1) (td_1 q 64 r) (if r % q = 0 then (b && !(o (all / q))) else b) else (r, b)
theorem td_1_ok {q : Nat} (hq : 2 ≤ q) : ∀ (f r : Nat), 0 < r → r < 2 ^ f → 0 < td_1 q f r ∧ td_1 q f r ∣ r ∧ ¬ q ∣ td_1 q f r ∧ ∀ t, np t → t ∣ r → t ∣ q ∨ t ∣ td_1 q f r := by
  intro f
  induction f with
  | zero => intro r h0 h1; simp at h1; omega
  | succ f ih =>
    intro r h0 h1
    by_cases hd : r % q = 0
    · have e : td_1 q (f + 1) r = td_1 q f (r / q) := by simp only [td_1, hd, if_true]
      rw [e]
      have hdv := Nat.dvd_of_mod_eq_zero hd
      have hle : q ≤ r := Nat.le_of_dvd h0 hdv
      have hlt : r / q < 2 ^ f := by
        rw [Nat.div_lt_iff_lt_mul (by omega)]
        have : 2 ^ f * 2 ≤ 2 ^ f * q := Nat.mul_le_mul_left _ hq
        rw [Nat.pow_succ] at h1
        omega
      obtain ⟨q1, q2, q3, q4⟩ := ih (r / q) (Nat.div_pos hle (by omega)) hlt
      refine ⟨q1, Nat.dvd_trans q2 (Nat.div_dvd_of_dvd hdv), q3, fun t ht htr => ?_⟩
      rw [← Nat.mul_div_cancel' hdv] at htr
      rcases np_euclid ht htr with h2 | h2
      · exact Or.inl h2
      · exact q4 t ht h2
    · have e : td_1 q (f + 1) r = r := by simp only [td_1, hd, if_false]
      rw [e]
      exact ⟨h0, Nat.dvd_refl r, fun z => hd (Nat.mod_eq_zero_of_dvd z), fun t _ h => Or.inr h⟩
/-- what holds at q: rest divides all; its primes are q or more; a prime of all that is q or more divides rest; b tells the primes below q -/
def td_I (o : Nat → Bool) (all q r : Nat) (b : Bool) : Prop :=
  0 < r ∧ r ∣ all ∧ (∀ t, np t → t ∣ r → q ≤ t) ∧ (∀ t, np t → t ∣ all → q ≤ t → t ∣ r) ∧ (b = true ↔ ∀ t, np t → t ∣ all → t < q → o (all / t) = false)
theorem td_turn {o : Nat → Bool} {all q r : Nat} {b : Bool} (hall : 0 < all) (hlt : all < 2 ^ 64) (hq : 2 ≤ q) (h : td_I o all q r b) : td_I o all (q + 1) (td_1 q 64 r) (if r % q = 0 then (b && !(o (all / q))) else b) := by
  obtain ⟨h1, h2, h3, h4, h5⟩ := h
  have hle := Nat.le_of_dvd hall h2
  obtain ⟨q1, q2, q3, q4⟩ := td_1_ok hq 64 r h1 (by omega)
  refine ⟨q1, Nat.dvd_trans q2 h2, fun t ht htr => ?_, fun t ht hta hle2 => ?_, ?_⟩
  · have := h3 t ht (Nat.dvd_trans htr q2)
    by_cases e : t = q
    · subst e; exact absurd htr q3
    · omega
  · rcases q4 t ht (h4 t ht hta (by omega)) with h6 | h6
    · have := Nat.le_of_dvd (by omega) h6
      omega
    · exact h6
  · by_cases hd : r % q = 0
    · have hdv := Nat.dvd_of_mod_eq_zero hd
      have hpq : np q := by
        obtain ⟨t, ht, htq⟩ := np_ex q hq
        have := h3 t ht (Nat.dvd_trans htq hdv)
        have := Nat.le_of_dvd (by omega) htq
        have : t = q := by omega
        rwa [← this]
      rw [if_pos hd, Bool.and_eq_true, h5]
      constructor
      · rintro ⟨a1, a2⟩ t ht hta hlt2
        by_cases e : t = q
        · subst e; simpa using a2
        · exact a1 t ht hta (by omega)
      · intro a
        refine ⟨fun t ht hta hlt2 => a t ht hta (by omega), ?_⟩
        have := a q hpq (Nat.dvd_trans hdv h2) (by omega)
        simp [this]
    · rw [if_neg hd, h5]
      constructor
      · intro a t ht hta hlt2
        by_cases e : t = q
        · subst e
          exact absurd (Nat.mod_eq_zero_of_dvd (h4 t ht hta (Nat.le_refl _))) hd
        · exact a t ht hta (by omega)
      · intro a t ht hta hlt2
        exact a t ht hta (by omega)
theorem td_A_ok {o : Nat → Bool} {all : Nat} (hall : 0 < all) (hlt : all < 2 ^ 64) : ∀ (f q r : Nat) (b : Bool), 2 ≤ q → all < (q + f) * (q + f) → td_I o all q r b → ∃ q', 2 ≤ q' ∧ all < q' * q' ∧ td_I o all q' (td_A o all f q r b).1 (td_A o all f q r b).2 := by
  intro f
  induction f with
  | zero => intro q r b hq hlt2 h; exact ⟨q, hq, hlt2, h⟩
  | succ f ih =>
    intro q r b hq hlt2 h
    by_cases hc : q * q ≤ all
    · have e : td_A o all (f + 1) q r b = td_A o all f (q + 1) (td_1 q 64 r) (if r % q = 0 then (b && !(o (all / q))) else b) := by simp only [td_A, hc, if_true]
      rw [e]
      exact ih (q + 1) _ _ (by omega) (by rw [show q + 1 + f = q + (f + 1) by omega]; exact hlt2) (td_turn hall hlt hq h)
    · have e : td_A o all (f + 1) q r b = (r, b) := by simp only [td_A, hc, if_false]
      rw [e]
      exact ⟨q, hq, by omega, h⟩
theorem td_end {o : Nat → Bool} {all q r : Nat} {b : Bool} (hall : 0 < all) (h : td_I o all q r b) (hq : all < q * q) : (b = true ∧ (r = 1 ∨ (r = all ∧ all = 1) ∨ o (all / r) = false)) ↔ ∀ t, np t → t ∣ all → o (all / t) = false := by
  obtain ⟨h1, h2, h3, h4, h5⟩ := h
  have hr1 : r = 1 ∨ np r := by
    by_cases e : r = 1
    · exact Or.inl e
    · right
      refine ⟨by omega, fun d hd => ?_⟩
      by_cases hd1 : d = 1
      · exact Or.inl hd1
      · right
        obtain ⟨k, ek⟩ := hd
        by_cases hk1 : k = 1
        · rw [ek, hk1, Nat.mul_one]
        · exfalso
          have hd0 : d ≠ 0 := fun z => by rw [z, Nat.zero_mul] at ek; omega
          have hk0 : k ≠ 0 := fun z => by rw [z, Nat.mul_zero] at ek; omega
          obtain ⟨t, ht, htd⟩ := np_ex d (by omega)
          obtain ⟨u, hu, huk⟩ := np_ex k (by omega)
          have a1 := h3 t ht (Nat.dvd_trans htd ⟨k, ek⟩)
          have a2 := h3 u hu (Nat.dvd_trans huk ⟨d, by rw [ek, Nat.mul_comm]⟩)
          have a3 := Nat.le_of_dvd (by omega) htd
          have a4 := Nat.le_of_dvd (by omega) huk
          have a5 := Nat.mul_le_mul (show q ≤ d by omega) (show q ≤ k by omega)
          have a6 := Nat.le_of_dvd hall h2
          omega
  constructor
  · rintro ⟨hb, hc⟩ t ht hta
    by_cases hlt : t < q
    · exact h5.mp hb t ht hta hlt
    · have htr := h4 t ht hta (by omega)
      have := ht.1
      have := Nat.le_of_dvd h1 htr
      rcases hr1 with e | e
      · omega
      · have et := np_eq ht e htr
        subst et
        rcases hc with c | c | c
        · omega
        · omega
        · exact c
  · intro a
    refine ⟨h5.mpr (fun t ht hta _ => a t ht hta), ?_⟩
    rcases hr1 with e | e
    · exact Or.inl e
    · exact Or.inr (Or.inr (a r e h2))
theorem td_prim {p : Nat} {o : Nat → Bool} (ho : ∀ e, o e = true ↔ px_o p e) {all : Nat} (hall : 0 < all) (hx : px_o p all) : (∀ t, np t → t ∣ all → o (all / t) = false) ↔ px_ord p all := by
  constructor
  · intro a
    refine px_ord_crit hall hx (fun q hq hd hc => ?_)
    have := a q hq hd
    rw [(ho _).mpr hc] at this
    cases this
  · intro h t ht hta
    have := px_ord_crit' h t ht hta
    cases hv : o (all / t)
    · rfl
    · exact absurd ((ho _).mp hv) this
theorem td_start {o : Nat → Bool} {all : Nat} (hall : 0 < all) : td_I o all 2 all true :=
  ⟨hall, Nat.dvd_refl all, fun _ ht _ => ht.1, fun _ _ h _ => h, ⟨fun _ t ht _ hlt => by have := ht.1; omega, fun _ => rfl⟩⟩
/-! the program's table -/
def pr_T : List Nat := [2, 3, 5, 7, 11, 13, 17, 19, 23, 29, 31, 41, 43, 47, 73, 89, 113, 127, 151, 233, 241, 257, 331, 337, 601, 683, 1103, 1801, 2089, 2731, 8191, 65537, 131071, 178481, 262657, 524287, 2147483647]
def pr_F : List (List Nat) := [[], [], [3], [7], [3, 5], [31], [3, 3, 7], [127], [3, 5, 17], [7, 73], [3, 11, 31], [23, 89], [3, 3, 5, 7, 13], [8191], [3, 43, 127], [7, 31, 151], [3, 5, 17, 257], [131071], [3, 3, 3, 7, 19, 73], [524287], [3, 5, 5, 11, 31, 41], [7, 7, 127, 337], [3, 23, 89, 683], [47, 178481], [3, 3, 5, 7, 13, 17, 241], [31, 601, 1801], [3, 2731, 8191], [7, 73, 262657], [3, 5, 29, 43, 113, 127], [233, 1103, 2089], [3, 3, 7, 11, 31, 151, 331], [2147483647], [3, 5, 17, 257, 65537]]
theorem pr_F_ok : ∀ n, n < 33 → 1 ≤ n → np_pr (pr_F.getD n []) = 2 ^ n - 1 := by decide +kernel
theorem pr_F_in : ∀ n, n < 33 → ∀ q ∈ pr_F.getD n [], q ∈ pr_T := by decide +kernel
theorem pr_T_2 : ∀ q ∈ pr_T, 2 ≤ q := by decide +kernel
theorem pr_p0 : np 2 := np_of (N := 1) (by decide) (by decide) (by decide) (by decide +kernel)
theorem pr_p1 : np 3 := np_of (N := 1) (by decide) (by decide) (by decide) (by decide +kernel)
theorem pr_p2 : np 5 := np_of (N := 2) (by decide) (by decide) (by decide) (by decide +kernel)
theorem pr_p3 : np 7 := np_of (N := 2) (by decide) (by decide) (by decide) (by decide +kernel)
theorem pr_p4 : np 11 := np_of (N := 3) (by decide) (by decide) (by decide) (by decide +kernel)
theorem pr_p5 : np 13 := np_of (N := 3) (by decide) (by decide) (by decide) (by decide +kernel)
theorem pr_p6 : np 17 := np_of (N := 4) (by decide) (by decide) (by decide) (by decide +kernel)
theorem pr_p7 : np 19 := np_of (N := 4) (by decide) (by decide) (by decide) (by decide +kernel)
theorem pr_p8 : np 23 := np_of (N := 4) (by decide) (by decide) (by decide) (by decide +kernel)
theorem pr_p9 : np 29 := np_of (N := 5) (by decide) (by decide) (by decide) (by decide +kernel)
theorem pr_p10 : np 31 := np_of (N := 5) (by decide) (by decide) (by decide) (by decide +kernel)
theorem pr_p11 : np 41 := np_of (N := 6) (by decide) (by decide) (by decide) (by decide +kernel)
theorem pr_p12 : np 43 := np_of (N := 6) (by decide) (by decide) (by decide) (by decide +kernel)
theorem pr_p13 : np 47 := np_of (N := 6) (by decide) (by decide) (by decide) (by decide +kernel)
theorem pr_p14 : np 73 := np_of (N := 8) (by decide) (by decide) (by decide) (by decide +kernel)
theorem pr_p15 : np 89 := np_of (N := 9) (by decide) (by decide) (by decide) (by decide +kernel)
theorem pr_p16 : np 113 := np_of (N := 10) (by decide) (by decide) (by decide) (by decide +kernel)
theorem pr_p17 : np 127 := np_of (N := 11) (by decide) (by decide) (by decide) (by decide +kernel)
theorem pr_p18 : np 151 := np_of (N := 12) (by decide) (by decide) (by decide) (by decide +kernel)
theorem pr_p19 : np 233 := np_of (N := 15) (by decide) (by decide) (by decide) (by decide +kernel)
theorem pr_p20 : np 241 := np_of (N := 15) (by decide) (by decide) (by decide) (by decide +kernel)
theorem pr_p21 : np 257 := np_of (N := 16) (by decide) (by decide) (by decide) (by decide +kernel)
theorem pr_p22 : np 331 := np_of (N := 18) (by decide) (by decide) (by decide) (by decide +kernel)
theorem pr_p23 : np 337 := np_of (N := 18) (by decide) (by decide) (by decide) (by decide +kernel)
theorem pr_p24 : np 601 := np_of (N := 24) (by decide) (by decide) (by decide) (by decide +kernel)
theorem pr_p25 : np 683 := np_of (N := 26) (by decide) (by decide) (by decide) (by decide +kernel)
theorem pr_p26 : np 1103 := np_of (N := 33) (by decide) (by decide) (by decide) (by decide +kernel)
theorem pr_p27 : np 1801 := np_of (N := 42) (by decide) (by decide) (by decide) (by decide +kernel)
theorem pr_p28 : np 2089 := np_of (N := 45) (by decide) (by decide) (by decide) (by decide +kernel)
theorem pr_p29 : np 2731 := np_of (N := 52) (by decide) (by decide) (by decide) (by decide +kernel)
theorem pr_p30 : np 8191 := np_of (N := 90) (by decide) (by decide) (by decide) (by decide +kernel)
theorem pr_p31 : np 65537 := np_of (N := 256) (by decide) (by decide) (by decide) (by decide +kernel)
theorem pr_p32 : np 131071 := np_of (N := 362) (by decide) (by decide) (by decide) (by decide +kernel)
theorem pr_p33 : np 178481 := np_of (N := 422) (by decide) (by decide) (by decide) (by decide +kernel)
theorem pr_p34 : np 262657 := np_of (N := 512) (by decide) (by decide) (by decide) (by decide +kernel)
theorem pr_p35 : np 524287 := np_of (N := 724) (by decide) (by decide) (by decide) (by decide +kernel)
theorem pr_p36 : np 2147483647 := np_of (N := 46340) (by decide) (by decide) (by decide) (by decide +kernel)
theorem pr_T_np : ∀ q ∈ pr_T, np q := List.forall_mem_cons.mpr ⟨pr_p0, List.forall_mem_cons.mpr ⟨pr_p1, List.forall_mem_cons.mpr ⟨pr_p2, List.forall_mem_cons.mpr ⟨pr_p3, List.forall_mem_cons.mpr ⟨pr_p4, List.forall_mem_cons.mpr ⟨pr_p5, List.forall_mem_cons.mpr ⟨pr_p6, List.forall_mem_cons.mpr ⟨pr_p7, List.forall_mem_cons.mpr ⟨pr_p8, List.forall_mem_cons.mpr ⟨pr_p9, List.forall_mem_cons.mpr ⟨pr_p10, List.forall_mem_cons.mpr ⟨pr_p11, List.forall_mem_cons.mpr ⟨pr_p12, List.forall_mem_cons.mpr ⟨pr_p13, List.forall_mem_cons.mpr ⟨pr_p14, List.forall_mem_cons.mpr ⟨pr_p15, List.forall_mem_cons.mpr ⟨pr_p16, List.forall_mem_cons.mpr ⟨pr_p17, List.forall_mem_cons.mpr ⟨pr_p18, List.forall_mem_cons.mpr ⟨pr_p19, List.forall_mem_cons.mpr ⟨pr_p20, List.forall_mem_cons.mpr ⟨pr_p21, List.forall_mem_cons.mpr ⟨pr_p22, List.forall_mem_cons.mpr ⟨pr_p23, List.forall_mem_cons.mpr ⟨pr_p24, List.forall_mem_cons.mpr ⟨pr_p25, List.forall_mem_cons.mpr ⟨pr_p26, List.forall_mem_cons.mpr ⟨pr_p27, List.forall_mem_cons.mpr ⟨pr_p28, List.forall_mem_cons.mpr ⟨pr_p29, List.forall_mem_cons.mpr ⟨pr_p30, List.forall_mem_cons.mpr ⟨pr_p31, List.forall_mem_cons.mpr ⟨pr_p32, List.forall_mem_cons.mpr ⟨pr_p33, List.forall_mem_cons.mpr ⟨pr_p34, List.forall_mem_cons.mpr ⟨pr_p35, List.forall_mem_cons.mpr ⟨pr_p36, fun _ h => absurd h List.not_mem_nil⟩⟩⟩⟩⟩⟩⟩⟩⟩⟩⟩⟩⟩⟩⟩⟩⟩⟩⟩⟩⟩⟩⟩⟩⟩⟩⟩⟩⟩⟩⟩⟩⟩⟩⟩⟩⟩
theorem pr_all {n : Nat} (h1 : 1 ≤ n) (h2 : n ≤ 32) {q : Nat} (hq : np q) (hd : q ∣ 2 ^ n - 1) : q ∈ pr_T := by
  rw [← pr_F_ok n (by omega) h1] at hd
  obtain ⟨a, ha, hqa⟩ := np_list hq _ hd
  have h3 := pr_F_in n (by omega) a ha
  rw [np_eq hq (pr_T_np a h3) hqa]
  exact h3
end
section
/-! irreducible or not, by common divisors with x^(2^d) + x, and by trial -/
theorem px_par (a b : Nat) : px_m a b % 2 = 1 ↔ a % 2 = 1 ∧ b % 2 = 1 := by
  rcases Nat.mod_two_eq_zero_or_one b with e | e
  · rw [show b = 2 * (b / 2) by omega, px_m_dbl]
    omega
  · rw [show b = 2 * (b / 2) + 1 by omega, px_m_odd, Nat.xor_mod_two_eq_one]
    omega
theorem px_dv_odd {f p : Nat} (h : px_dv f p) (hp : p % 2 = 1) : f % 2 = 1 := by
  obtain ⟨q, rfl⟩ := h
  exact ((px_par f q).mp hp).1
theorem px_ir_split {p : Nat} (hp : 2 ≤ p) (h : ¬ px_ir p) : ∃ a, px_dv a p ∧ 2 ≤ a ∧ 2 * a.log2 ≤ p.log2 := by
  have : ∃ b c, p = px_m b c ∧ b ≠ 1 ∧ c ≠ 1 := by
    apply Classical.byContradiction
    intro hn
    apply h
    refine ⟨hp, fun b c e => ?_⟩
    by_cases h1 : b = 1
    · exact Or.inl h1
    · by_cases h2 : c = 1
      · exact Or.inr h2
      · exact absurd ⟨b, c, e, h1, h2⟩ hn
  obtain ⟨b, c, e, h1, h2⟩ := this
  obtain ⟨-, -, q3, q4⟩ := px_fac_lt (a := b) (b := c) (by omega) h1 h2
  have hl := px_log (a := b) (b := c) (by omega) (by omega)
  rw [← e] at hl
  by_cases hbc : b.log2 ≤ c.log2
  · exact ⟨b, ⟨c, e⟩, q3, by omega⟩
  · exact ⟨c, ⟨b, by rw [e, px_m_comm]⟩, q4, by omega⟩
theorem ir_yes {p n d w g : Nat} (hp : px_ir p) (hn : 2 ^ n ≤ p) (h1 : 1 ≤ d) (h2 : d < n) (hw : px_cg p w (2 ^ 2 ^ d ^^^ 2)) (hg : px_G g p w) : g = 1 := by
  rcases px_ir_dv hp hg.1 with e | e
  · exact e
  · exfalso
    have hd : px_dv p w := by rw [← e]; exact e ▸ hg.2.1
    have := px_big hp hn h1 (px_cg_dv (px_cg_symm hw) hd)
    omega
theorem ir_no {p n : Nat} (hp : 2 ≤ p) (ho : p % 2 = 1) (hn : 2 ^ n ≤ p) (hn' : p < 2 ^ (n + 1)) (h : ¬ px_ir p) : ∃ d, 1 ≤ d ∧ 2 * d ≤ n ∧ ∀ w g, px_cg p w (2 ^ 2 ^ d ^^^ 2) → px_G g p w → g ≠ 1 := by
  obtain ⟨a, ha, h2, hl⟩ := px_ir_split hp h
  rw [px_lg hn hn'] at hl
  obtain ⟨f, hf, hfa⟩ := px_ir_ex a h2
  have hfp := px_dv_trans hfa ha
  have hle := (px_dv_le hfa (by omega)).2
  refine ⟨f.log2, px_log_pos hf.1, by omega, fun w g hw hg e => ?_⟩
  have h3 := px_fermat2 hf (px_dv_odd hfp ho) (px_lg1 (px_ir_ne hf)) (px_lg2 f)
  have h4 : px_dv f w := px_cg_dv (px_cg_down hfp hw) h3
  have h5 := px_G_dv hg hfp h4
  rw [e] at h5
  have := px_dv_unit h5
  have := hf.1
  omega
theorem ir_trial {p n : Nat} (hp : 2 ≤ p) (ho : p % 2 = 1) (hn : 2 ^ n ≤ p) (hn' : p < 2 ^ (n + 1)) : ¬ px_ir p ↔ ∃ k b, 1 ≤ k ∧ 2 * k ≤ n ∧ 2 ^ k ≤ b ∧ b < 2 ^ (k + 1) ∧ b % 2 = 1 ∧ px_dv b p := by
  constructor
  · intro h
    obtain ⟨a, ha, h2, hl⟩ := px_ir_split hp h
    rw [px_lg hn hn'] at hl
    exact ⟨a.log2, a, px_log_pos h2, hl, px_lg1 (by omega), px_lg2 a, px_dv_odd ha ho, ha⟩
  · rintro ⟨k, b, h1, h2, h3, h4, -, q, e⟩ hi
    have hb := px_lg h3 h4
    have h5 : 2 ^ 1 ≤ 2 ^ k := Nat.pow_le_pow_right (by decide) h1
    rcases hi.2 b q e with z | z
    · omega
    · rw [z, px_m_one] at e
      rw [← e, px_lg hn hn'] at hb
      omega
/-! a multiple of the order -/
/-- what is left of a when all that it shares with g is divided out -/
def wo_S (a g b : Nat) : Prop := b ≠ 0 ∧ (∃ t, a = px_m (px_m b g) t) ∧ (∀ f, px_ir f → px_dv f a → px_dv f b ∨ px_dv f g) ∧ ∀ f, px_ir f → px_dv f b → ¬ px_dv f g
def mo_I (p n d M rest : Nat) : Prop :=
  px_dv rest p ∧ rest ≠ 0 ∧ (∀ f, px_ir f → px_dv f rest → d < f.log2) ∧ (∀ f, px_ir f → px_dv f p → px_dv f rest ∨ px_o f M) ∧ 0 < M ∧ (∀ q, np q → q ∣ M → q ∈ pr_T) ∧ M * 2 ^ rest.log2 ≤ 2 ^ n
theorem mo_start {p n : Nat} (h1 : 2 ^ n ≤ p) (h2 : p < 2 ^ (n + 1)) : mo_I p n 0 1 p := by
  have hp : p ≠ 0 := by have := Nat.two_pow_pos n; omega
  refine ⟨px_dv_refl p, hp, fun f hf _ => px_log_pos hf.1, fun f _ h => Or.inl h, by decide, fun q hq h => ?_, ?_⟩
  · have := Nat.le_of_dvd (by decide) h
    have := hq.1
    omega
  · rw [px_lg h1 h2, Nat.one_mul]
    exact Nat.le_refl _
theorem mo_same {p n d M rest w g : Nat} (ho : p % 2 = 1) (h : mo_I p n d M rest) (hw : px_cg p w (2 ^ 2 ^ (d + 1) ^^^ 2)) (hg : px_G g rest w) (e : g = 1) : mo_I p n (d + 1) M rest := by
  obtain ⟨q1, q2, q3, q4, q5, q6, q7⟩ := h
  refine ⟨q1, q2, fun f hf hd => ?_, q4, q5, q6, q7⟩
  have h1 := q3 f hf hd
  by_cases e2 : f.log2 = d + 1
  · exfalso
    have hfp := px_dv_trans hd q1
    have h3 := px_fermat2 hf (px_dv_odd hfp ho) (px_lg1 (px_ir_ne hf)) (px_lg2 f)
    rw [e2] at h3
    have h4 : px_dv f w := px_cg_dv (px_cg_down hfp hw) h3
    have h5 := px_G_dv hg hd h4
    rw [e] at h5
    have := px_dv_unit h5
    have := hf.1
    omega
  · omega
theorem mo_turn {p n d M rest w g rest' : Nat} (ho : p % 2 = 1) (hd : d + 1 ≤ 32) (h : mo_I p n d M rest) (hw : px_cg p w (2 ^ 2 ^ (d + 1) ^^^ 2)) (hg : px_G g rest w) (e : g ≠ 1) (hr : wo_S rest g rest') : mo_I p n (d + 1) (M * (2 ^ (d + 1) - 1)) rest' := by
  obtain ⟨q1, q2, q3, q4, q5, q6, q7⟩ := h
  obtain ⟨r1, ⟨t, r2⟩, r3, r4⟩ := hr
  have hrr : px_dv rest' rest := by rw [r2, px_m_assoc]; exact px_dv_m _ _
  have hg0 : g ≠ 0 := fun z => q2 (by rw [r2, z, px_m_zero, px_m_zero_left])
  have ht0 : t ≠ 0 := fun z => q2 (by rw [r2, z, px_m_zero])
  have hpos : 2 ^ 1 ≤ 2 ^ (d + 1) := Nat.pow_le_pow_right (by decide) (by omega)
  obtain ⟨f0, hf0, hd0⟩ := px_ir_ex g (px_two_le hg0 e)
  have hgl : d + 1 ≤ g.log2 := by
    have := q3 f0 hf0 (px_dv_trans hd0 hg.1)
    have := (px_dv_le hd0 hg0).2
    omega
  have hgo : ∀ f, px_ir f → px_dv f p → px_dv f g → px_o f (2 ^ (d + 1) - 1) := by
    intro f hf hfp hfg
    have h1 : px_dv f (2 ^ 2 ^ (d + 1) ^^^ 2) := px_cg_dv (px_cg_symm (px_cg_down hfp hw)) (px_dv_trans hfg hg.2.1)
    have e2 : 2 ^ 2 ^ (d + 1) ^^^ 2 = px_m (2 ^ (2 ^ (d + 1) - 1) ^^^ 1) 2 := by
      rw [px_m_xor_left, px_m_one_left, px_m_two, Nat.mul_comm, ← Nat.pow_succ, show Nat.succ (2 ^ (d + 1) - 1) = 2 ^ (d + 1) by omega]
    rw [e2] at h1
    rcases px_euclid hf h1 with h2 | h2
    · exact h2
    · exact absurd h2 (px_odd_dv2 hf.1 (px_dv_odd hfp ho))
  refine ⟨px_dv_trans hrr q1, r1, fun f hf hfr => ?_, fun f hf hfp => ?_, ?_, fun q hq hqd => ?_, ?_⟩
  · have h1 := q3 f hf (px_dv_trans hfr hrr)
    by_cases e2 : f.log2 = d + 1
    · exfalso
      have hfp := px_dv_trans hfr (px_dv_trans hrr q1)
      have h3 := px_fermat2 hf (px_dv_odd hfp ho) (px_lg1 (px_ir_ne hf)) (px_lg2 f)
      rw [e2] at h3
      exact r4 f hf hfr (px_G_dv hg (px_dv_trans hfr hrr) (px_cg_dv (px_cg_down hfp hw) h3))
    · omega
  · rcases q4 f hf hfp with h1 | h1
    · rcases r3 f hf h1 with h2 | h2
      · exact Or.inl h2
      · right
        rw [Nat.mul_comm]
        exact px_o_mul (hgo f hf hfp h2) M
    · right
      exact px_o_mul h1 _
  · exact Nat.mul_pos q5 (by omega)
  · rcases np_euclid hq hqd with h1 | h1
    · exact q6 q hq h1
    · exact pr_all (by omega) hd hq h1
  · have hl : rest.log2 = rest'.log2 + g.log2 + t.log2 := by
      rw [r2, px_log (px_ne0 r1 hg0) ht0, px_log r1 hg0]
    have h1 : 2 ^ (d + 1) * 2 ^ rest'.log2 ≤ 2 ^ rest.log2 := by
      rw [← Nat.pow_add]
      exact Nat.pow_le_pow_right (by decide) (by omega)
    have h2 : (2 ^ (d + 1) - 1) * 2 ^ rest'.log2 ≤ 2 ^ (d + 1) * 2 ^ rest'.log2 := Nat.mul_le_mul_right _ (by omega)
    rw [Nat.mul_assoc]
    exact Nat.le_trans (Nat.mul_le_mul_left M (Nat.le_trans h2 h1)) q7
theorem mo_end {p n M rest : Nat} (h1 : 2 ^ n ≤ p) (h2 : p < 2 ^ (n + 1)) (hn : n ≤ 32) (h : mo_I p n n M rest) : 0 < 32 * M ∧ 32 * M ≤ 32 * 2 ^ n ∧ px_o p (32 * M) ∧ ∀ q, np q → q ∣ 32 * M → q ∈ pr_T := by
  obtain ⟨q1, q2, q3, q4, q5, q6, q7⟩ := h
  have hp : p ≠ 0 := by have := Nat.two_pow_pos n; omega
  have hlp := px_lg h1 h2
  have hno : ∀ f, px_ir f → ¬ px_dv f rest := fun f hf hd => by
    have := q3 f hf hd
    have := (px_dv_le (px_dv_trans hd q1) hp).2
    omega
  have hall : ∀ f, px_ir f → px_dv f p → px_dv f (2 ^ M ^^^ 1) := fun f hf hfp => by
    rcases q4 f hf hfp with z | z
    · exact absurd z (hno f hf)
    · exact z
  refine ⟨by omega, ?_, ?_, fun q hq hqd => ?_⟩
  · have h3 := Nat.two_pow_pos rest.log2
    have h4 : M * 1 ≤ M * 2 ^ rest.log2 := Nat.mul_le_mul_left M h3
    omega
  · have h3 := px_rad 32 p (2 ^ M ^^^ 1) hp (by omega) hall
    rw [show (32 : Nat) = 2 ^ 5 by decide, px_frob, px_pw_one_left, ← px_pw_two M, ← px_pw_mul, px_pw_two] at h3
    unfold px_o
    rw [show 32 * M = M * 2 ^ 5 by omega]
    exact h3
  · rcases np_euclid hq hqd with h3 | h3
    · have h4 : q ∣ np_pr [2, 2, 2, 2, 2] := h3
      obtain ⟨a, ha, hqa⟩ := np_list hq _ h4
      have ha2 : a = 2 := by simpa using ha
      rw [ha2] at hqa
      rw [np_eq hq (pr_T_np 2 (by decide)) hqa]
      decide
    · exact q6 q hq h3
end
section
/-! residues: px_r p a is what a leaves when divided by p -/
def md (p n : Nat) : Prop := 1 ≤ n ∧ n ≤ 32 ∧ 2 ^ n ≤ p ∧ p < 2 ^ (n + 1) ∧ p % 2 = 1
theorem md_ne {p n : Nat} (h : md p n) : p ≠ 0 := by
  have := h.2.2.1
  have := Nat.two_pow_pos n
  omega
theorem px_r_ex (p a : Nat) (hp : p ≠ 0) : ∃ r, r < 2 ^ p.log2 ∧ px_cg p r a := by
  obtain ⟨q, r, e, hr⟩ := px_div (px_lg1 hp) (px_lg2 p) a
  refine ⟨r, hr, ?_⟩
  unfold px_cg
  rw [e, Nat.xor_comm (px_m q p) r, ← Nat.xor_assoc, Nat.xor_self, Nat.zero_xor]
  exact px_dv_m' p q
noncomputable def px_r (p a : Nat) : Nat := if h : p ≠ 0 then Classical.choose (px_r_ex p a h) else 0
theorem px_r_spec {p : Nat} (hp : p ≠ 0) (a : Nat) : px_r p a < 2 ^ p.log2 ∧ px_cg p (px_r p a) a := by
  unfold px_r
  rw [dif_pos hp]
  exact Classical.choose_spec (px_r_ex p a hp)
theorem px_r_lt {p n : Nat} (h : md p n) (a : Nat) : px_r p a < 2 ^ n := by
  have := (px_r_spec (md_ne h) a).1
  rwa [px_lg h.2.2.1 h.2.2.2.1] at this
theorem px_r_cg {p n : Nat} (h : md p n) (a : Nat) : px_cg p (px_r p a) a := (px_r_spec (md_ne h) a).2
theorem px_r_of {p n : Nat} (h : md p n) {r a : Nat} (hr : r < 2 ^ n) (hc : px_cg p r a) : px_r p a = r :=
  px_uniq h.2.2.1 (px_r_lt h a) hr (px_cg_trans (px_r_cg h a) (px_cg_symm hc))
theorem px_r_iff {p n : Nat} (h : md p n) (a b : Nat) : px_r p a = px_r p b ↔ px_cg p a b :=
  ⟨fun e => px_cg_trans (px_cg_symm (px_r_cg h a)) (e ▸ px_r_cg h b), fun c => px_r_of h (px_r_lt h b) (px_cg_trans (px_r_cg h b) (px_cg_symm c))⟩
theorem px_r_self {p n : Nat} (h : md p n) {a : Nat} (ha : a < 2 ^ n) : px_r p a = a := px_r_of h ha (px_cg_refl p a)
theorem px_r_r {p n : Nat} (h : md p n) (a : Nat) : px_r p (px_r p a) = px_r p a := px_r_self h (px_r_lt h a)
theorem px_r_xor {p n : Nat} (h : md p n) (a b : Nat) : px_r p (a ^^^ b) = px_r p a ^^^ px_r p b :=
  px_r_of h (Nat.xor_lt_two_pow (px_r_lt h a) (px_r_lt h b)) (px_cg_xor (px_r_cg h a) (px_r_cg h b))
theorem px_r_ml {p n : Nat} (h : md p n) (a b : Nat) : px_r p (px_m (px_r p a) b) = px_r p (px_m a b) :=
  (px_r_iff h _ _).2 (px_cg_m (px_r_cg h a) (px_cg_refl p b))
theorem px_r_mr {p n : Nat} (h : md p n) (a b : Nat) : px_r p (px_m a (px_r p b)) = px_r p (px_m a b) :=
  (px_r_iff h _ _).2 (px_cg_m (px_cg_refl p a) (px_r_cg h b))
theorem px_r_pw {p n : Nat} (h : md p n) (a k : Nat) : px_r p (px_pw (px_r p a) k) = px_r p (px_pw a k) :=
  (px_r_iff h _ _).2 (px_cg_pw (px_r_cg h a) k)
theorem px_r_2 {p n : Nat} (h : md p n) (a : Nat) : px_r p (2 * px_r p a) = px_r p (2 * a) := by
  rw [← px_m_two, ← px_m_two, px_r_ml h]
theorem md_odd1 {p n : Nat} (h : md p n) : px_r p 1 = 1 := px_r_self h (by
  have : 2 ^ 1 ≤ 2 ^ n := Nat.pow_le_pow_right (by decide) h.1
  omega)
/-- a step of the register -/
theorem st_eq {p n : Nat} (h : md p n) {a : Nat} (ha : a < 2 ^ n) : (if 2 * a / 2 ^ n % 2 = 1 then 2 * a ^^^ p else 2 * a) = px_r p (2 * a) := by
  have h3 := h.2.2.1
  have h4 := h.2.2.2.1
  by_cases hc : 2 * a < 2 ^ n
  · have e : 2 * a / 2 ^ n = 0 := Nat.div_eq_of_lt hc
    rw [e, if_neg (by decide), px_r_self h hc]
  · have e : 2 * a / 2 ^ n = 1 := by
      rw [Nat.div_eq_iff (Nat.two_pow_pos n)]
      omega
    rw [e, if_pos (by decide)]
    refine (px_r_of h (px_tops (by omega) (by rw [Nat.pow_succ]; omega) h3 h4) ?_).symm
    unfold px_cg
    rw [Nat.xor_comm (2 * a) p, px_cc]
    exact px_dv_refl p
/-- one turn of a product, from the highest bit down -/
theorem pd_turn {p n : Nat} (h : md p n) (a b k : Nat) (ha : a < 2 ^ n) : (if b / 2 ^ k % 2 = 1 then px_r p (2 * px_r p (px_m a (b / 2 ^ (k + 1)))) ^^^ a else px_r p (2 * px_r p (px_m a (b / 2 ^ (k + 1))))) = px_r p (px_m a (b / 2 ^ k)) := by
  have e : b / 2 ^ (k + 1) = b / 2 ^ k / 2 := by rw [Nat.pow_succ, Nat.div_div_eq_div_mul]
  rw [e, px_r_2 h]
  generalize b / 2 ^ k = c
  split
  · rename_i hc
    conv => rhs; rw [show c = 2 * (c / 2) + 1 by omega, px_m_odd, px_r_xor h, px_r_self h ha]
  · rename_i hc
    conv => rhs; rw [show c = 2 * (c / 2) by omega, px_m_dbl]
theorem pd_top {p n : Nat} (h : md p n) (a b : Nat) (hb : b < 2 ^ n) : px_r p (px_m a (b / 2 ^ n)) = 0 := by
  rw [Nat.div_eq_of_lt hb, px_m_zero, px_r_self h (Nat.two_pow_pos n)]
/-- powers from the lowest bit up: what is there, and the square -/
theorem pw_low (a e k : Nat) : px_pw a (e % 2 ^ (k + 1)) = if e / 2 ^ k % 2 = 1 then px_m (px_pw a (e % 2 ^ k)) (px_pw a (2 ^ k)) else px_pw a (e % 2 ^ k) := by
  have e1 : e % 2 ^ (k + 1) = e % 2 ^ k + 2 ^ k * (e / 2 ^ k % 2) := by rw [Nat.pow_succ, Nat.mod_mul]
  rw [e1]
  split
  · rename_i hc
    rw [hc, Nat.mul_one, px_pw_add]
  · rename_i hc
    rw [show e / 2 ^ k % 2 = 0 by omega, Nat.mul_zero, Nat.add_zero]
theorem pw_turn {p n : Nat} (h : md p n) (a e k : Nat) : (if e / 2 ^ k % 2 = 1 then px_r p (px_m (px_r p (px_pw a (e % 2 ^ k))) (px_r p (px_pw a (2 ^ k)))) else px_r p (px_pw a (e % 2 ^ k))) = px_r p (px_pw a (e % 2 ^ (k + 1))) := by
  rw [pw_low]
  split
  · rw [px_r_ml h, px_r_mr h]
  · rfl
theorem pw_sq {p n : Nat} (h : md p n) (a k : Nat) : px_r p (px_m (px_r p (px_pw a (2 ^ k))) (px_r p (px_pw a (2 ^ k)))) = px_r p (px_pw a (2 ^ (k + 1))) := by
  rw [px_r_ml h, px_r_mr h, Nat.pow_succ, Nat.mul_comm (2 ^ k) 2, px_pw_dbl]
/-- powers from the highest bit down -/
theorem pw_high {p n : Nat} (h : md p n) (a e k : Nat) (ha : a < 2 ^ n) : (if e / 2 ^ k % 2 = 1 then px_r p (px_m (px_r p (px_m (px_r p (px_pw a (e / 2 ^ (k + 1)))) (px_r p (px_pw a (e / 2 ^ (k + 1)))))) a) else px_r p (px_m (px_r p (px_pw a (e / 2 ^ (k + 1)))) (px_r p (px_pw a (e / 2 ^ (k + 1)))))) = px_r p (px_pw a (e / 2 ^ k)) := by
  have e1 : e / 2 ^ (k + 1) = e / 2 ^ k / 2 := by rw [Nat.pow_succ, Nat.div_div_eq_div_mul]
  have e2 : ∀ z, px_r p (px_m (px_r p (px_pw a z)) (px_r p (px_pw a z))) = px_r p (px_pw a (2 * z)) := fun z => by rw [px_r_ml h, px_r_mr h, ← px_pw_dbl]
  rw [e1, e2]
  generalize e / 2 ^ k = c
  split
  · rename_i hc
    rw [px_r_ml h]
    conv => rhs; rw [show c = 2 * (c / 2) + 1 by omega]
    rfl
  · rename_i hc
    conv => rhs; rw [show c = 2 * (c / 2) by omega]
/-- one turn of long division: the bit k of v is taken away -/
theorem dv_turn {b j v k : Nat} (hb : 2 ^ j ≤ b) (hb' : b < 2 ^ (j + 1)) (hjk : j ≤ k) (hv : v < 2 ^ (k + 1)) : (if v / 2 ^ k % 2 = 1 then v ^^^ b * 2 ^ (k - j) else v) < 2 ^ k ∧ px_cg b (if v / 2 ^ k % 2 = 1 then v ^^^ b * 2 ^ (k - j) else v) v := by
  split
  · rename_i hc
    have hvk : 2 ^ k ≤ v := by
      apply Classical.byContradiction
      intro hn
      rw [Nat.div_eq_of_lt (by omega)] at hc
      omega
    have hd := px_deg (a := b) (b := 2 ^ (k - j)) (i := j) (j := k - j) hb hb' (Nat.le_refl _) (Nat.pow_lt_pow_right (by decide) (by omega))
    rw [px_m_pow2, show j + (k - j) = k by omega] at hd
    refine ⟨px_tops hvk hv hd.1 hd.2, ?_⟩
    unfold px_cg
    rw [Nat.xor_comm v, px_cc, ← px_m_pow2]
    exact px_dv_m b _
  · rename_i hc
    refine ⟨?_, px_cg_refl b v⟩
    apply Classical.byContradiction
    intro hn
    have e : v / 2 ^ k = 1 := by
      rw [Nat.div_eq_iff (Nat.two_pow_pos k)]
      rw [Nat.pow_succ] at hv
      omega
    rw [e] at hc
    exact hc rfl
theorem shl_lt {b j k : Nat} (hb' : b < 2 ^ (j + 1)) (hjk : j ≤ k) (hk : k < 64) : b * 2 ^ (k - j) < 2 ^ 64 := by
  have h1 : b * 2 ^ (k - j) < 2 ^ (j + 1) * 2 ^ (k - j) := Nat.mul_lt_mul_of_pos_right hb' (Nat.two_pow_pos _)
  rw [← Nat.pow_add] at h1
  have h2 : 2 ^ (j + 1 + (k - j)) ≤ 2 ^ 64 := Nat.pow_le_pow_right (by decide) (by omega)
  omega
/-! parity, and how many bits are set -/
def pc_n (v : Nat) : Nat → Nat
  | 0 => 0
  | k + 1 => pc_n v k + v / 2 ^ k % 2
theorem pc_small {v k : Nat} (h : v < 2 ^ k) : ∀ j, k ≤ j → pc_n v j = pc_n v k := by
  intro j
  induction j with
  | zero => intro hj; rw [show k = 0 by omega]
  | succ j ih =>
    intro hj
    by_cases e : k = j + 1
    · rw [e]
    · have h2 : v / 2 ^ j = 0 := Nat.div_eq_of_lt (Nat.lt_of_lt_of_le h (Nat.pow_le_pow_right (by decide) (by omega)))
      show pc_n v j + v / 2 ^ j % 2 = _
      rw [h2, ih (by omega)]
      rfl
end
section
/-! circuits: lines as truth values, with a fault or none -/
def gb (k : Nat) (a b : Bool) : Bool := if k = 0 then a && b else if k = 1 then a || b else if k = 2 then a ^^ b else if k = 3 then !(a && b) else if k = 4 then !(a || b) else !a
/-- a line's value, from those before it -/
def ci_v (cc : Nat) (kd lf rg : Nat → Nat) (pt : Nat) (f : Nat → Bool) (k : Nat) : Bool := if k < cc then pt.testBit k else gb (kd (k - cc)) (f (lf (k - cc))) (f (rg (k - cc)))
def ci_s (st : Option Nat) (k : Nat) (b : Bool) : Bool := match st with
  | none => b
  | some s => if s / 2 = k then s % 2 == 1 else b
/-- the lines below k -/
def ci_t (cc : Nat) (kd lf rg : Nat → Nat) (pt : Nat) (st : Option Nat) : Nat → Nat → Bool
  | 0 => fun _ => false
  | k + 1 => fun j => if j = k then ci_s st k (ci_v cc kd lf rg pt (ci_t cc kd lf rg pt st k) k) else ci_t cc kd lf rg pt st k j
/-- the answer -/
def ci_a (ol : Nat → Nat) (f : Nat → Bool) : Nat → Nat
  | 0 => 0
  | i + 1 => ci_a ol f i + (if f (ol i) = true then 2 ^ i else 0)
theorem ci_a_lt (ol : Nat → Nat) (f : Nat → Bool) : ∀ i, ci_a ol f i < 2 ^ i
  | 0 => Nat.zero_lt_one
  | i + 1 => by
    have := ci_a_lt ol f i
    show ci_a ol f i + _ < 2 ^ (i + 1)
    rw [Nat.pow_succ]
    split <;> omega
theorem ci_a_congr {ol ol' : Nat → Nat} {f f' : Nat → Bool} : ∀ i, (∀ j, j < i → f (ol j) = f' (ol' j)) → ci_a ol f i = ci_a ol' f' i
  | 0, _ => rfl
  | i + 1, h => by
    show ci_a ol f i + _ = ci_a ol' f' i + _
    rw [ci_a_congr i (fun j hj => h j (by omega)), h i (by omega)]
theorem ci_a_bit (ol : Nat → Nat) (f : Nat → Bool) : ∀ (i j : Nat), (ci_a ol f i).testBit j = (decide (j < i) && f (ol j)) := by
  intro i
  induction i with
  | zero => intro j; simp [ci_a]
  | succ i ih =>
    intro j
    have hlt := ci_a_lt ol f i
    show (ci_a ol f i + _).testBit j = _
    cases hf : f (ol i)
    · rw [if_neg (by decide), Nat.add_zero, ih]
      by_cases e : j = i
      · subst e; simp [hf]
      · rw [show decide (j < i) = decide (j < i + 1) by rw [decide_eq_decide]; omega]
    · rw [if_pos rfl, Nat.add_comm]
      rcases Nat.lt_trichotomy j i with h | h | h
      · rw [Nat.testBit_two_pow_add_gt h, ih]
        simp [h, show j < i + 1 by omega]
      · subst h
        rw [Nat.testBit_two_pow_add_eq, Nat.testBit_lt_two_pow hlt]
        simp [hf]
      · have h2 : 2 ^ (i + 1) ≤ 2 ^ j := Nat.pow_le_pow_right (by decide) h
        rw [Nat.testBit_lt_two_pow (by rw [Nat.pow_succ] at h2; omega)]
        simp [show ¬ j < i + 1 by omega]
/-- the lines hold what they should: V is what a table holds, S which fault a bit stands for -/
def ci_R (cc : Nat) (kd lf rg : Nat → Nat) (pt : Nat) (S : Nat → Option Nat) (k : Nat) (V : Nat → Nat) : Prop :=
  ∀ j, j < k → V j < 2 ^ 64 ∧ ∀ f, f < 64 → (V j).testBit f = ci_t cc kd lf rg pt (S f) k j
theorem ci_R_0 (cc : Nat) (kd lf rg : Nat → Nat) (pt : Nat) (S : Nat → Option Nat) (V : Nat → Nat) : ci_R cc kd lf rg pt S 0 V := fun j hj => absurd hj (Nat.not_lt_zero j)
theorem ci_R_up {cc : Nat} {kd lf rg : Nat → Nat} {pt : Nat} {S : Nat → Option Nat} {k : Nat} {V V' : Nat → Nat} (h : ci_R cc kd lf rg pt S k V) (hk : ∀ j, j < k → V' j = V j) (h1 : V' k < 2 ^ 64)
    (h2 : ∀ f, f < 64 → (V' k).testBit f = ci_s (S f) k (ci_v cc kd lf rg pt (ci_t cc kd lf rg pt (S f) k) k)) : ci_R cc kd lf rg pt S (k + 1) V' := by
  intro j hj
  by_cases e : j = k
  · subst e
    refine ⟨h1, fun f hf => ?_⟩
    rw [h2 f hf]
    show _ = (if j = j then _ else _)
    rw [if_pos rfl]
  · rw [hk j (by omega)]
    refine ⟨(h j (by omega)).1, fun f hf => ?_⟩
    rw [(h j (by omega)).2 f hf]
    show _ = (if j = k then _ else _)
    rw [if_neg e]
/-- the bits of a gate's value -/
def ci_g (k a b : Nat) : Nat := if k = 0 then a &&& b else if k = 1 then a ||| b else if k = 2 then a ^^^ b else if k = 3 then (a &&& b) ^^^ (2 ^ 64 - 1) else if k = 4 then (a ||| b) ^^^ (2 ^ 64 - 1) else a ^^^ (2 ^ 64 - 1)
theorem ci_g_lt {k a b : Nat} (ha : a < 2 ^ 64) (hb : b < 2 ^ 64) : ci_g k a b < 2 ^ 64 := by
  have h1 := Nat.and_lt_two_pow a hb
  have h2 := Nat.or_lt_two_pow ha hb
  have h3 : 2 ^ 64 - 1 < 2 ^ 64 := by decide
  unfold ci_g
  split
  · exact h1
  split
  · exact h2
  split
  · exact Nat.xor_lt_two_pow ha hb
  split
  · exact Nat.xor_lt_two_pow h1 h3
  split
  · exact Nat.xor_lt_two_pow h2 h3
  · exact Nat.xor_lt_two_pow ha h3
theorem ci_g_bit {k a b f : Nat} (hf : f < 64) : (ci_g k a b).testBit f = gb k (a.testBit f) (b.testBit f) := by
  have hm : (2 ^ 64 - 1).testBit f = true := by rw [Nat.testBit_two_pow_sub_one]; simpa using hf
  unfold ci_g gb
  split
  · rw [Nat.testBit_and]
  split
  · rw [Nat.testBit_or]
  split
  · rw [Nat.testBit_xor]
  split
  · rw [Nat.testBit_xor, Nat.testBit_and, hm]; simp
  split
  · rw [Nat.testBit_xor, Nat.testBit_or, hm]; simp
  · rw [Nat.testBit_xor, hm]; simp
/-- a line's bits, stuck where they should be -/
def ci_k (v k : Nat) : Nat := (v &&& (2 ^ (2 * k) ^^^ (2 ^ 64 - 1))) ||| 2 ^ (2 * k + 1)
theorem ci_k_lt {v k : Nat} (hv : v < 2 ^ 64) (hk : k < 32) : ci_k v k < 2 ^ 64 := by
  unfold ci_k
  exact Nat.or_lt_two_pow (Nat.lt_of_le_of_lt Nat.and_le_left hv) (Nat.pow_lt_pow_right (by decide) (by omega))
theorem ci_k_bit {v k f : Nat} (hf : f < 64) : (ci_k v k).testBit f = ci_s (some f) k (v.testBit f) := by
  have hm : (2 ^ 64 - 1).testBit f = true := by rw [Nat.testBit_two_pow_sub_one]; simpa using hf
  unfold ci_k ci_s
  rw [Nat.testBit_or, Nat.testBit_and, Nat.testBit_xor, hm, Nat.testBit_two_pow, Nat.testBit_two_pow]
  show _ = if f / 2 = k then (f % 2 == 1) else v.testBit f
  by_cases h1 : f = 2 * k
  · subst h1
    rw [if_pos (by omega), show 2 * k % 2 = 0 by omega]
    simp
  · by_cases h2 : f = 2 * k + 1
    · subst h2
      rw [if_pos (by omega), show (2 * k + 1) % 2 = 1 by omega]
      simp
    · rw [if_neg (by omega)]
      simp [show ¬ 2 * k = f by omega, show ¬ 2 * k + 1 = f by omega]
/-- one bit, in all 64 places -/
def ci_p (b : Bool) : Nat := if b = true then 2 ^ 64 - 1 else 0
theorem ci_p_lt (b : Bool) : ci_p b < 2 ^ 64 := by cases b <;> decide
theorem ci_p_bit (b : Bool) {f : Nat} (hf : f < 64) : (ci_p b).testBit f = b := by
  cases b
  · simp [ci_p]
  · show (2 ^ 64 - 1).testBit f = true
    rw [Nat.testBit_two_pow_sub_one]
    simpa using hf
/-- what a turn of the class's loop writes -/
def ci_w (cc : Nat) (kd lf rg : Nat → Nat) (pt : Nat) (V : Nat → Nat) (k : Nat) : Nat := if k < cc then ci_p (pt.testBit k) else ci_g (kd (k - cc)) (V (lf (k - cc))) (V (rg (k - cc)))
theorem ci_w_lt {cc : Nat} {kd lf rg : Nat → Nat} {pt : Nat} {S : Nat → Option Nat} {k : Nat} {V : Nat → Nat} (h : ci_R cc kd lf rg pt S k V) (hg : cc ≤ k → lf (k - cc) < k ∧ rg (k - cc) < k) : ci_w cc kd lf rg pt V k < 2 ^ 64 := by
  unfold ci_w
  split
  · exact ci_p_lt _
  · rename_i hc
    obtain ⟨h1, h2⟩ := hg (by omega)
    exact ci_g_lt (h _ h1).1 (h _ h2).1
theorem ci_w_bit {cc : Nat} {kd lf rg : Nat → Nat} {pt : Nat} {S : Nat → Option Nat} {k : Nat} {V : Nat → Nat} (h : ci_R cc kd lf rg pt S k V) (hg : cc ≤ k → lf (k - cc) < k ∧ rg (k - cc) < k) {f : Nat} (hf : f < 64) :
    (ci_w cc kd lf rg pt V k).testBit f = ci_v cc kd lf rg pt (ci_t cc kd lf rg pt (S f) k) k := by
  unfold ci_w ci_v
  split
  · exact ci_p_bit _ hf
  · rename_i hc
    obtain ⟨h1, h2⟩ := hg (by omega)
    rw [ci_g_bit hf, (h _ h1).2 f hf, (h _ h2).2 f hf]
theorem ci_turnN {cc : Nat} {kd lf rg : Nat → Nat} {pt : Nat} {k : Nat} {V V' : Nat → Nat} (h : ci_R cc kd lf rg pt (fun _ => none) k V) (hg : cc ≤ k → lf (k - cc) < k ∧ rg (k - cc) < k) (hk : ∀ j, j < k → V' j = V j)
    (h1 : V' k = ci_w cc kd lf rg pt V k) : ci_R cc kd lf rg pt (fun _ => none) (k + 1) V' :=
  ci_R_up h hk (by rw [h1]; exact ci_w_lt h hg) (fun f hf => by rw [h1, ci_w_bit h hg hf]; rfl)
theorem ci_turnF {cc : Nat} {kd lf rg : Nat → Nat} {pt : Nat} {k : Nat} {V V' : Nat → Nat} (h : ci_R cc kd lf rg pt some k V) (hg : cc ≤ k → lf (k - cc) < k ∧ rg (k - cc) < k) (hk : ∀ j, j < k → V' j = V j) (hk32 : k < 32)
    (h1 : V' k = ci_k (ci_w cc kd lf rg pt V k) k) : ci_R cc kd lf rg pt some (k + 1) V' :=
  ci_R_up h hk (by rw [h1]; exact ci_k_lt (ci_w_lt h hg) hk32) (fun f hf => by rw [h1, ci_k_bit hf, ci_w_bit h hg hf])
/-! patterns -/
def pt_n (mk : Nat → Nat) (v : Nat) : Nat → Nat
  | 0 => 0
  | c + 1 => pt_n mk v c + pc_n (v &&& mk c) 64 % 2 * 2 ^ c
theorem pt_lt (mk : Nat → Nat) (v : Nat) : ∀ c, pt_n mk v c < 2 ^ c
  | 0 => Nat.zero_lt_one
  | c + 1 => by
    have := pt_lt mk v c
    show pt_n mk v c + pc_n (v &&& mk c) 64 % 2 * 2 ^ c < 2 ^ (c + 1)
    rw [Nat.pow_succ]
    rcases Nat.mod_two_eq_zero_or_one (pc_n (v &&& mk c) 64) with e | e <;> rw [e] <;> omega
theorem pt_congr {mk mk' : Nat → Nat} (v : Nat) : ∀ c, (∀ j, j < c → mk j = mk' j) → pt_n mk v c = pt_n mk' v c
  | 0, _ => rfl
  | c + 1, h => by
    show pt_n mk v c + _ = pt_n mk' v c + _
    rw [pt_congr v c (fun j hj => h j (by omega)), h c (by omega)]
end
section
/-! sessions: registers, signatures, and all faults at once -/
noncomputable def rg_t (p reg : Nat) : Nat → Nat
  | 0 => reg
  | t + 1 => px_r p (2 * rg_t p reg t)
theorem rg_lt {p n reg : Nat} (h : md p n) (hr : reg < 2 ^ n) : ∀ t, rg_t p reg t < 2 ^ n
  | 0 => hr
  | _ + 1 => px_r_lt h _
noncomputable def sg (p : Nat) (A : Nat → Nat) : Nat → Nat
  | 0 => 0
  | t + 1 => px_r p (2 * sg p A t) ^^^ px_r p (A t)
theorem sg_lt {p n : Nat} (h : md p n) (A : Nat → Nat) : ∀ t, sg p A t < 2 ^ n
  | 0 => Nat.two_pow_pos n
  | _ + 1 => Nat.xor_lt_two_pow (px_r_lt h _) (px_r_lt h _)
theorem sg_congr (p : Nat) {A B : Nat → Nat} : ∀ t, (∀ j, j < t → A j = B j) → sg p A t = sg p B t
  | 0, _ => rfl
  | t + 1, h => by
    show px_r p (2 * sg p A t) ^^^ px_r p (A t) = _
    rw [sg_congr p t (fun j hj => h j (by omega)), h t (by omega)]
    rfl
theorem sg_lin {p n : Nat} (h : md p n) (A B : Nat → Nat) : ∀ t, sg p A t ^^^ sg p B t = sg p (fun j => A j ^^^ B j) t
  | 0 => by show (0 : Nat) ^^^ 0 = 0; rfl
  | t + 1 => by
    show px_r p (2 * sg p A t) ^^^ px_r p (A t) ^^^ (px_r p (2 * sg p B t) ^^^ px_r p (B t)) = px_r p (2 * sg p (fun j => A j ^^^ B j) t) ^^^ px_r p (A t ^^^ B t)
    rw [← sg_lin h A B t, px_dbl, px_r_xor h, px_r_xor h]
    ac_rfl
theorem sg_zero {p n : Nat} (h : md p n) {A : Nat → Nat} : ∀ t, (∀ j, j < t → A j = 0) → sg p A t = 0
  | 0, _ => rfl
  | t + 1, hz => by
    show px_r p (2 * sg p A t) ^^^ px_r p (A t) = 0
    rw [sg_zero h t (fun j hj => hz j (by omega)), hz t (by omega)]
    have : px_r p 0 = 0 := px_r_self h (Nat.two_pow_pos n)
    rw [Nat.mul_zero, this]
    rfl
theorem sg_step {p n : Nat} (h : md p n) (A : Nat → Nat) (t : Nat) : px_r p (2 * sg p A t ^^^ A t) = sg p A (t + 1) := px_r_xor h _ _
/-- 33 rows of 64 bits: bit f of row k is bit k of D f -/
def dr (r : Nat → Nat) (D : Nat → Nat) : Prop := (∀ k, k < 33 → r k < 2 ^ 64) ∧ ∀ f, f < 64 → D f < 2 ^ 33 ∧ ∀ k, k < 33 → (r k).testBit f = (D f).testBit k
theorem dr_0 {r : Nat → Nat} (h : ∀ k, k < 33 → r k = 0) : dr r (fun _ => 0) := by
  refine ⟨fun k hk => by rw [h k hk]; decide, fun f _ => ⟨Nat.two_pow_pos 33, fun k hk => ?_⟩⟩
  rw [h k hk]
  simp
theorem dr_x {r r' : Nat → Nat} {D : Nat → Nat} (h : dr r D) (hD : ∀ f, f < 64 → D f < 2 ^ 32) (h0 : r' 0 = 0) (hs : ∀ k, k < 32 → r' (k + 1) = r k) : dr r' (fun f => 2 * D f) := by
  refine ⟨fun k hk => ?_, fun f hf => ⟨by have := hD f hf; show 2 * D f < _; omega, fun k hk => ?_⟩⟩
  · cases k with
    | zero => rw [h0]; decide
    | succ k => rw [hs k (by omega)]; exact h.1 k (by omega)
  · show _ = (2 * D f).testBit k
    cases k with
    | zero => rw [h0]; simp [Nat.testBit_zero]
    | succ k =>
      rw [hs k (by omega), (h.2 f hf).2 k (by omega), Nat.testBit_succ, Nat.mul_div_cancel_left _ (by decide)]
/-- row i gets the bits w -/
theorem dr_add {r r' : Nat → Nat} {D : Nat → Nat} {i w : Nat} (h : dr r D) (hi : i < 33) (hw : w < 2 ^ 64) (h1 : r' i = r i ^^^ w) (h2 : ∀ k, k < 33 → k ≠ i → r' k = r k) : dr r' (fun f => if w.testBit f = true then D f ^^^ 2 ^ i else D f) := by
  refine ⟨fun k hk => ?_, fun f hf => ?_⟩
  · by_cases e : k = i
    · subst e; rw [h1]; exact Nat.xor_lt_two_pow (h.1 k hk) hw
    · rw [h2 k hk e]; exact h.1 k hk
  · have hd := h.2 f hf
    show (if w.testBit f = true then D f ^^^ 2 ^ i else D f) < _ ∧ ∀ k, k < 33 → _ = (if w.testBit f = true then D f ^^^ 2 ^ i else D f).testBit k
    refine ⟨?_, fun k hk => ?_⟩
    · split
      · exact Nat.xor_lt_two_pow hd.1 (Nat.pow_lt_pow_right (by decide) hi)
      · exact hd.1
    · by_cases e : k = i
      · subst e
        rw [h1, Nat.testBit_xor, hd.2 k hk]
        split
        · rename_i hb
          rw [hb, Nat.testBit_xor, Nat.testBit_two_pow_self]
        · rename_i hb
          simp only [Bool.not_eq_true] at hb
          rw [hb]
          simp
      · rw [h2 k hk e, hd.2 k hk]
        split
        · rw [Nat.testBit_xor, Nat.testBit_two_pow_of_ne (fun z => e z.symm)]
          simp
        · rfl
theorem dr_congr {r : Nat → Nat} {D D' : Nat → Nat} (h : dr r D) (he : ∀ f, f < 64 → D' f = D f) : dr r D' := ⟨h.1, fun f hf => by rw [he f hf]; exact h.2 f hf⟩
/-- p times x^s below bit 33, down to its bit j -/
def dr_p (p s : Nat) : Nat → Nat
  | 0 => 0
  | j + 1 => dr_p p s j ^^^ (if p.testBit j = true ∧ j + s < 33 then 2 ^ (j + s) else 0)
theorem dr_p_bit (p s : Nat) : ∀ j k, (dr_p p s j).testBit k = (decide (s ≤ k) && decide (k < 33) && decide (k - s < j) && p.testBit (k - s)) := by
  intro j
  induction j with
  | zero => intro k; simp [dr_p]
  | succ j ih =>
    intro k
    show (dr_p p s j ^^^ _).testBit k = _
    rw [Nat.testBit_xor, ih]
    by_cases hk : k = j + s
    · subst hk
      rw [show j + s - s = j by omega]
      by_cases hc : p.testBit j = true ∧ j + s < 33
      · rw [if_pos hc, Nat.testBit_two_pow_self, hc.1]
        simp [hc.2]
      · rw [if_neg hc]
        simp only [Nat.zero_testBit]
        by_cases hb : p.testBit j = true
        · have : ¬ j + s < 33 := fun z => hc ⟨hb, z⟩
          simp [this]
        · simp only [Bool.not_eq_true] at hb
          simp [hb]
    · have e2 : (if p.testBit j = true ∧ j + s < 33 then 2 ^ (j + s) else 0).testBit k = false := by
        split
        · exact Nat.testBit_two_pow_of_ne (fun z => hk z.symm)
        · exact Nat.zero_testBit k
      rw [e2]
      by_cases hs : s ≤ k
      · rw [show decide (k - s < j + 1) = decide (k - s < j) by rw [decide_eq_decide]; omega]
        simp
      · simp [hs]
theorem dr_p_all {p n s j : Nat} (hp : p < 2 ^ (n + 1)) (hs : n + s ≤ 32) (hj : n < j) : dr_p p s j = p * 2 ^ s := by
  apply Nat.eq_of_testBit_eq
  intro k
  rw [dr_p_bit, Nat.testBit_mul_two_pow]
  by_cases h1 : s ≤ k
  · by_cases h2 : p.testBit (k - s) = true
    · have h3 : k - s ≤ n := by
        apply Classical.byContradiction
        intro hn
        rw [Nat.testBit_lt_two_pow (Nat.lt_of_lt_of_le hp (Nat.pow_le_pow_right (by decide) (by omega)))] at h2
        cases h2
      simp [h1, h2, show k < 33 by omega, show k - s < j by omega]
    · simp only [Bool.not_eq_true] at h2
      simp [h2]
  · simp [h1]
/-! taking p times x^s away from those faults' rows that 'top' names -/
theorem dr_sub {r r' D : Nat → Nat} {top p s j : Nat} (h : dr r (fun f => if top.testBit f = true then D f ^^^ dr_p p s j else D f)) (hj : j + s < 33) (ht : top < 2 ^ 64) (hb : p.testBit j = true) (h1 : r' (j + s) = r (j + s) ^^^ top) (h2 : ∀ k, k < 33 → k ≠ j + s → r' k = r k) :
    dr r' (fun f => if top.testBit f = true then D f ^^^ dr_p p s (j + 1) else D f) := by
  refine dr_congr (dr_add h hj ht h1 h2) (fun f hf => ?_)
  show (if top.testBit f = true then D f ^^^ dr_p p s (j + 1) else D f) = if top.testBit f = true then (if top.testBit f = true then D f ^^^ dr_p p s j else D f) ^^^ 2 ^ (j + s) else (if top.testBit f = true then D f ^^^ dr_p p s j else D f)
  have e : dr_p p s (j + 1) = dr_p p s j ^^^ 2 ^ (j + s) := by
    show dr_p p s j ^^^ _ = _
    rw [if_pos ⟨hb, hj⟩]
  cases top.testBit f
  · rfl
  · simp only [if_true]
    rw [e, Nat.xor_assoc]
theorem dr_skip {p s j : Nat} (hb : ¬ p.testBit j = true) : dr_p p s (j + 1) = dr_p p s j := by
  show dr_p p s j ^^^ _ = _
  rw [if_neg (fun z => hb z.1), Nat.xor_zero]
theorem tb_div (v k : Nat) : (v.testBit k = true) ↔ v / 2 ^ k % 2 = 1 := by
  rw [Nat.testBit_eq_decide_div_mod_eq]
  simp
theorem dr_red {r r' D : Nat → Nat} {p n k : Nat} (hm : md p n) (h : dr r D) (hk : n ≤ k) (hk2 : k < 33) (hD : ∀ f, f < 64 → D f < 2 ^ (k + 1)) (h' : dr r' (fun f => if (r k).testBit f = true then D f ^^^ p * 2 ^ (k - n) else D f)) :
    ∃ D', dr r' D' ∧ ∀ f, f < 64 → D' f < 2 ^ k ∧ px_cg p (D' f) (D f) := by
  refine ⟨_, h', fun f hf => ?_⟩
  have h1 := dv_turn hm.2.2.1 hm.2.2.2.1 hk (hD f hf)
  have e : ((r k).testBit f = true) = (D f / 2 ^ k % 2 = 1) := by rw [(h.2 f hf).2 k hk2, tb_div]
  show (if (r k).testBit f = true then D f ^^^ p * 2 ^ (k - n) else D f) < 2 ^ k ∧ px_cg p (if (r k).testBit f = true then D f ^^^ p * 2 ^ (k - n) else D f) (D f)
  simp only [e]
  exact h1
/-- the sum of some rows' bits: which faults differ at all -/
def dr_or (r : Nat → Nat) : Nat → Nat
  | 0 => 0
  | k + 1 => dr_or r k ||| r k
theorem dr_or_lt {r : Nat → Nat} : ∀ k, (∀ j, j < k → r j < 2 ^ 64) → dr_or r k < 2 ^ 64
  | 0, _ => Nat.two_pow_pos 64
  | k + 1, h => Nat.or_lt_two_pow (dr_or_lt k (fun j hj => h j (by omega))) (h k (by omega))
theorem dr_or_bit (r : Nat → Nat) (f : Nat) : ∀ k, (dr_or r k).testBit f = true ↔ ∃ j, j < k ∧ (r j).testBit f = true := by
  intro k
  induction k with
  | zero => simp [dr_or]
  | succ k ih =>
    show (dr_or r k ||| r k).testBit f = true ↔ _
    rw [Nat.testBit_or, Bool.or_eq_true, ih]
    constructor
    · rintro (⟨j, h1, h2⟩ | h)
      · exact ⟨j, by omega, h2⟩
      · exact ⟨k, by omega, h⟩
    · rintro ⟨j, h1, h2⟩
      by_cases e : j = k
      · subst e; exact Or.inr h2
      · exact Or.inl ⟨j, by omega, h2⟩
theorem dr_found {r D : Nat → Nat} (h : dr r D) {f : Nat} (hf : f < 64) : (dr_or r 33).testBit f = true ↔ D f ≠ 0 := by
  rw [dr_or_bit]
  constructor
  · rintro ⟨j, h1, h2⟩ e
    rw [(h.2 f hf).2 j h1, e] at h2
    simp at h2
  · intro hne
    apply Classical.byContradiction
    intro hn
    apply hne
    apply Nat.eq_of_testBit_eq
    intro i
    rw [Nat.zero_testBit]
    by_cases hi : i < 33
    · rw [← (h.2 f hf).2 i hi]
      cases hb : (r i).testBit f
      · rfl
      · exact absurd ⟨i, hi, hb⟩ hn
    · exact Nat.testBit_lt_two_pow (Nat.lt_of_lt_of_le (h.2 f hf).1 (Nat.pow_le_pow_right (by decide) (by omega)))
/-! counting -/
def cn_t (P : Nat → Bool) : Nat → Nat
  | 0 => 0
  | k + 1 => cn_t P k + (if P k = true then 1 else 0)
theorem cn_congr {P P' : Nat → Bool} : ∀ k, (∀ j, j < k → P j = P' j) → cn_t P k = cn_t P' k
  | 0, _ => rfl
  | k + 1, h => by
    show cn_t P k + _ = cn_t P' k + _
    rw [cn_congr k (fun j hj => h j (by omega)), h k (by omega)]
theorem cn_pc (v : Nat) : ∀ k, pc_n v k = cn_t (fun f => v.testBit f) k
  | 0 => rfl
  | k + 1 => by
    show pc_n v k + v / 2 ^ k % 2 = cn_t (fun f => v.testBit f) k + (if v.testBit k = true then 1 else 0)
    rw [cn_pc v k]
    by_cases h : v.testBit k = true
    · rw [if_pos h, (tb_div v k).mp h]
    · rw [if_neg h]
      have : ¬ v / 2 ^ k % 2 = 1 := fun z => h ((tb_div v k).mpr z)
      omega
theorem cn_big {P : Nat → Bool} {k : Nat} (h : ∀ j, k ≤ j → P j = false) : ∀ j, k ≤ j → cn_t P j = cn_t P k := by
  intro j
  induction j with
  | zero => intro hj; rw [show k = 0 by omega]
  | succ j ih =>
    intro hj
    by_cases e : k = j + 1
    · rw [e]
    · show cn_t P j + _ = _
      rw [ih (by omega), h j (by omega)]
      rfl
/-! the answers with faults beyond the last line are those without -/
theorem ci_beyond {cc : Nat} {kd lf rg : Nat → Nat} {pt f : Nat} : ∀ k, k ≤ f / 2 → ∀ j, ci_t cc kd lf rg pt (some f) k j = ci_t cc kd lf rg pt none k j := by
  intro k
  induction k with
  | zero => intro _ _; rfl
  | succ k ih =>
    intro hk j
    have e : ci_t cc kd lf rg pt (some f) k = ci_t cc kd lf rg pt none k := funext (ih (by omega))
    show (if j = k then ci_s (some f) k (ci_v cc kd lf rg pt (ci_t cc kd lf rg pt (some f) k) k) else ci_t cc kd lf rg pt (some f) k j) = (if j = k then ci_s none k (ci_v cc kd lf rg pt (ci_t cc kd lf rg pt none k) k) else ci_t cc kd lf rg pt none k j)
    rw [e]
    have e2 : ∀ b, ci_s (some f) k b = ci_s none k b := fun b => by
      show (if f / 2 = k then (f % 2 == 1) else b) = b
      rw [if_neg (by omega)]
    rw [e2]
/-- the sum of two answers, output by output -/
theorem ci_a_x (ol : Nat → Nat) (F N : Nat → Bool) (i : Nat) : ci_a ol F (i + 1) ^^^ ci_a ol N (i + 1) = if (F (ol i) ^^ N (ol i)) = true then (ci_a ol F i ^^^ ci_a ol N i) ^^^ 2 ^ i else ci_a ol F i ^^^ ci_a ol N i := by
  have e : ∀ G : Nat → Bool, ci_a ol G (i + 1) = ci_a ol G i ^^^ (if G (ol i) = true then 2 ^ i else 0) := by
    intro G
    have hlt := ci_a_lt ol G i
    show ci_a ol G i + _ = _
    split
    · apply Nat.eq_of_testBit_eq
      intro j
      rw [Nat.add_comm, Nat.testBit_xor, Nat.testBit_two_pow]
      rcases Nat.lt_trichotomy j i with h | h | h
      · rw [Nat.testBit_two_pow_add_gt h]
        simp [show ¬ i = j by omega]
      · subst h
        rw [Nat.testBit_two_pow_add_eq]
        simp
      · have h2 : 2 ^ (i + 1) ≤ 2 ^ j := Nat.pow_le_pow_right (by decide) h
        rw [Nat.pow_succ] at h2
        rw [Nat.testBit_lt_two_pow (by omega), Nat.testBit_lt_two_pow (show ci_a ol G i < 2 ^ j by omega)]
        simp [show ¬ i = j by omega]
    · rw [Nat.xor_zero, Nat.add_zero]
  rw [e F, e N]
  generalize ci_a ol F i = a
  generalize ci_a ol N i = b
  cases F (ol i) <;> cases N (ol i) <;> simp
  · ac_rfl
  · ac_rfl
  · rw [show a ^^^ 2 ^ i ^^^ (b ^^^ 2 ^ i) = a ^^^ b ^^^ 2 ^ i ^^^ 2 ^ i by ac_rfl, px_cc]
theorem ci_a_ne (ol : Nat → Nat) (F N : Nat → Bool) (oc : Nat) : ci_a ol F oc ≠ ci_a ol N oc ↔ ∃ i, i < oc ∧ (F (ol i) ^^ N (ol i)) = true := by
  constructor
  · intro hne
    apply Classical.byContradiction
    intro hn
    apply hne
    apply ci_a_congr
    intro j hj
    cases hb : (F (ol j) ^^ N (ol j))
    · revert hb
      cases F (ol j) <;> cases N (ol j) <;> simp
    · exact absurd ⟨j, hj, hb⟩ hn
  · rintro ⟨i, hi, hb⟩ e
    have h1 := ci_a_bit ol F oc i
    have h2 := ci_a_bit ol N oc i
    rw [e, h2] at h1
    simp only [hi, decide_true, Bool.true_and] at h1
    rw [h1] at hb
    simp at hb
end
section
/-! Euclid's way, and quotients -/
noncomputable def eu : Nat → Nat → Nat → Nat
  | 0, a, _ => a
  | k + 1, a, b => if b = 0 then a else eu k b (px_r b a)
theorem px_r_div {b : Nat} (hb : b ≠ 0) (a : Nat) : ∃ q, a = px_m q b ^^^ px_r b a := by
  obtain ⟨q, e⟩ := (px_r_spec hb a).2
  refine ⟨q, ?_⟩
  rw [px_m_comm, ← e, Nat.xor_comm (px_r b a) a, px_cc]
theorem eu_ok : ∀ (k a b : Nat), b < 2 ^ k → px_G (eu (k + 1) a b) a b := by
  intro k
  induction k with
  | zero =>
    intro a b hb
    have : b = 0 := by simpa using hb
    subst this
    exact px_G_self a
  | succ k ih =>
    intro a b hb
    by_cases h0 : b = 0
    · subst h0
      exact px_G_self a
    · have e : eu (k + 1 + 1) a b = eu (k + 1) b (px_r b a) := by
        show (if b = 0 then a else eu (k + 1) b (px_r b a)) = _
        rw [if_neg h0]
      rw [e]
      have hl : b.log2 ≤ k := by
        have := (Nat.log2_lt h0).2 hb
        omega
      have hr := (px_r_spec h0 a).1
      have h2 : 2 ^ b.log2 ≤ 2 ^ k := Nat.pow_le_pow_right (by decide) hl
      obtain ⟨q, eq⟩ := px_r_div h0 a
      exact px_G_turn eq (ih b (px_r b a) (by omega))
theorem px_dv_lt {f a k : Nat} (h : px_dv f a) (ha : a ≠ 0) (hk : a < 2 ^ k) : f < 2 ^ k := by
  obtain ⟨hf, hl⟩ := px_dv_le h ha
  have h1 := px_lg2 f
  have h2 : a.log2 < k := (Nat.log2_lt ha).2 hk
  have h3 : 2 ^ (f.log2 + 1) ≤ 2 ^ k := Nat.pow_le_pow_right (by decide) (by omega)
  omega
theorem qt_ex (a b : Nat) (hb : b ≠ 0) : ∃ q, ∃ r, a = px_m q b ^^^ r ∧ r < 2 ^ b.log2 := px_div (px_lg1 hb) (px_lg2 b) a
noncomputable def qt (a b : Nat) : Nat := if h : b ≠ 0 then Classical.choose (qt_ex a b h) else 0
theorem qt_of {a b q r : Nat} (hb : b ≠ 0) (e : a = px_m q b ^^^ r) (hr : r < 2 ^ b.log2) : qt a b = q := by
  unfold qt
  rw [dif_pos hb]
  obtain ⟨r', e', hr'⟩ := Classical.choose_spec (qt_ex a b hb)
  generalize Classical.choose (qt_ex a b hb) = q' at *
  have h1 : px_m (q' ^^^ q) b = r' ^^^ r := by
    rw [px_m_xor_left]
    have h2 : px_m q' b = a ^^^ r' := by rw [e', px_cc]
    have h3 : px_m q b = a ^^^ r := by rw [e, px_cc]
    rw [h2, h3, show a ^^^ r' ^^^ (a ^^^ r) = r' ^^^ r ^^^ a ^^^ a by ac_rfl, px_cc]
  have h4 : px_dv b (r' ^^^ r) := ⟨q' ^^^ q, by rw [← h1, px_m_comm]⟩
  have h5 := px_dv_small h4 (Nat.xor_lt_two_pow hr' hr) (px_lg1 hb)
  rw [h5] at h1
  rcases px_zero h1 with z | z
  · exact px_eq0 z
  · exact absurd z hb
theorem qt_dv {a b : Nat} (hb : b ≠ 0) (h : px_dv b a) : a = px_m (qt a b) b := by
  obtain ⟨q, e⟩ := h
  have e2 : a = px_m q b ^^^ 0 := by rw [e, Nat.xor_zero, px_m_comm]
  rw [qt_of hb e2 (Nat.two_pow_pos _), e, px_m_comm]
/-! what is left when all that is shared is divided out -/
noncomputable def wo : Nat → Nat → Nat → Nat
  | 0, r, _ => r
  | k + 1, r, sh => if sh = 1 then r else wo k (qt r sh) (eu 65 (qt r sh) sh)
theorem wo_ok : ∀ (k r sh : Nat), r ≠ 0 → r < 2 ^ 64 → r.log2 < k → px_dv sh r → wo k r sh ≠ 0 ∧ px_dv (wo k r sh) r ∧ (∀ f, px_ir f → px_dv f r → px_dv f (wo k r sh) ∨ px_dv f sh) ∧ (∀ f, px_ir f → px_dv f (wo k r sh) → ¬ px_dv f sh) ∧ (sh ≠ 1 → ∃ t, r = px_m (px_m (wo k r sh) sh) t) := by
  intro k
  induction k with
  | zero => intro r sh _ _ h; omega
  | succ k ih =>
    intro r sh hr hlt hl hd
    by_cases h1 : sh = 1
    · have e : wo (k + 1) r sh = r := by
        show (if sh = 1 then r else _) = r
        rw [if_pos h1]
      rw [e]
      refine ⟨hr, px_dv_refl r, fun f _ h => Or.inl h, fun f hf _ h => ?_, fun h => absurd h1 h⟩
      rw [h1] at h
      have := px_dv_unit h
      have := hf.1
      omega
    · have e : wo (k + 1) r sh = wo k (qt r sh) (eu 65 (qt r sh) sh) := by
        show (if sh = 1 then r else _) = _
        rw [if_neg h1]
      rw [e]
      obtain ⟨hs0, -⟩ := px_dv_le hd hr
      have eq := qt_dv hs0 hd
      have hq0 : qt r sh ≠ 0 := fun z => hr (by rw [eq, z, px_m_zero_left])
      have hlog := px_log hq0 hs0
      rw [← eq] at hlog
      have := px_log_pos (px_two_le hs0 h1)
      have hqr : px_dv (qt r sh) r := ⟨sh, eq⟩
      have hG : px_G (eu 65 (qt r sh) sh) (qt r sh) sh := eu_ok 64 _ _ (px_dv_lt hd hr hlt)
      obtain ⟨q1, q2, q3, q4, -⟩ := ih (qt r sh) (eu 65 (qt r sh) sh) hq0 (px_dv_lt hqr hr hlt) (by omega) hG.1
      refine ⟨q1, px_dv_trans q2 hqr, fun f hf h => ?_, fun f hf h h2 => ?_, fun _ => ?_⟩
      · rw [eq] at h
        rcases px_euclid hf h with h3 | h3
        · rcases q3 f hf h3 with h4 | h4
          · exact Or.inl h4
          · exact Or.inr (px_dv_trans h4 hG.2.1)
        · exact Or.inr h3
      · exact q4 f hf h (px_G_dv hG (px_dv_trans h q2) h2)
      · obtain ⟨t, et⟩ := q2
        refine ⟨t, ?_⟩
        conv => lhs; rw [eq]
        generalize wo k (qt r sh) (eu 65 (qt r sh) sh) = z at *
        rw [et, px_m_assoc, px_m_assoc, px_m_comm t sh]
theorem px_G_same {g a : Nat} (h : px_dv g a) {d : Nat} (hd : px_G d a g) : d = g := px_dv_anti hd.2.1 (px_G_dv hd h (px_dv_refl g))
theorem wo_S_of {a g : Nat} (ha : a ≠ 0) (hlt : a < 2 ^ 64) (h : px_dv g a) (h1 : g ≠ 1) : wo_S a g (wo 64 a g) := by
  have hl : a.log2 < 64 := (Nat.log2_lt ha).2 hlt
  obtain ⟨q1, q2, q3, q4, q5⟩ := wo_ok 64 a g ha hlt hl h
  exact ⟨q1, q5 h1, q3, q4⟩
/-- x^(2^d), as the programs reckon it -/
theorem fr_next {p n : Nat} (h : md p n) (d : Nat) : px_r p (px_m (px_r p (2 ^ 2 ^ d)) (px_r p (2 ^ 2 ^ d))) = px_r p (2 ^ 2 ^ (d + 1)) := by
  rw [px_r_ml h, px_r_mr h, ← px_2add, Nat.pow_succ (n := 2) (m := d), Nat.mul_two]
theorem fr_w {p n : Nat} (h : md p n) (d : Nat) : px_cg p (px_r p (2 ^ 2 ^ d) ^^^ px_r p 2) (2 ^ 2 ^ d ^^^ 2) := px_cg_xor (px_r_cg h _) (px_r_cg h _)
/-- x^k is told by the residue of 2 -/
theorem xp_eq {p n : Nat} (h : md p n) (k : Nat) : px_r p (px_pw (px_r p 2) k) = px_r p (2 ^ k) := by rw [px_r_pw h, px_pw_two]
theorem xp_o {p n : Nat} (h : md p n) (k : Nat) : px_r p (2 ^ k) = 1 ↔ px_o p k := by
  constructor
  · intro e
    have h1 := px_r_cg h (2 ^ k)
    rw [e] at h1
    exact px_cg_symm h1
  · intro e
    rw [(px_r_iff h (2 ^ k) 1).2 e, md_odd1 h]
end
section
/-! families of kit/laws/BITS.to-paste (lN to 2^64; unsigned comparison), pasted; behind them rows of this claim on shifts, counters and longs -/
/-! ===== lN n to 2^64: shifts, and, or, masks, one bit ===== -/
theorem wb_tb (n : Nat) : (lN n).toBitVec = BitVec.ofNat 64 n := rfl
theorem wb_inj {a b : Int64} (h : a.toBitVec = b.toBitVec) : a = b := Int64.toBitVec_inj.mp h
theorem wb_tn {n : Nat} (h : n < 2 ^ 64) : (lN n).toBitVec.toNat = n := by rw [wb_tb, BitVec.toNat_ofNat, Nat.mod_eq_of_lt h]
theorem wb_of (x : Int64) : ∃ n, n < 2 ^ 64 ∧ x = lN n := ⟨x.toBitVec.toNat, x.toBitVec.isLt, wb_inj (by rw [wb_tb]; simp)⟩
theorem wb_of32 (x : Int32) : ∃ n, n < 2 ^ 32 ∧ x = nI n := ⟨x.toBitVec.toNat, x.toBitVec.isLt, Int32.toBitVec_inj.mp (by show _ = BitVec.ofNat 32 _; simp)⟩
theorem wb_c : ∀ k, k < 64 → ((nI k).toInt64 &&& 63) = lN k := by decide +kernel
theorem wb_cu : ∀ k, k < 64 → ((nI k).toInt64.toUInt64 &&& Int64.toUInt64 63) = UInt64.ofNat k := by decide +kernel
theorem wb_sm : ∀ k, k < 64 → (BitVec.ofNat 64 k).smod 64 = BitVec.ofNat 64 k := by decide +kernel
theorem wb_pw {a b : Nat} (h : a ≤ b) : 2 ^ b = 2 ^ a * 2 ^ (b - a) := by rw [← Nat.pow_add]; congr 1; omega
theorem wb_lt2 {a b : Nat} (h : a < b) : 2 ^ a < 2 ^ b := Nat.pow_lt_pow_right (by decide) h
theorem wb_mod (n : Nat) : lN n = lN (n % 2 ^ 64) := wb_inj (by rw [wb_tb, wb_tb]; apply BitVec.eq_of_toNat_eq; rw [BitVec.toNat_ofNat, BitVec.toNat_ofNat, Nat.mod_mod])
theorem wb_shr {n k : Nat} (hn : n < 2 ^ 64) (hk : k < 64) : ((lN n).toUInt64 >>> ((nI k).toInt64.toUInt64 &&& Int64.toUInt64 63)).toInt64 = lN (n / 2 ^ k) := by
  rw [wb_cu k hk]
  apply wb_inj
  apply BitVec.eq_of_toNat_eq
  show ((lN n).toUInt64 >>> UInt64.ofNat k).toNat = (BitVec.ofNat 64 _).toNat
  have h1 : (UInt64.ofNat k).toNat = k := by
    show (BitVec.ofNat 64 k).toNat = k
    rw [BitVec.toNat_ofNat, Nat.mod_eq_of_lt (by omega)]
  have h2 : (lN n).toUInt64.toNat = n := wb_tn hn
  rw [UInt64.toNat_shiftRight, h1, h2, Nat.mod_eq_of_lt hk, Nat.shiftRight_eq_div_pow, BitVec.toNat_ofNat, Nat.mod_eq_of_lt (Nat.lt_of_le_of_lt (Nat.div_le_self _ _) hn)]
theorem wb_shl (n : Nat) {k : Nat} (hk : k < 64) : lN n <<< ((nI k).toInt64 &&& 63) = lN (n * 2 ^ k) := by
  rw [wb_c k hk]
  apply wb_inj
  rw [Int64.toBitVec_shiftLeft, wb_tb, wb_tb, wb_tb, wb_sm k hk]
  apply BitVec.eq_of_toNat_eq
  rw [BitVec.shiftLeft_eq', BitVec.toNat_shiftLeft, BitVec.toNat_ofNat, BitVec.toNat_ofNat, BitVec.toNat_ofNat, Nat.mod_eq_of_lt (show k < 2 ^ 64 by omega), Nat.shiftLeft_eq, Nat.mul_mod, Nat.mod_mod, ← Nat.mul_mod]
theorem wb_and {a b : Nat} (ha : a < 2 ^ 64) (hb : b < 2 ^ 64) : lN a &&& lN b = lN (a &&& b) := by
  apply wb_inj
  rw [Int64.toBitVec_and, wb_tb, wb_tb, wb_tb]
  apply BitVec.eq_of_toNat_eq
  rw [BitVec.toNat_and, BitVec.toNat_ofNat, BitVec.toNat_ofNat, BitVec.toNat_ofNat, Nat.mod_eq_of_lt ha, Nat.mod_eq_of_lt hb, Nat.mod_eq_of_lt (Nat.and_lt_two_pow _ hb)]
theorem wb_or {a b : Nat} (ha : a < 2 ^ 64) (hb : b < 2 ^ 64) : lN a ||| lN b = lN (a ||| b) := by
  apply wb_inj
  rw [Int64.toBitVec_or, wb_tb, wb_tb, wb_tb]
  apply BitVec.eq_of_toNat_eq
  rw [BitVec.toNat_or, BitVec.toNat_ofNat, BitVec.toNat_ofNat, BitVec.toNat_ofNat, Nat.mod_eq_of_lt ha, Nat.mod_eq_of_lt hb, Nat.mod_eq_of_lt (Nat.or_lt_two_pow ha hb)]
theorem wb_mask {n k : Nat} (hn : n < 2 ^ 64) (hk : k < 64) : lN n &&& lN (2 ^ k - 1) = lN (n % 2 ^ k) := by
  rw [wb_and hn (by have := wb_lt2 hk; omega), Nat.and_two_pow_sub_one_eq_mod]
theorem wb_a1 {n : Nat} (hn : n < 2 ^ 64) : lN n &&& 1 = lN (n % 2) := wb_mask (k := 1) hn (by decide)
theorem wb_bit {n k : Nat} (hn : n < 2 ^ 64) (hk : k < 64) : ((lN n).toUInt64 >>> ((nI k).toInt64.toUInt64 &&& Int64.toUInt64 63)).toInt64 &&& 1 = lN (n / 2 ^ k % 2) := by
  rw [wb_shr hn hk, wb_a1 (Nat.lt_of_le_of_lt (Nat.div_le_self _ _) hn)]
theorem wb_xor {q k : Nat} (hk : k < 63) (h : 2 ^ k ≤ q) (h2 : q < 2 ^ (k + 1)) : lN q ^^^ lN (2 ^ k) = lN (q - 2 ^ k) := by
  obtain ⟨r, rfl⟩ : ∃ r, q = 2 ^ k + r := ⟨q - 2 ^ k, by omega⟩
  have hr : r < 2 ^ k := by rw [Nat.pow_succ] at h2; omega
  have hx : (2 ^ k + r) ^^^ 2 ^ k = r := by
    apply Nat.eq_of_testBit_eq
    intro i
    rw [Nat.testBit_xor, Nat.testBit_two_pow]
    rcases Nat.lt_trichotomy i k with h | h | h
    · rw [Nat.testBit_two_pow_add_gt h]
      simp [show ¬ k = i by omega]
    · subst h
      rw [Nat.testBit_two_pow_add_eq]
      simp
    · have a1 : 2 ^ (k + 1) ≤ 2 ^ i := Nat.pow_le_pow_right (by decide) h
      rw [Nat.testBit_lt_two_pow (show 2 ^ k + r < 2 ^ i by omega), Nat.testBit_lt_two_pow (show r < 2 ^ i by omega)]
      simp [show ¬ k = i by omega]
  have b1 := wb_lt2 (show k + 1 < 64 by omega)
  have b2 := wb_lt2 (show k < 64 by omega)
  apply wb_inj
  rw [Int64.toBitVec_xor, wb_tb, wb_tb, wb_tb]
  apply BitVec.eq_of_toNat_eq
  rw [BitVec.toNat_xor, BitVec.toNat_ofNat, BitVec.toNat_ofNat, BitVec.toNat_ofNat, Nat.mod_eq_of_lt (by omega : 2 ^ k + r < 2 ^ 64), Nat.mod_eq_of_lt b2, hx, Nat.add_sub_cancel_left, Nat.mod_eq_of_lt (by omega)]
/-! ===== unsigned comparison by xor with the least ===== -/
theorem lN_bv (n : Nat) : (lN n).toBitVec = BitVec.ofNat 64 n := rfl
theorem lN_nat {n : Nat} (h : n < 2 ^ 64) : (lN n).toBitVec.toNat = n := by rw [lN_bv, BitVec.toNat_ofNat]; exact Nat.mod_eq_of_lt h
theorem lN_xor (a b : Nat) : lN a ^^^ lN b = lN (a ^^^ b) := by
  apply Int64.toBitVec_inj.mp; rw [Int64.toBitVec_xor, lN_bv, lN_bv, lN_bv]; apply BitVec.eq_of_getLsbD_eq; intro i hi; simp [BitVec.getLsbD_ofNat, Nat.testBit_xor, hi]
theorem lN_ti {m : Nat} (h : m < 2 ^ 64) : (lN m).toInt = if m < 2 ^ 63 then (m : Int) else (m : Int) - 2 ^ 64 := by
  have c := BitVec.toInt_eq_toNat_cond (lN m).toBitVec
  rw [lN_nat h] at c
  show (lN m).toBitVec.toInt = _
  rw [c]
  split <;> split <;> omega
/-! counters that run down: jm K is K less one, also for 0 -/
def jm (K : Nat) : Int32 := nI K - 1
theorem jm_succ (K : Nat) : jm (K + 1) = nI K := nI_pred K
theorem jm_dec (K : Nat) : nI K + Int32.ofInt (-1) = jm K := by
  unfold jm
  rw [Int32.sub_eq_add_neg]
  rfl
theorem jm_toInt {K : Nat} (h : K < 2 ^ 30) : (jm K).toInt = (K : Int) - 1 := pk_sub_toInt (b := 1) h (by decide)
theorem jm_lt {K j : Nat} (h : K < 2 ^ 30) (hj : j < 2 ^ 30) : jm K < nI j ↔ K ≤ j := by
  rw [Int32.lt_iff_toInt_lt, jm_toInt h, nI_toInt (by omega)]
  omega
theorem jm_neg {K : Nat} (h : K < 2 ^ 30) : jm K < 0 ↔ K = 0 := by
  rw [Int32.lt_iff_toInt_lt, jm_toInt h, Int32.toInt_zero]
  omega
theorem lN_b1 {v : Nat} : lN (v % 2) = 1 ↔ v % 2 = 1 := by
  rcases Nat.mod_two_eq_zero_or_one v with e | e <;> rw [e] <;> decide
theorem lN_b0 {v : Nat} : lN (v % 2) = 0 ↔ ¬ v % 2 = 1 := by
  rcases Nat.mod_two_eq_zero_or_one v with e | e <;> rw [e] <;> decide
theorem lN_eqI {a b : Nat} (ha : a < 2 ^ 64) (hb : b < 2 ^ 64) : lN a = lN b ↔ a = b := by
  constructor
  · intro h
    have := congrArg (fun z : Int64 => z.toBitVec.toNat) h
    simp only [lN_nat ha, lN_nat hb] at this
    exact this
  · intro h; rw [h]
theorem lN_0 : lN 0 = 0 := rfl
theorem lN_neg {a : Nat} (ha : a < 2 ^ 64) : lN a < 0 ↔ 2 ^ 63 ≤ a := by
  rw [Int64.lt_iff_toInt_lt, lN_ti ha, Int64.toInt_zero]
  split <;> omega
theorem lN_wrap (a : Nat) : lN (a % 2 ^ 64) = lN a := (wb_mod a).symm
theorem lN_shl1 {a : Nat} : lN a <<< ((nI 1).toInt64 &&& 63) = lN (2 * a) := by
  rw [wb_shl a (by decide), Nat.mul_comm]
theorem wb_sbit {n k : Nat} (hk : k < 64) : (lN n >>> ((nI k).toInt64 &&& 63)) &&& 1 = lN (n % 2 ^ 64 / 2 ^ k % 2) := by
  rw [wb_c k hk]
  apply wb_inj
  rw [Int64.toBitVec_and, Int64.toBitVec_shiftRight]
  have hs : ((lN k).toBitVec.smod 64).toNat = k := by
    rw [wb_tb, wb_sm k hk, BitVec.toNat_ofNat, Nat.mod_eq_of_lt (by omega)]
  apply BitVec.eq_of_getLsbD_eq
  intro i hi
  show ((lN n).toBitVec.sshiftRight ((lN k).toBitVec.smod 64).toNat &&& 1#64).getLsbD i = (BitVec.ofNat 64 (n % 2 ^ 64 / 2 ^ k % 2)).getLsbD i
  rw [hs, BitVec.getLsbD_and, BitVec.getLsbD_sshiftRight, wb_tb]
  simp only [BitVec.getLsbD_ofNat]
  cases i with
  | zero =>
    have e : (n % 2 ^ 64).testBit k = n.testBit k := by rw [Nat.testBit_mod_two_pow]; simp [hk]
    have e2 : (n % 2 ^ 64 / 2 ^ k % 2).testBit 0 = n.testBit k := by
      rw [Nat.testBit_zero, ← e, Nat.testBit_eq_decide_div_mod_eq, Nat.mod_mod]
    rw [e2]
    simp [hk]
  | succ i =>
    have h2 : (n % 2 ^ 64 / 2 ^ k % 2).testBit (i + 1) = false := by
      apply Nat.testBit_lt_two_pow
      have h3 : 2 ^ 1 ≤ 2 ^ (i + 1) := Nat.pow_le_pow_right (by decide) (by omega)
      omega
    rw [h2]
    have h4 : Nat.testBit 1 (i + 1) = false := by
      apply Nat.testBit_lt_two_pow
      have h3 : 2 ^ 1 ≤ 2 ^ (i + 1) := Nat.pow_le_pow_right (by decide) (by omega)
      omega
    rw [h4]
    simp
theorem updL_lN (f : Nat → Nat) (k v : Nat) : vp_updL (fun c => lN (f c)) k (lN v) = fun c => lN (va_up f k v c) := by
  funext j
  by_cases h : j = k
  · subst h; rw [pk_uLs, va_up_self]
  · rw [pk_uLn h, va_up_ne f v h]
theorem upd_nI (f : Nat → Nat) (k v : Nat) : upd (fun c => nI (f c)) k (nI v) = fun c => nI (va_up f k v c) := by
  funext j
  by_cases h : j = k
  · subst h; rw [pk_us, va_up_self]
  · rw [pk_un h, va_up_ne f v h]
theorem g1_and {c : Nat} (h : c < 2 ^ 64) : lN c &&& lN 1 = lN (c % 2) := wb_a1 h
end
section
/-! words on nest mates: they hold at every state that a walk comes to -/
def nest_w (w : Cond) : Bool := match w with
  | .fieldLinkNest .. => true
  | .methodLinkNest .. => true
  | _ => false
theorem nest_warm {w : Cond} (h : nest_w w = true) {s U : State} (hW : s.WarmedH U.vm) (hZ : va_Nw w s) : va_Nw w U := by
  cases w <;> first | exact va_Nw.warmF hW hZ | exact va_Nw.warmM hW hZ | cases h
theorem nest_on {w : Cond} (h : nest_w w = true) : w.onTables = true := by
  cases w <;> first | rfl | cases h
theorem nw_nest : ∀ w ∈ nw_l, nest_w w = true := by decide +kernel
def nw_ok (U : State) : Prop := ∀ w ∈ nw_l, va_Nw w U
theorem nw_ok.warm {s U : State} (h : nw_ok s) (hW : s.WarmedH U.vm) : nw_ok U := fun w hw => nest_warm (nw_nest w hw) hW (h w hw)
theorem nw_ok.same {s U : State} (h : nw_ok s) (e : s.vm = U.vm) : nw_ok U := fun w hw => va_Nw.same (nest_on (nw_nest w hw)) e (h w hw)
theorem nw_use {w : Cond} {s : State} {args : Array Value} (h : nw_ok s) (hw : w ∈ nw_l) : w.before args s = true := va_Nw.use (nest_on (nw_nest w hw)) (h w hw)
/-! words of a call, by places in gw -/
theorem gi_S {own : String} {idx : Nat} {y : MethodName} {ws : List Cond} (h1 : Cond.methodLink own idx y ∈ gw) (h2 : Cond.static y ∈ gw) (h3 : Cond.initialized y.cls ∈ gw) (hg : GoodIn gw ws) : GoodIn gw (va_wsS own idx y ws) := by
  refine goodIn_app (fun w hw => ?_) hg
  simp only [List.mem_cons, List.not_mem_nil, or_false] at hw
  rcases hw with rfl | rfl | rfl
  · exact ⟨h1, good_of_word (List.mem_filter.mp h1).2⟩
  · exact ⟨h2, good_of_word (List.mem_filter.mp h2).2⟩
  · exact ⟨h3, good_of_word (List.mem_filter.mp h3).2⟩
theorem gi_V {own C : String} {idx : Nat} {y : MethodName} {ws : List Cond} (h1 : Cond.methodLink own idx y ∈ gw) (h2 : Cond.instanceMethod y ∈ gw) (h3 : Cond.selects C y y ∈ gw) (h4 : Cond.initialized C ∈ gw) (hg : GoodIn gw ws) : GoodIn gw (wsV own idx C y ws) := by
  refine goodIn_app (fun w hw => ?_) hg
  simp only [List.mem_cons, List.not_mem_nil, or_false] at hw
  rcases hw with rfl | rfl | rfl | rfl
  · exact ⟨h1, good_of_word (List.mem_filter.mp h1).2⟩
  · exact ⟨h2, good_of_word (List.mem_filter.mp h2).2⟩
  · exact ⟨h3, good_of_word (List.mem_filter.mp h3).2⟩
  · exact ⟨h4, good_of_word (List.mem_filter.mp h4).2⟩
/-! calls of this claim: worlds that are only read (wq_R), worlds that are written (wq_W), and what comes back (wq_B) -/
def wq_R (D : va_G) (cl : List vw_C) (ws : va_W) (tys : List (ClassId × FieldType)) (U : State) : Prop := va_P D cl ws U.heap ∧ va_K D cl tys U ∧ nw_ok U
def wq_W (D : va_G) (cl : List vw_C) (ws : va_W) (tys : List (ClassId × FieldType)) (sz : Nat) (U : State) : Prop := U.heap.size = sz ∧ va_P D cl ws U.heap ∧ va_K D cl tys U ∧ va_D (fun _ => True) ws ∧ nw_ok U
def wq_B (D : va_G) (cl : List vw_C) (tys : List (ClassId × FieldType)) (A : Nat → Prop) (ws : va_W) (t : State) : Prop := va_P D cl ws t.heap ∧ va_K D cl tys t ∧ va_D A ws
theorem wq_blR {D : va_G} {cl : List vw_C} {ws : va_W} {tys : List (ClassId × FieldType)} {av : List Value} : FrameBlind (va_Pc av (wq_R D cl ws tys)) := fun a U g mk q => by
  obtain ⟨q0, qP, qK, qN⟩ := q
  exact ⟨q0, qP, va_K.moved (u := U) (U := U.calling g mk a) (Vm.Alike.refl U.vm) qK, qN.same (U := U.calling g mk a) rfl⟩
theorem wq_blW {D : va_G} {cl : List vw_C} {ws : va_W} {tys : List (ClassId × FieldType)} {sz : Nat} {av : List Value} : FrameBlind (va_Pc av (wq_W D cl ws tys sz)) := fun a U g mk q => by
  obtain ⟨q0, q1, qP, qK, qD, qN⟩ := q
  exact ⟨q0, q1, qP, va_K.moved (u := U) (U := U.calling g mk a) (Vm.Alike.refl U.vm) qK, qD, qN.same (U := U.calling g mk a) rfl⟩
theorem wq_blT {av : List Value} : FrameBlind (va_Pc av (fun _ => True)) := fun _ _ _ _ q => q
theorem wq_fm {ws wc : va_W} {is : List Nat} (hC : is.map (fun i => ws[i]?) = wc.map some) : is.filterMap (fun i => ws[i]?) = wc := by
  have h := congrArg (List.filterMap id) hC
  rw [List.filterMap_map, List.filterMap_map] at h
  simpa using h
section WQ
variable {s : State} {H : Heap} {D : va_G} {cl : List vw_C} {ws wc : va_W} {tys : List (ClassId × FieldType)} {A : Nat → Prop}
theorem wq_preS0 {As : List Value} : PreS s H (va_Pc As (fun _ => True)) As := ⟨wq_blT, fun _ _ _ => ⟨rfl, trivial⟩⟩
theorem wq_preSR {As : List Value} (hP : va_P D cl ws H) (hK : va_K D cl tys s) (hN : nw_ok s) (is : List Nat) (hC : is.map (fun i => ws[i]?) = wc.map some) : PreS s H (va_Pc As (wq_R D cl wc tys)) As :=
  ⟨wq_blR, fun U hU hW => ⟨rfl, by rw [hU]; exact hP.sub is (wq_fm hC), va_K.moved hW.alike hK, hN.warm hW⟩⟩
theorem wq_preVR {C : String} {b : Nat} {As : List Value} (hP : va_P D cl ws H) (hK : va_K D cl tys s) (hN : nw_ok s) (is : List Nat) (hC : is.map (fun i => ws[i]?) = wc.map some) {q0 ci : Nat} {q : vw_C} {fs : List Value} (hc : cl[ci]? = some q) (he : ws[q0]? = some (b, .inr (ci, fs))) (hn : q.1 = C) : PreV s H C b (va_Pc (.ref b :: As) (wq_R D cl wc tys)) As :=
  ⟨wq_blR, by subst hn; exact va_recv hK hP hc he, fun U hU hW => ⟨rfl, by rw [hU]; exact hP.sub is (wq_fm hC), va_K.moved hW.alike hK, hN.warm hW⟩⟩
theorem wq_preSW {As : List Value} (hP : va_P D cl ws H) (hD : va_D A ws) (hK : va_K D cl tys s) (hN : nw_ok s) (is : List Nat) (hnd : va_nd is = true) (hC : is.map (fun i => ws[i]?) = wc.map some) : PreS s H (va_Pc As (wq_W D cl wc tys H.size)) As :=
  ⟨wq_blW, fun U hU hW => ⟨rfl, by rw [hU], by rw [hU]; exact hP.sub is (wq_fm hC), va_K.moved hW.alike hK, (hD.sub is hnd hC).weaken (fun _ _ _ _ => trivial), hN.warm hW⟩⟩
theorem wq_preVW {C : String} {b : Nat} {As : List Value} (hP : va_P D cl ws H) (hD : va_D A ws) (hK : va_K D cl tys s) (hN : nw_ok s) (is : List Nat) (hnd : va_nd is = true) (hC : is.map (fun i => ws[i]?) = wc.map some) {q0 ci : Nat} {q : vw_C} {fs : List Value} (hc : cl[ci]? = some q) (he : ws[q0]? = some (b, .inr (ci, fs))) (hn : q.1 = C) : PreV s H C b (va_Pc (.ref b :: As) (wq_W D cl wc tys H.size)) As :=
  ⟨wq_blW, by subst hn; exact va_recv hK hP hc he, fun U hU hW => ⟨rfl, by rw [hU], by rw [hU]; exact hP.sub is (wq_fm hC), va_K.moved hW.alike hK, (hD.sub is hnd hC).weaken (fun _ _ _ _ => trivial), hN.warm hW⟩⟩
end WQ
section WC
variable {p : Program} {l : Launch} {e : Env} {R : Room} {s : State} {m : MethodId} {args : Array Value} {below : List Frame} {meth : Method} {c : Code} {H H0 : Heap} {locs : List Loc} {cells slots mc ms pc : Nat} {Q : State → Prop}
variable {ls : Array Slot} {rest st0 : List Value} {D : va_G} {cl : List vw_C} {A : Nat → Prop} {tys : List (ClassId × FieldType)} {ws wc wr : va_W}
theorem wq_i {S : Type} {post : Int32 → S → Prop} {w1 : S → va_W} {a : Array Value}
    (hr : va_Run p l e R s m args below meth c H locs cells slots mc ms (F0 m pc ls st0) rest (va_Qi post (fun u t => wq_B D cl tys (va_A wc H.size) (w1 u) t) (va_A wc H.size) a) (va_A wc H.size))
    (hP : va_P D cl ws H) (hD : va_D A ws) (hS : va_S A H0 H locs) (hA : ∀ q, H0.size ≤ q → A q) (isC isR : List Nat) (hC : isC.map (fun i => ws[i]?) = wc.map some) (hR : isR.map (fun i => ws[i]?) = wr.map some) (hn : va_nd isR = true) (hdis : ∀ i ∈ isR, i ∉ isC)
    (kk : ∀ (r : Int32) (u : S) (H1 : Heap) (locs1 : List Loc), post r u → va_P D cl (wr ++ w1 u) H1 → va_D A (wr ++ w1 u) → va_S A H0 H1 locs1 → H.size ≤ H1.size → W p l e R s m args below meth c H1 locs1 (cells + mc) (slots + ms) Q (F0 m (pc + 3) ls (.int r :: rest))) : W p l e R s m args below meth c H locs cells slots Q (F0 m pc ls st0) := by
  have hFc := va_free (wc := wc) hD hS hA isC hC
  refine va_calli hr hS (fun q _ h => hFc q h) hFc (fun r u t H1 locs1 ht hvm hq hB hz hk hS => ?_)
  obtain ⟨hP1, hK1, hD1⟩ := hB
  rw [ht] at hP1
  obtain ⟨hP2, hD2⟩ := va_join hP hD isC isR hC hR hn hdis hk hFc hP1 hD1
  exact kk r u H1 locs1 hq hP2 hD2 hS hz
theorem wq_l {S : Type} {post : Int64 → S → Prop} {w1 : S → va_W} {a : Array Value}
    (hr : va_Run p l e R s m args below meth c H locs cells slots mc ms (F0 m pc ls st0) rest (va_Ql post (fun u t => wq_B D cl tys (va_A wc H.size) (w1 u) t) (va_A wc H.size) a) (va_A wc H.size))
    (hP : va_P D cl ws H) (hD : va_D A ws) (hS : va_S A H0 H locs) (hA : ∀ q, H0.size ≤ q → A q) (isC isR : List Nat) (hC : isC.map (fun i => ws[i]?) = wc.map some) (hR : isR.map (fun i => ws[i]?) = wr.map some) (hn : va_nd isR = true) (hdis : ∀ i ∈ isR, i ∉ isC)
    (kk : ∀ (r : Int64) (u : S) (H1 : Heap) (locs1 : List Loc), post r u → va_P D cl (wr ++ w1 u) H1 → va_D A (wr ++ w1 u) → va_S A H0 H1 locs1 → H.size ≤ H1.size → W p l e R s m args below meth c H1 locs1 (cells + mc) (slots + ms) Q (F0 m (pc + 3) ls (.long r :: rest))) : W p l e R s m args below meth c H locs cells slots Q (F0 m pc ls st0) := by
  have hFc := va_free (wc := wc) hD hS hA isC hC
  refine va_calll hr hS (fun q _ h => hFc q h) hFc (fun r u t H1 locs1 ht hvm hq hB hz hk hS => ?_)
  obtain ⟨hP1, hK1, hD1⟩ := hB
  rw [ht] at hP1
  obtain ⟨hP2, hD2⟩ := va_join hP hD isC isR hC hR hn hdis hk hFc hP1 hD1
  exact kk r u H1 locs1 hq hP2 hD2 hS hz
theorem wq_v {S : Type} {post : S → Prop} {w1 : S → va_W} {a : Array Value}
    (hr : va_Run p l e R s m args below meth c H locs cells slots mc ms (F0 m pc ls st0) rest (va_Qv post (fun u t => wq_B D cl tys (va_A wc H.size) (w1 u) t) (va_A wc H.size) a) (va_A wc H.size))
    (hP : va_P D cl ws H) (hD : va_D A ws) (hS : va_S A H0 H locs) (hA : ∀ q, H0.size ≤ q → A q) (isC isR : List Nat) (hC : isC.map (fun i => ws[i]?) = wc.map some) (hR : isR.map (fun i => ws[i]?) = wr.map some) (hn : va_nd isR = true) (hdis : ∀ i ∈ isR, i ∉ isC)
    (kk : ∀ (u : S) (H1 : Heap) (locs1 : List Loc), post u → va_P D cl (wr ++ w1 u) H1 → va_D A (wr ++ w1 u) → va_S A H0 H1 locs1 → H.size ≤ H1.size → W p l e R s m args below meth c H1 locs1 (cells + mc) (slots + ms) Q (F0 m (pc + 3) ls rest)) : W p l e R s m args below meth c H locs cells slots Q (F0 m pc ls st0) := by
  have hFc := va_free (wc := wc) hD hS hA isC hC
  refine va_callv hr hS (fun q _ h => hFc q h) hFc (fun u t H1 locs1 ht hvm hq hB hz hk hS => ?_)
  obtain ⟨hP1, hK1, hD1⟩ := hB
  rw [ht] at hP1
  obtain ⟨hP2, hD2⟩ := va_join hP hD isC isR hC hR hn hdis hk hFc hP1 hD1
  exact kk u H1 locs1 hq hP2 hD2 hS hz
end WC
end
section
/-! how long a number is in bits -/
def blen (v : Nat) : Nat := if v = 0 then 0 else v.log2 + 1
theorem blen_pos {v : Nat} (h : v ≠ 0) : blen v = v.log2 + 1 := if_neg h
theorem blen_0 : blen 0 = 0 := rfl
theorem blen_le {v k : Nat} (h : v < 2 ^ k) : blen v ≤ k := by
  by_cases h0 : v = 0
  · rw [h0, blen_0]; omega
  · rw [blen_pos h0]
    have := (Nat.log2_lt h0).2 h
    omega
theorem blen_lt (v : Nat) : v < 2 ^ blen v := by
  by_cases h0 : v = 0
  · rw [h0, blen_0]; decide
  · rw [blen_pos h0]
    exact px_lg2 v
theorem blen_div {v k : Nat} (h : 2 ^ k ≤ v) : blen v = blen (v / 2 ^ k) + k := by
  have hk := Nat.two_pow_pos k
  have h0 : v ≠ 0 := by omega
  have h1 : v / 2 ^ k ≠ 0 := by
    have := Nat.div_pos h hk
    omega
  have hl : k ≤ v.log2 := (Nat.le_log2 h0).2 h
  have h2 : (v / 2 ^ k).log2 = v.log2 - k := by
    apply px_lg
    · rw [Nat.le_div_iff_mul_le hk, ← Nat.pow_add, show v.log2 - k + k = v.log2 by omega]
      exact px_lg1 h0
    · rw [Nat.div_lt_iff_lt_mul hk, ← Nat.pow_add, show v.log2 - k + 1 + k = v.log2 + 1 by omega]
      exact px_lg2 v
  rw [blen_pos h0, blen_pos h1, h2]
  omega
theorem nI_dec {a b : Nat} (h : b ≤ a) : nI a + -nI b = nI (a - b) := by rw [← Int32.sub_eq_add_neg, pk_sub h]
theorem nI_gt0 {u : Nat} (h : u < 2 ^ 32) : 0 < nI u ↔ 0 < u ∧ u < 2 ^ 31 := by
  rw [Int32.lt_iff_toInt_lt, Int32.toInt_zero]
  have e : (nI u).toInt = if u < 2 ^ 31 then (u : Int) else (u : Int) - 2 ^ 32 := by
    have c := BitVec.toInt_eq_toNat_cond (nI u).toBitVec
    rw [pk_tn h] at c
    show (nI u).toBitVec.toInt = _
    rw [c]
    split <;> split <;> omega
  rw [e]
  split <;> omega
theorem nI_eq0 {u : Nat} (h : u < 2 ^ 32) : nI u = 0 ↔ u = 0 := by
  constructor
  · intro e
    have := congrArg (fun z : Int32 => z.toBitVec.toNat) e
    simp only [pk_tn h] at this
    exact this
  · intro e; rw [e]; rfl
theorem l2i_lN (a : Nat) : (lN a).toInt32 = nI a := lN_i a
theorem nI_mod (a : Nat) : nI (a % 2 ^ 32) = nI a := by
  apply Int32.toBitVec_inj.1
  show BitVec.ofNat 32 (a % 2 ^ 32) = BitVec.ofNat 32 a
  apply BitVec.eq_of_toNat_eq
  rw [BitVec.toNat_ofNat, BitVec.toNat_ofNat, Nat.mod_mod]
theorem sub_jm {k : Nat} (h : k ≤ 64) : nI 63 - nI (64 - k) = jm k := by
  apply Int32.toInt_inj.mp
  rw [pk_sub_toInt (by decide) (by omega), jm_toInt (by omega)]
  omega
end
section
theorem md_lt {p n : Nat} (h : md p n) : p < 2 ^ 64 := by
  have h1 : 2 ^ (n + 1) ≤ 2 ^ 64 := Nat.pow_le_pow_right (by decide) (by have := h.2.1; omega)
  have := h.2.2.2.1
  omega
theorem md_n {p n : Nat} (h : md p n) : 2 ^ n ≤ 2 ^ 32 := Nat.pow_le_pow_right (by decide) h.2.1
theorem md_lg {p n : Nat} (h : md p n) : p.log2 = n := px_lg h.2.2.1 h.2.2.2.1
theorem res_lt {p n a : Nat} (h : md p n) (ha : a < 2 ^ n) : a < 2 ^ 32 := Nat.lt_of_lt_of_le ha (md_n h)
theorem r_lt32 {p n : Nat} (h : md p n) (a : Nat) : px_r p a < 2 ^ 32 := res_lt h (px_r_lt h a)
theorem r_lt64 {p n : Nat} (h : md p n) (a : Nat) : px_r p a < 2 ^ 64 := by have := r_lt32 h a; omega
theorem cmq_ne {x y : Int64} (h : ¬ lg_cmp x y = 0) : x ≠ y := fun e => h ((lg_cmp_eq x y).mpr e)
theorem cmq_eq {x y : Int64} (h : lg_cmp x y = 0) : x = y := (lg_cmp_eq x y).mp h
/-- where a sum of bits w lies above the shift -/
theorem qw_or {w s : Nat} (h : w % 2 ^ (s + 1) = 0) : w ||| 2 ^ s = w ^^^ 2 ^ s := by
  apply Nat.eq_of_testBit_eq
  intro i
  rw [Nat.testBit_or, Nat.testBit_xor, Nat.testBit_two_pow]
  by_cases e : s = i
  · subst e
    have h2 : (w % 2 ^ (s + 1)).testBit s = w.testBit s := by rw [Nat.testBit_mod_two_pow]; simp
    rw [h, Nat.zero_testBit] at h2
    rw [← h2]
    simp
  · simp [e]
theorem qw_mod {w s : Nat} (h : w % 2 ^ (s + 1) = 0) : (w ^^^ 2 ^ s) % 2 ^ s = 0 := by
  rw [Nat.xor_mod_two_pow, Nat.mod_self, Nat.xor_zero]
  have : 2 ^ s ∣ w := Nat.dvd_trans ⟨2, Nat.pow_succ 2 s⟩ (Nat.dvd_of_mod_eq_zero h)
  exact Nat.mod_eq_zero_of_dvd this
theorem qw_mod0 {w s : Nat} (h : w % 2 ^ (s + 1) = 0) : w % 2 ^ s = 0 := by
  have : 2 ^ s ∣ w := Nat.dvd_trans ⟨2, Nat.pow_succ 2 s⟩ (Nat.dvd_of_mod_eq_zero h)
  exact Nat.mod_eq_zero_of_dvd this
end
section
/-! whether x^e leaves 1, as a truth value; the table of primes in the heap -/
noncomputable def oo (p e : Nat) : Bool := decide (px_r p (2 ^ e) = 1)
theorem oo_iff {p n : Nat} (h : md p n) (e : Nat) : oo p e = true ↔ px_o p e := by
  unfold oo
  rw [decide_eq_true_iff, xp_o h]
theorem ow_1_pos {o : Nat → Bool} {q : Nat} (hq : 2 ≤ q) : ∀ (f m : Nat), 0 < m → 0 < ow_1 o q f m ∧ ow_1 o q f m ≤ m := by
  intro f
  induction f with
  | zero => intro m h; exact ⟨h, Nat.le_refl m⟩
  | succ f ih =>
    intro m h
    show 0 < (if m % q = 0 then (if o (m / q) = true then ow_1 o q f (m / q) else m) else m) ∧ (if m % q = 0 then (if o (m / q) = true then ow_1 o q f (m / q) else m) else m) ≤ m
    split
    · rename_i hd
      split
      · have hle := Nat.le_of_dvd h (Nat.dvd_of_mod_eq_zero hd)
        obtain ⟨h1, h2⟩ := ih (m / q) (Nat.div_pos hle (by omega))
        have := Nat.div_le_self m q
        exact ⟨h1, by omega⟩
      · exact ⟨h, Nat.le_refl m⟩
    · exact ⟨h, Nat.le_refl m⟩
theorem ow_A_app (o : Nat → Bool) : ∀ (l1 l2 : List Nat) (m : Nat), ow_A o (l1 ++ l2) m = ow_A o l2 (ow_A o l1 m)
  | [], _, _ => rfl
  | q :: l1, l2, m => ow_A_app o l1 l2 (ow_1 o q 64 m)
theorem pr_T_lt : ∀ q ∈ pr_T, q < 2 ^ 63 := by decide +kernel
theorem pr_T_len : pr_T.length = 37 := by decide
def pr_v (j : Nat) : Value := .long (lN (pr_T.getD j 0))
def pr_ok (H : Heap) (U : State) : Prop := ∃ t : Nat, va_Z "ShiftSignatures$Modulus" "PRIMES" "[J" (.ref t) (fun _ => False) U H ∧ va_T .long t 37 pr_v (fun _ => False) U H
theorem pr_ok.moved {H : Heap} {u U : State} (h : pr_ok H u) (hvm : u.vm.Alike U.vm) : pr_ok H U := by
  obtain ⟨t, h1, h2⟩ := h
  exact ⟨t, va_Z.moved hvm h1, va_T.moved hvm h2⟩
theorem ow_drop {o : Nat → Bool} {j : Nat} (hj : j < pr_T.length) (m : Nat) : ow_A o (pr_T.drop j) m = ow_A o (pr_T.drop (j + 1)) (ow_1 o (pr_T.getD j 0) 64 m) := by
  rw [List.drop_eq_getElem_cons hj, List.getD_eq_getElem?_getD, List.getElem?_eq_getElem hj]
  rfl
theorem pr_get {j : Nat} (hj : j < 37) : pr_T.getD j 0 ∈ pr_T := by
  have h : j < pr_T.length := by rw [pr_T_len]; exact hj
  rw [List.getD_eq_getElem?_getD, List.getElem?_eq_getElem h]
  exact List.getElem_mem h
/-! worlds that are only read, and the table of primes -/
def wq_P (D : va_G) (cl : List vw_C) (ws : va_W) (tys : List (ClassId × FieldType)) (U : State) : Prop := wq_R D cl ws tys U ∧ pr_ok U.heap U
theorem wq_blP {D : va_G} {cl : List vw_C} {ws : va_W} {tys : List (ClassId × FieldType)} {av : List Value} : FrameBlind (va_Pc av (wq_P D cl ws tys)) := fun a U g mk q => by
  obtain ⟨q0, q1, q2⟩ := q
  exact ⟨q0, (wq_blR (av := av) a U g mk ⟨q0, q1⟩).2, q2.moved (u := U) (U := U.calling g mk a) (Vm.Alike.refl U.vm)⟩
theorem wq_preVP {s : State} {H : Heap} {D : va_G} {cl : List vw_C} {ws wc : va_W} {tys : List (ClassId × FieldType)} {C : String} {b : Nat} {As : List Value} (hP : va_P D cl ws H) (hK : va_K D cl tys s) (hN : nw_ok s) (hR : pr_ok H s) (is : List Nat) (hC : is.map (fun i => ws[i]?) = wc.map some) {q0 ci : Nat} {q : vw_C} {fs : List Value} (hc : cl[ci]? = some q) (he : ws[q0]? = some (b, .inr (ci, fs))) (hn : q.1 = C) : PreV s H C b (va_Pc (.ref b :: As) (wq_P D cl wc tys)) As := by
  have h := wq_preVR (As := As) hP hK hN is hC hc he hn
  refine ⟨wq_blP, h.2.1, fun U hU hW => ?_⟩
  obtain ⟨h1, h2⟩ := h.2.2 U hU hW
  exact ⟨h1, h2, by rw [hU]; exact hR.moved hW.alike⟩
end
section
/-! circuits as the arrays hold them -/
def ck (cc gc oc : Nat) (kd lf rg ol : Nat → Nat) : Prop := cc ≤ 8 ∧ gc ≤ 24 ∧ oc ≤ 16 ∧ (∀ g, g < gc → kd g ≤ 5 ∧ lf g < cc + g ∧ rg g < cc + g) ∧ ∀ i, i < oc → ol i < cc + gc
theorem lN_not (a : Nat) : lN a ^^^ (-1) = lN (a ^^^ (2 ^ 64 - 1)) := by
  rw [show (-1 : Int64) = lN (2 ^ 64 - 1) from by decide +kernel, lN_xor]
theorem nI_and1 {b : Nat} (h : b < 2 ^ 32) : nI b &&& nI 1 = nI (b % 2) := pk_andN h 1 (by decide)
theorem neg_sp (b : Nat) : -(lN (b % 2)) = lN (ci_p (b.testBit 0)) := by
  rw [Nat.testBit_zero]
  rcases Nat.mod_two_eq_zero_or_one b with e | e <;> rw [e] <;> decide +kernel
theorem sh_bit (pt k : Nat) : (pt / 2 ^ k).testBit 0 = pt.testBit k := by rw [Nat.testBit_div_two_pow, Nat.zero_add]
theorem ck_line {cc gc oc : Nat} {kd lf rg ol : Nat → Nat} (h : ck cc gc oc kd lf rg ol) {k : Nat} (hk : k < cc + gc) : cc ≤ k → lf (k - cc) < k ∧ rg (k - cc) < k := fun hc => by
  have := h.2.2.2.1 (k - cc) (by omega)
  omega
theorem va_up_lt {f : Nat → Nat} {k v j : Nat} (h : j < k) : va_up f k v j = f j := va_up_ne f v (by omega)
/-- an answer's bits, put together -/
theorem an_turn {ol : Nat → Nat} {F : Nat → Bool} {i b : Nat} (hi : i < 16) (hb : b < 2) (hF : (b = 1) = (F (ol i) = true)) : nI (ci_a ol F i) ||| (nI b <<< (nI i &&& 31)) = nI (ci_a ol F (i + 1)) := by
  have hlt := ci_a_lt ol F i
  have hp : 2 ^ i ≤ 2 ^ 15 := Nat.pow_le_pow_right (by decide) (by omega)
  have hs : ((nI i &&& 31).toBitVec.smod 32).toNat = i := (by decide +kernel : ∀ n, n < 32 → ((nI n &&& 31).toBitVec.smod 32).toNat = n) i (by omega)
  have hm : b * 2 ^ i ≤ 1 * 2 ^ i := Nat.mul_le_mul_right _ (by omega)
  rw [pk_shlN (nI i &&& 31) i hs (by omega)]
  have ho : nI (ci_a ol F i) ||| nI (b * 2 ^ i) = nI (ci_a ol F i ||| b * 2 ^ i) := by
    apply Int32.toBitVec_inj.1
    show BitVec.ofNat 32 _ ||| BitVec.ofNat 32 _ = BitVec.ofNat 32 _
    apply BitVec.eq_of_getLsbD_eq
    intro j hj
    simp [hj]
  rw [ho]
  congr 1
  show _ = ci_a ol F i + (if F (ol i) = true then 2 ^ i else 0)
  have hor : ci_a ol F i ||| b * 2 ^ i = ci_a ol F i + b * 2 ^ i := by
    rw [Nat.or_comm, ← Nat.shiftLeft_eq, ← Nat.shiftLeft_add_eq_or_of_lt hlt, Nat.shiftLeft_eq, Nat.add_comm]
  rw [hor]
  have hb2 : b = 0 ∨ b = 1 := by omega
  rcases hb2 with e | e
  · subst e
    have : ¬ F (ol i) = true := fun z => by rw [← hF] at z; omega
    rw [if_neg this]
    omega
  · subst e
    have : F (ol i) = true := by rw [← hF]
    rw [if_pos this]
    omega
end
section
/-! a step of a session, for all faults at once: the rows' differences and which faults were seen -/
def aa_I (ol : Nat → Nat) (F : Nat → Nat → Bool) (N : Nat → Bool) (DF : Nat → Nat) (sn i : Nat) (r : Nat → Nat) (s : Nat) : Prop :=
  dr r (fun f => DF f ^^^ (ci_a ol (F f) i ^^^ ci_a ol N i)) ∧ s < 2 ^ 64 ∧ ∀ f, f < 64 → (s.testBit f = true ↔ sn.testBit f = true ∨ ∃ j, j < i ∧ (F f (ol j) ^^ N (ol j)) = true)
theorem aa_0 {ol : Nat → Nat} {F : Nat → Nat → Bool} {N : Nat → Bool} {DF : Nat → Nat} {sn : Nat} {r : Nat → Nat} (h : dr r DF) (hs : sn < 2 ^ 64) : aa_I ol F N DF sn 0 r sn := by
  refine ⟨dr_congr h (fun f _ => ?_), hs, fun f _ => ⟨Or.inl, fun z => ?_⟩⟩
  · show DF f ^^^ (0 ^^^ 0) = DF f
    simp
  · rcases z with z | ⟨j, hj, _⟩
    · exact z
    · omega
theorem aa_turn {ol : Nat → Nat} {F : Nat → Nat → Bool} {N : Nat → Bool} {DF : Nat → Nat} {sn i s w : Nat} {r r' : Nat → Nat} (h : aa_I ol F N DF sn i r s) (hi : i < 33) (hw : w < 2 ^ 64) (hb : ∀ f, f < 64 → w.testBit f = (F f (ol i) ^^ N (ol i))) (h1 : r' i = r i ^^^ w) (h2 : ∀ k, k < 33 → k ≠ i → r' k = r k) : aa_I ol F N DF sn (i + 1) r' (s ||| w) := by
  obtain ⟨hd, hs, hf⟩ := h
  refine ⟨dr_congr (dr_add hd hi hw h1 h2) (fun f hf => ?_), Nat.or_lt_two_pow hs hw, fun f hf2 => ?_⟩
  · show DF f ^^^ (ci_a ol (F f) (i + 1) ^^^ ci_a ol N (i + 1)) = if w.testBit f = true then DF f ^^^ (ci_a ol (F f) i ^^^ ci_a ol N i) ^^^ 2 ^ i else DF f ^^^ (ci_a ol (F f) i ^^^ ci_a ol N i)
    rw [ci_a_x, hb f hf]
    split
    · ac_rfl
    · rfl
  · rw [Nat.testBit_or, Bool.or_eq_true, hf f hf2, hb f hf2]
    constructor
    · rintro ((z | ⟨j, hj, z⟩) | z)
      · exact Or.inl z
      · exact Or.inr ⟨j, by omega, z⟩
      · exact Or.inr ⟨i, by omega, z⟩
    · rintro (z | ⟨j, hj, z⟩)
      · exact Or.inl (Or.inl z)
      · by_cases e : j = i
        · subst e; exact Or.inr z
        · exact Or.inl (Or.inr ⟨j, by omega, z⟩)
theorem aa_end {ol : Nat → Nat} {F : Nat → Nat → Bool} {N : Nat → Bool} {DF : Nat → Nat} {sn i s : Nat} {r : Nat → Nat} (h : aa_I ol F N DF sn i r s) : dr r (fun f => DF f ^^^ (ci_a ol (F f) i ^^^ ci_a ol N i)) ∧ s < 2 ^ 64 ∧ ∀ f, f < 64 → (s.testBit f = true ↔ sn.testBit f = true ∨ ci_a ol (F f) i ≠ ci_a ol N i) :=
  ⟨h.1, h.2.1, fun f hf => by rw [h.2.2 f hf, ci_a_ne]⟩
theorem aa_w {v a i : Nat} {ol : Nat → Nat} {N : Nat → Bool} {oc f : Nat} {b : Bool} (hf : f < 64) (hb : v.testBit f = b) (hi : i < oc) (ha : a = ci_a ol N oc) : (v ^^^ ci_p ((a / 2 ^ i).testBit 0)).testBit f = (b ^^ N (ol i)) := by
  rw [Nat.testBit_xor, hb, ci_p_bit _ hf, sh_bit, ha, ci_a_bit]
  simp [hi]
end
section
/-! methods that throw: what they take, and that nothing old is changed -/
def xw_l : List Cond := [.declares ⟨"java/lang/RuntimeException", "<init>", "(Ljava/lang/String;)V"⟩, .declares ⟨"java/lang/Exception", "<init>", "(Ljava/lang/String;)V"⟩, .declares ⟨"java/lang/Throwable", "<init>", "(Ljava/lang/String;)V"⟩, .castable "java/lang/IllegalArgumentException" "java/lang/IllegalArgumentException", .castable "java/lang/IllegalStateException" "java/lang/IllegalStateException", .castable "java/lang/IndexOutOfBoundsException" "java/lang/IndexOutOfBoundsException"]
def xw_w (w : Cond) : Bool := match w with
  | .declares .. => true
  | .castable .. => true
  | _ => false
theorem xw_warm {w : Cond} (h : xw_w w = true) {s U : State} (hW : s.WarmedH U.vm) (hZ : va_Nw w s) : va_Nw w U := by
  cases w <;> first | exact va_Nw.warmD hW hZ | exact va_Nw.warmC hW hZ | cases h
theorem xw_on {w : Cond} (h : xw_w w = true) : w.onTables = true := by
  cases w <;> first | rfl | cases h
theorem xw_all : ∀ w ∈ xw_l, xw_w w = true := by decide +kernel
def xs_l : List (Nat × String) := [(44, "the degree is not 1 .. 32, or bit 0 is not set"), (177, "no residue"), (179, "below 0"), (102, "there are 8 channels"), (108, "the kind is not 0 .. 5"), (186, "there is no such line"), (116, "there are 24 gates"), (125, "there are 16 outputs"), (188, "there is no such fault"), (181, "m is not 0 .. 256"), (146, "what is not 0 .. 3")]
theorem xs_44 : ((44, "the degree is not 1 .. 32, or bit 0 is not set") : Nat × String) ∈ xs_l := List.mem_of_getElem? (i := 0) rfl
theorem xs_177 : ((177, "no residue") : Nat × String) ∈ xs_l := List.mem_of_getElem? (i := 1) rfl
theorem xs_179 : ((179, "below 0") : Nat × String) ∈ xs_l := List.mem_of_getElem? (i := 2) rfl
theorem xs_102 : ((102, "there are 8 channels") : Nat × String) ∈ xs_l := List.mem_of_getElem? (i := 3) rfl
theorem xs_108 : ((108, "the kind is not 0 .. 5") : Nat × String) ∈ xs_l := List.mem_of_getElem? (i := 4) rfl
theorem xs_186 : ((186, "there is no such line") : Nat × String) ∈ xs_l := List.mem_of_getElem? (i := 5) rfl
theorem xs_116 : ((116, "there are 24 gates") : Nat × String) ∈ xs_l := List.mem_of_getElem? (i := 6) rfl
theorem xs_125 : ((125, "there are 16 outputs") : Nat × String) ∈ xs_l := List.mem_of_getElem? (i := 7) rfl
theorem xs_188 : ((188, "there is no such fault") : Nat × String) ∈ xs_l := List.mem_of_getElem? (i := 8) rfl
theorem xs_181 : ((181, "m is not 0 .. 256") : Nat × String) ∈ xs_l := List.mem_of_getElem? (i := 9) rfl
theorem xs_146 : ((146, "what is not 0 .. 3") : Nat × String) ∈ xs_l := List.mem_of_getElem? (i := 10) rfl
def xe_ok (U : State) : Prop := (∀ w ∈ xw_l, va_Nw w U) ∧ ∀ q ∈ xs_l, ∃ sa, vk_R "ShiftSignatures" q.1 q.2 sa U
theorem xe_ok.warm {s U : State} (h : xe_ok s) (hW : s.WarmedH U.vm) : xe_ok U := ⟨fun w hw => xw_warm (xw_all w hw) hW (h.1 w hw), fun q hq => by
  obtain ⟨sa, hs⟩ := h.2 q hq
  exact ⟨sa, hs.warm hW⟩⟩
theorem xe_ok.same {s U : State} (h : xe_ok s) (e : s.vm = U.vm) : xe_ok U := ⟨fun w hw => va_Nw.same (xw_on (xw_all w hw)) e (h.1 w hw), fun q hq => by
  obtain ⟨sa, hs⟩ := h.2 q hq
  exact ⟨sa, hs.same e.symm⟩⟩
def xz (sz : Nat) (U : State) (H : Heap) : Prop := vx_Zq Bundle.tN "UNASSIGNED_STACK" Bundle.steD (fun q => sz ≤ q) U H ∧ vx_Zq Bundle.tN "SUPPRESSED_SENTINEL" Bundle.listD (fun q => sz ≤ q) U H
theorem xz.moved {sz : Nat} {u U : State} {H : Heap} (hvm : u.vm.Alike U.vm) (h : xz sz u H) : xz sz U H := ⟨h.1.moved hvm, h.2.moved hvm⟩
theorem xz.narrow {sz sz' : Nat} {U : State} {H : Heap} (h : xz sz U H) (hs : sz ≤ sz') : xz sz' U H := ⟨h.1.narrow (fun _ z => Nat.le_trans hs z), h.2.narrow (fun _ z => Nat.le_trans hs z)⟩
theorem xz.kept {sz : Nat} {U : State} {H H1 : Heap} (h : xz sz U H) (hq : ∀ a : Nat, a < H.size → ¬ sz ≤ a → H1[a]? = H[a]?) : xz sz U H1 := ⟨h.1.kept hq, h.2.kept hq⟩
def wq_X (D : va_G) (cl : List vw_C) (ws : va_W) (tys : List (ClassId × FieldType)) (sz : Nat) (U : State) : Prop := U.heap.size = sz ∧ wq_R D cl ws tys U ∧ xe_ok U ∧ xz sz U U.heap
theorem wq_blX {D : va_G} {cl : List vw_C} {ws : va_W} {tys : List (ClassId × FieldType)} {sz : Nat} {av : List Value} : FrameBlind (va_Pc av (wq_X D cl ws tys sz)) := fun a U g mk q => by
  obtain ⟨q0, q1, ⟨qP, qK, qN⟩, qE, qZ⟩ := q
  exact ⟨q0, q1, ⟨qP, va_K.moved (u := U) (U := U.calling g mk a) (Vm.Alike.refl U.vm) qK, qN.same (U := U.calling g mk a) rfl⟩, qE.same (U := U.calling g mk a) rfl, qZ.moved (u := U) (U := U.calling g mk a) (Vm.Alike.refl U.vm)⟩
theorem wq_preVX {s : State} {H : Heap} {D : va_G} {cl : List vw_C} {ws wc : va_W} {tys : List (ClassId × FieldType)} {C : String} {b : Nat} {As : List Value} (hP : va_P D cl ws H) (hK : va_K D cl tys s) (hN : nw_ok s) (hE : xe_ok s) (hZ : xz H.size s H) (is : List Nat) (hC : is.map (fun i => ws[i]?) = wc.map some) {q0 ci : Nat} {q : vw_C} {fs : List Value} (hc : cl[ci]? = some q) (he : ws[q0]? = some (b, .inr (ci, fs))) (hn : q.1 = C) : PreV s H C b (va_Pc (.ref b :: As) (wq_X D cl wc tys H.size)) As :=
  ⟨wq_blX, by subst hn; exact va_recv hK hP hc he, fun U hU hW => ⟨rfl, by rw [hU], ⟨by rw [hU]; exact hP.sub is (wq_fm hC), va_K.moved hW.alike hK, hN.warm hW⟩, hE.warm hW, by rw [hU]; exact hZ.moved hW.alike⟩⟩
/-- what is thrown, and that what was there is as it was -/
def xq (X : String) (sz : Nat) : String → State → State → Prop := vx_X (fun _ : Unit => True) (fun E _ _ => E = X) (fun q => sz ≤ q)
def xq_v (sz : Nat) : Array Value → State → Outcome → State → Prop := va_Qv (fun _ : Unit => False) (fun _ _ => True) (fun q => sz ≤ q)
def xq_i (sz : Nat) : Array Value → State → Outcome → State → Prop := va_Qi (fun _ (_ : Unit) => False) (fun _ _ => True) (fun q => sz ≤ q)
def xq_l (sz : Nat) : Array Value → State → Outcome → State → Prop := va_Ql (fun _ (_ : Unit) => False) (fun _ _ => True) (fun q => sz ≤ q)
theorem xt_IA_g : ∀ w ∈ (vx_atS "ShiftSignatures" 46 "java/lang/IllegalArgumentException" ["java/lang/RuntimeException", "java/lang/Exception"]).filter goodWord, w ∈ gw := by decide +kernel
theorem xt_IA_n : ∀ w ∈ (vx_atS "ShiftSignatures" 46 "java/lang/IllegalArgumentException" ["java/lang/RuntimeException", "java/lang/Exception"]).filter (fun w => !goodWord w), w ∈ xw_l := by decide +kernel
theorem xt_IA_o : ∀ w ∈ Cond.classLink "ShiftSignatures" 42 "java/lang/IllegalArgumentException" :: Cond.initialized "java/lang/IllegalArgumentException" :: (vx_atS "ShiftSignatures" 46 "java/lang/IllegalArgumentException" ["java/lang/RuntimeException", "java/lang/Exception"]), vx_ot w = true := by decide +kernel
theorem xt_IA {args : Array Value} {s : State} (hts : ∀ w ∈ gw, w.before args s = true) (hE : xe_ok s) : ∀ w ∈ (vx_atS "ShiftSignatures" 46 "java/lang/IllegalArgumentException" ["java/lang/RuntimeException", "java/lang/Exception"]), w.before args s = true := vx_hat (fun w h => hts w (xt_IA_g w h)) (B := xw_l) xt_IA_n (fun w h => va_Nw.use (xw_on (xw_all w h)) (hE.1 w h))
theorem xt_IA_k : Cond.classLink "ShiftSignatures" 42 "java/lang/IllegalArgumentException" ∈ gw := by decide +kernel
theorem xt_IA_i : Cond.initialized "java/lang/IllegalArgumentException" ∈ gw := by decide +kernel
theorem xt_IS_g : ∀ w ∈ (vx_atS "ShiftSignatures" 104 "java/lang/IllegalStateException" ["java/lang/RuntimeException", "java/lang/Exception"]).filter goodWord, w ∈ gw := by decide +kernel
theorem xt_IS_n : ∀ w ∈ (vx_atS "ShiftSignatures" 104 "java/lang/IllegalStateException" ["java/lang/RuntimeException", "java/lang/Exception"]).filter (fun w => !goodWord w), w ∈ xw_l := by decide +kernel
theorem xt_IS_o : ∀ w ∈ Cond.classLink "ShiftSignatures" 100 "java/lang/IllegalStateException" :: Cond.initialized "java/lang/IllegalStateException" :: (vx_atS "ShiftSignatures" 104 "java/lang/IllegalStateException" ["java/lang/RuntimeException", "java/lang/Exception"]), vx_ot w = true := by decide +kernel
theorem xt_IS {args : Array Value} {s : State} (hts : ∀ w ∈ gw, w.before args s = true) (hE : xe_ok s) : ∀ w ∈ (vx_atS "ShiftSignatures" 104 "java/lang/IllegalStateException" ["java/lang/RuntimeException", "java/lang/Exception"]), w.before args s = true := vx_hat (fun w h => hts w (xt_IS_g w h)) (B := xw_l) xt_IS_n (fun w h => va_Nw.use (xw_on (xw_all w h)) (hE.1 w h))
theorem xt_IS_k : Cond.classLink "ShiftSignatures" 100 "java/lang/IllegalStateException" ∈ gw := by decide +kernel
theorem xt_IS_i : Cond.initialized "java/lang/IllegalStateException" ∈ gw := by decide +kernel
theorem xt_IO_g : ∀ w ∈ (vx_atS "ShiftSignatures" 148 "java/lang/IndexOutOfBoundsException" ["java/lang/RuntimeException", "java/lang/Exception"]).filter goodWord, w ∈ gw := by decide +kernel
theorem xt_IO_n : ∀ w ∈ (vx_atS "ShiftSignatures" 148 "java/lang/IndexOutOfBoundsException" ["java/lang/RuntimeException", "java/lang/Exception"]).filter (fun w => !goodWord w), w ∈ xw_l := by decide +kernel
theorem xt_IO_o : ∀ w ∈ Cond.classLink "ShiftSignatures" 144 "java/lang/IndexOutOfBoundsException" :: Cond.initialized "java/lang/IndexOutOfBoundsException" :: (vx_atS "ShiftSignatures" 148 "java/lang/IndexOutOfBoundsException" ["java/lang/RuntimeException", "java/lang/Exception"]), vx_ot w = true := by decide +kernel
theorem xt_IO {args : Array Value} {s : State} (hts : ∀ w ∈ gw, w.before args s = true) (hE : xe_ok s) : ∀ w ∈ (vx_atS "ShiftSignatures" 148 "java/lang/IndexOutOfBoundsException" ["java/lang/RuntimeException", "java/lang/Exception"]), w.before args s = true := vx_hat (fun w h => hts w (xt_IO_g w h)) (B := xw_l) xt_IO_n (fun w h => va_Nw.use (xw_on (xw_all w h)) (hE.1 w h))
theorem xt_IO_k : Cond.classLink "ShiftSignatures" 144 "java/lang/IndexOutOfBoundsException" ∈ gw := by decide +kernel
theorem xt_IO_i : Cond.initialized "java/lang/IndexOutOfBoundsException" ∈ gw := by decide +kernel
section XQ
variable {p : Program} {l : Launch} {e : Env} {R : Room} {s : State} {m : MethodId} {args : Array Value} {below : List Frame} {meth : Method} {c : Code} {cells slots mc ms MC MS pc : Nat}
variable {ls : Array Slot} {rest st0 : List Value} {a : Array Value} {X : String} {Qc : Array Value → State → Outcome → State → Prop}
theorem xq_hx {X : String} : ∀ t : State, s.vm.Alike t.vm → s.heap.size ≤ t.heap.size → (∀ q : Nat, q < s.heap.size → t.heap[q]? = s.heap[q]?) → xq X s.heap.size X s t := fun t _ h1 h2 => ⟨(), trivial, rfl, h1, fun q hq _ => h2 q hq⟩
theorem xq_go {E : String} {ce : Cell} {q9 : Addr} {H1 : Heap} {locs1 : List Loc} (hex : ∀ x ∈ c.exceptionTable.toList, False) (hlocks : meth.locks = false) (hE : E = X) (hz : s.heap.size ≤ H1.size) (hk : ∀ q : Nat, q < s.heap.size → ¬ s.heap.size ≤ q → H1[q]? = s.heap[q]?) (hS : va_S (fun q => s.heap.size ≤ q) s.heap H1 locs1) (h1 : H1[q9]? = some ce) (h2 : ce.vm = .none) (h3 : s.vm.findClass E = some ce.cls) (hc : cells ≤ MC) (hs : slots ≤ MS) :
    vx_W p l e R s m args below meth c H1 locs1 cells slots (vx_MQ below Qc (xq X s.heap.size) args s MC MS (fun q => s.heap.size ≤ q)) (F0 m pc ls rest) q9 :=
  vx_out (fun x hx => (hex x hx).elim) hlocks h1 h2 h3 (fun t ht _ => ⟨(), trivial, hE, by rw [ht]; exact hz, fun q hq hn => by rw [ht]; exact hk q hq hn⟩) hS.2.2 hc hs
theorem xq_cv (hr : vx_Run p l e R s m args below meth c s.heap [] cells slots mc ms (F0 m pc ls st0) rest (xq_v s.heap.size a) (xq X s.heap.size) (fun q => s.heap.size ≤ q)) (hex : ∀ x ∈ c.exceptionTable.toList, False) (hlocks : meth.locks = false) (hc : cells + mc ≤ MC) (hs : slots + ms ≤ MS) :
    W p l e R s m args below meth c s.heap [] cells slots (vx_MQ below Qc (xq X s.heap.size) args s MC MS (fun q => s.heap.size ≤ q)) (F0 m pc ls st0) :=
  vx_callv hr (va_S.rf (A := fun q => s.heap.size ≤ q)) (fun _ _ h => h) (fun _ h => h) (fun _ _ h => h) (fun E ce q9 u t H1 locs1 _ _ _ hE hz hk hS h1 h2 h3 => xq_go hex hlocks hE hz hk hS h1 h2 h3 hc hs) (fun _ _ _ _ _ _ hp => hp.elim)
end XQ
end
