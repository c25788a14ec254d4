section
-- ===== PART A: goes FIRST, ahead of the names: the tables' words, and 'selects' of the private methods out of them =====
/-- a private method of a class that the tables say can be made, by its rows of tables_1 -/
def lw_okq (q : MethodName × Nat) : Prop := (q.1.cls ≠ "java/lang/invoke/MethodHandle" ∧ q.1.cls ≠ "java/lang/invoke/VarHandle") ∧ Cond.instantiable q.1.cls q.2 ∈ tables_1 ∧ Cond.privateMethod q.1 ∈ tables_1 ∧ Cond.instanceMethod q.1 ∈ tables_1
theorem lw_p0 : lw_okq (⟨"ShiftSignatures$Modulus", "reduced", "(J)J"⟩, 3) := ⟨⟨by decide +kernel, by decide +kernel⟩, List.mem_of_getElem? (i := 23) (by decide +kernel), List.mem_of_getElem? (i := 115) (by decide +kernel), List.mem_of_getElem? (i := 116) (by decide +kernel)⟩
theorem lw_p1 : lw_okq (⟨"ShiftSignatures$Modulus", "isIrreducible", "()Z"⟩, 3) := ⟨⟨by decide +kernel, by decide +kernel⟩, List.mem_of_getElem? (i := 23) (by decide +kernel), List.mem_of_getElem? (i := 136) (by decide +kernel), List.mem_of_getElem? (i := 137) (by decide +kernel)⟩
theorem lw_p2 : lw_okq (⟨"ShiftSignatures$Modulus", "product", "(JJ)J"⟩, 3) := ⟨⟨by decide +kernel, by decide +kernel⟩, List.mem_of_getElem? (i := 23) (by decide +kernel), List.mem_of_getElem? (i := 140) (by decide +kernel), List.mem_of_getElem? (i := 141) (by decide +kernel)⟩
theorem lw_p3 : lw_okq (⟨"ShiftSignatures$Modulus", "stepped", "(J)J"⟩, 3) := ⟨⟨by decide +kernel, by decide +kernel⟩, List.mem_of_getElem? (i := 23) (by decide +kernel), List.mem_of_getElem? (i := 144) (by decide +kernel), List.mem_of_getElem? (i := 145) (by decide +kernel)⟩
theorem lw_p4 : lw_okq (⟨"ShiftSignatures$Modulus", "isPrimitive", "()Z"⟩, 3) := ⟨⟨by decide +kernel, by decide +kernel⟩, List.mem_of_getElem? (i := 23) (by decide +kernel), List.mem_of_getElem? (i := 155) (by decide +kernel), List.mem_of_getElem? (i := 156) (by decide +kernel)⟩
theorem lw_p5 : lw_okq (⟨"ShiftSignatures$Modulus", "raised", "(JJ)J"⟩, 3) := ⟨⟨by decide +kernel, by decide +kernel⟩, List.mem_of_getElem? (i := 23) (by decide +kernel), List.mem_of_getElem? (i := 159) (by decide +kernel), List.mem_of_getElem? (i := 160) (by decide +kernel)⟩
theorem lw_p6 : lw_okq (⟨"ShiftSignatures$Modulus", "orderWithin", "(J)J"⟩, 3) := ⟨⟨by decide +kernel, by decide +kernel⟩, List.mem_of_getElem? (i := 23) (by decide +kernel), List.mem_of_getElem? (i := 163) (by decide +kernel), List.mem_of_getElem? (i := 164) (by decide +kernel)⟩
theorem lw_p7 : lw_okq (⟨"ShiftSignatures$Modulus", "withoutNeedless", "(JJ)J"⟩, 3) := ⟨⟨by decide +kernel, by decide +kernel⟩, List.mem_of_getElem? (i := 23) (by decide +kernel), List.mem_of_getElem? (i := 169) (by decide +kernel), List.mem_of_getElem? (i := 170) (by decide +kernel)⟩
theorem lw_p8 : lw_okq (⟨"ShiftSignatures$Modulus", "multipleOfOrder", "()J"⟩, 3) := ⟨⟨by decide +kernel, by decide +kernel⟩, List.mem_of_getElem? (i := 23) (by decide +kernel), List.mem_of_getElem? (i := 178) (by decide +kernel), List.mem_of_getElem? (i := 179) (by decide +kernel)⟩
theorem lw_p9 : lw_okq (⟨"ShiftSignatures", "patternOf", "(J)I"⟩, 5) := ⟨⟨by decide +kernel, by decide +kernel⟩, List.mem_of_getElem? (i := 15) (by decide +kernel), List.mem_of_getElem? (i := 194) (by decide +kernel), List.mem_of_getElem? (i := 195) (by decide +kernel)⟩
theorem lw_p10 : lw_okq (⟨"java/lang/Throwable", "fillInStackTrace", "(I)Ljava/lang/Throwable;"⟩, 6) := ⟨⟨by decide +kernel, by decide +kernel⟩, List.mem_of_getElem? (i := 251) (by decide +kernel), List.mem_of_getElem? (i := 249) (by decide +kernel), List.mem_of_getElem? (i := 250) (by decide +kernel)⟩
theorem lw_p11 : lw_okq (⟨"ShiftSignatures$Modulus", "become", "(J)V"⟩, 3) := ⟨⟨by decide +kernel, by decide +kernel⟩, List.mem_of_getElem? (i := 23) (by decide +kernel), List.mem_of_getElem? (i := 281) (by decide +kernel), List.mem_of_getElem? (i := 282) (by decide +kernel)⟩
theorem lw_p12 : lw_okq (⟨"ShiftSignatures$Circuit", "restart", "(I)V"⟩, 8) := ⟨⟨by decide +kernel, by decide +kernel⟩, List.mem_of_getElem? (i := 44) (by decide +kernel), List.mem_of_getElem? (i := 287) (by decide +kernel), List.mem_of_getElem? (i := 288) (by decide +kernel)⟩
theorem lw_p13 : lw_okq (⟨"ShiftSignatures", "requireResidue", "(J)V"⟩, 5) := ⟨⟨by decide +kernel, by decide +kernel⟩, List.mem_of_getElem? (i := 15) (by decide +kernel), List.mem_of_getElem? (i := 298) (by decide +kernel), List.mem_of_getElem? (i := 299) (by decide +kernel)⟩
theorem lw_p14 : lw_okq (⟨"ShiftSignatures$Modulus", "hasResidue", "(J)Z"⟩, 3) := ⟨⟨by decide +kernel, by decide +kernel⟩, List.mem_of_getElem? (i := 23) (by decide +kernel), List.mem_of_getElem? (i := 302) (by decide +kernel), List.mem_of_getElem? (i := 303) (by decide +kernel)⟩
theorem lw_p15 : lw_okq (⟨"ShiftSignatures", "requireNotNegative", "(J)V"⟩, 5) := ⟨⟨by decide +kernel, by decide +kernel⟩, List.mem_of_getElem? (i := 15) (by decide +kernel), List.mem_of_getElem? (i := 315) (by decide +kernel), List.mem_of_getElem? (i := 316) (by decide +kernel)⟩
def lw_privs_1 : List (MethodName × Nat) := [(⟨"ShiftSignatures$Modulus", "reduced", "(J)J"⟩, 3), (⟨"ShiftSignatures$Modulus", "isIrreducible", "()Z"⟩, 3), (⟨"ShiftSignatures$Modulus", "product", "(JJ)J"⟩, 3), (⟨"ShiftSignatures$Modulus", "stepped", "(J)J"⟩, 3), (⟨"ShiftSignatures$Modulus", "isPrimitive", "()Z"⟩, 3), (⟨"ShiftSignatures$Modulus", "raised", "(JJ)J"⟩, 3), (⟨"ShiftSignatures$Modulus", "orderWithin", "(J)J"⟩, 3), (⟨"ShiftSignatures$Modulus", "withoutNeedless", "(JJ)J"⟩, 3), (⟨"ShiftSignatures$Modulus", "multipleOfOrder", "()J"⟩, 3), (⟨"ShiftSignatures", "patternOf", "(J)I"⟩, 5), (⟨"java/lang/Throwable", "fillInStackTrace", "(I)Ljava/lang/Throwable;"⟩, 6), (⟨"ShiftSignatures$Modulus", "become", "(J)V"⟩, 3), (⟨"ShiftSignatures$Circuit", "restart", "(I)V"⟩, 8), (⟨"ShiftSignatures", "requireResidue", "(J)V"⟩, 5), (⟨"ShiftSignatures$Modulus", "hasResidue", "(J)Z"⟩, 3), (⟨"ShiftSignatures", "requireNotNegative", "(J)V"⟩, 5)]
theorem lw_r1 : ∀ q ∈ lw_privs_1, lw_okq q := List.forall_mem_cons.mpr ⟨lw_p0, List.forall_mem_cons.mpr ⟨lw_p1, List.forall_mem_cons.mpr ⟨lw_p2, List.forall_mem_cons.mpr ⟨lw_p3, List.forall_mem_cons.mpr ⟨lw_p4, List.forall_mem_cons.mpr ⟨lw_p5, List.forall_mem_cons.mpr ⟨lw_p6, List.forall_mem_cons.mpr ⟨lw_p7, List.forall_mem_cons.mpr ⟨lw_p8, List.forall_mem_cons.mpr ⟨lw_p9, List.forall_mem_cons.mpr ⟨lw_p10, List.forall_mem_cons.mpr ⟨lw_p11, List.forall_mem_cons.mpr ⟨lw_p12, List.forall_mem_cons.mpr ⟨lw_p13, List.forall_mem_cons.mpr ⟨lw_p14, List.forall_mem_cons.mpr ⟨lw_p15, fun _ h => absurd h List.not_mem_nil⟩⟩⟩⟩⟩⟩⟩⟩⟩⟩⟩⟩⟩⟩⟩⟩
theorem lw_p16 : lw_okq (⟨"ShiftSignatures", "requireLine", "(I)V"⟩, 5) := ⟨⟨by decide +kernel, by decide +kernel⟩, List.mem_of_getElem? (i := 15) (by decide +kernel), List.mem_of_getElem? (i := 368) (by decide +kernel), List.mem_of_getElem? (i := 369) (by decide +kernel)⟩
theorem lw_p17 : lw_okq (⟨"ShiftSignatures$Circuit", "countLines", "()I"⟩, 8) := ⟨⟨by decide +kernel, by decide +kernel⟩, List.mem_of_getElem? (i := 44) (by decide +kernel), List.mem_of_getElem? (i := 372) (by decide +kernel), List.mem_of_getElem? (i := 373) (by decide +kernel)⟩
theorem lw_p18 : lw_okq (⟨"ShiftSignatures$Circuit", "addGate", "(III)I"⟩, 8) := ⟨⟨by decide +kernel, by decide +kernel⟩, List.mem_of_getElem? (i := 44) (by decide +kernel), List.mem_of_getElem? (i := 393) (by decide +kernel), List.mem_of_getElem? (i := 394) (by decide +kernel)⟩
theorem lw_p19 : lw_okq (⟨"ShiftSignatures$Circuit", "addOutput", "(I)I"⟩, 8) := ⟨⟨by decide +kernel, by decide +kernel⟩, List.mem_of_getElem? (i := 44) (by decide +kernel), List.mem_of_getElem? (i := 406) (by decide +kernel), List.mem_of_getElem? (i := 407) (by decide +kernel)⟩
theorem lw_p20 : lw_okq (⟨"ShiftSignatures", "requireFaultOrNone", "(I)V"⟩, 5) := ⟨⟨by decide +kernel, by decide +kernel⟩, List.mem_of_getElem? (i := 15) (by decide +kernel), List.mem_of_getElem? (i := 417) (by decide +kernel), List.mem_of_getElem? (i := 418) (by decide +kernel)⟩
theorem lw_p21 : lw_okq (⟨"ShiftSignatures", "requireFault", "(I)V"⟩, 5) := ⟨⟨by decide +kernel, by decide +kernel⟩, List.mem_of_getElem? (i := 15) (by decide +kernel), List.mem_of_getElem? (i := 421) (by decide +kernel), List.mem_of_getElem? (i := 422) (by decide +kernel)⟩
theorem lw_p22 : lw_okq (⟨"ShiftSignatures$Circuit", "countFaults", "()I"⟩, 8) := ⟨⟨by decide +kernel, by decide +kernel⟩, List.mem_of_getElem? (i := 44) (by decide +kernel), List.mem_of_getElem? (i := 425) (by decide +kernel), List.mem_of_getElem? (i := 426) (by decide +kernel)⟩
theorem lw_p23 : lw_okq (⟨"ShiftSignatures$Circuit", "answerTo", "(II)I"⟩, 8) := ⟨⟨by decide +kernel, by decide +kernel⟩, List.mem_of_getElem? (i := 44) (by decide +kernel), List.mem_of_getElem? (i := 430) (by decide +kernel), List.mem_of_getElem? (i := 431) (by decide +kernel)⟩
theorem lw_p24 : lw_okq (⟨"ShiftSignatures$Circuit", "settle", "(IZ)V"⟩, 8) := ⟨⟨by decide +kernel, by decide +kernel⟩, List.mem_of_getElem? (i := 44) (by decide +kernel), List.mem_of_getElem? (i := 434) (by decide +kernel), List.mem_of_getElem? (i := 435) (by decide +kernel)⟩
theorem lw_p25 : lw_okq (⟨"ShiftSignatures$Circuit", "valuesOfGate", "(I)J"⟩, 8) := ⟨⟨by decide +kernel, by decide +kernel⟩, List.mem_of_getElem? (i := 44) (by decide +kernel), List.mem_of_getElem? (i := 441) (by decide +kernel), List.mem_of_getElem? (i := 442) (by decide +kernel)⟩
theorem lw_p26 : lw_okq (⟨"ShiftSignatures$Circuit", "valuesOfOutput", "(I)J"⟩, 8) := ⟨⟨by decide +kernel, by decide +kernel⟩, List.mem_of_getElem? (i := 44) (by decide +kernel), List.mem_of_getElem? (i := 449) (by decide +kernel), List.mem_of_getElem? (i := 450) (by decide +kernel)⟩
theorem lw_p27 : lw_okq (⟨"ShiftSignatures", "requirePatterns", "(I)V"⟩, 5) := ⟨⟨by decide +kernel, by decide +kernel⟩, List.mem_of_getElem? (i := 15) (by decide +kernel), List.mem_of_getElem? (i := 460) (by decide +kernel), List.mem_of_getElem? (i := 461) (by decide +kernel)⟩
theorem lw_p28 : lw_okq (⟨"ShiftSignatures", "compareAllFaults", "(I)V"⟩, 5) := ⟨⟨by decide +kernel, by decide +kernel⟩, List.mem_of_getElem? (i := 15) (by decide +kernel), List.mem_of_getElem? (i := 474) (by decide +kernel), List.mem_of_getElem? (i := 475) (by decide +kernel)⟩
theorem lw_p29 : lw_okq (⟨"ShiftSignatures$Differences", "clear", "()V"⟩, 2) := ⟨⟨by decide +kernel, by decide +kernel⟩, List.mem_of_getElem? (i := 81) (by decide +kernel), List.mem_of_getElem? (i := 478) (by decide +kernel), List.mem_of_getElem? (i := 479) (by decide +kernel)⟩
theorem lw_p30 : lw_okq (⟨"ShiftSignatures$Differences", "timesX", "()V"⟩, 2) := ⟨⟨by decide +kernel, by decide +kernel⟩, List.mem_of_getElem? (i := 81) (by decide +kernel), List.mem_of_getElem? (i := 482) (by decide +kernel), List.mem_of_getElem? (i := 483) (by decide +kernel)⟩
theorem lw_p31 : lw_okq (⟨"ShiftSignatures$Differences", "addAnswers", "(LShiftSignatures$Circuit;I)V"⟩, 2) := ⟨⟨by decide +kernel, by decide +kernel⟩, List.mem_of_getElem? (i := 81) (by decide +kernel), List.mem_of_getElem? (i := 486) (by decide +kernel), List.mem_of_getElem? (i := 487) (by decide +kernel)⟩
def lw_privs_2 : List (MethodName × Nat) := [(⟨"ShiftSignatures", "requireLine", "(I)V"⟩, 5), (⟨"ShiftSignatures$Circuit", "countLines", "()I"⟩, 8), (⟨"ShiftSignatures$Circuit", "addGate", "(III)I"⟩, 8), (⟨"ShiftSignatures$Circuit", "addOutput", "(I)I"⟩, 8), (⟨"ShiftSignatures", "requireFaultOrNone", "(I)V"⟩, 5), (⟨"ShiftSignatures", "requireFault", "(I)V"⟩, 5), (⟨"ShiftSignatures$Circuit", "countFaults", "()I"⟩, 8), (⟨"ShiftSignatures$Circuit", "answerTo", "(II)I"⟩, 8), (⟨"ShiftSignatures$Circuit", "settle", "(IZ)V"⟩, 8), (⟨"ShiftSignatures$Circuit", "valuesOfGate", "(I)J"⟩, 8), (⟨"ShiftSignatures$Circuit", "valuesOfOutput", "(I)J"⟩, 8), (⟨"ShiftSignatures", "requirePatterns", "(I)V"⟩, 5), (⟨"ShiftSignatures", "compareAllFaults", "(I)V"⟩, 5), (⟨"ShiftSignatures$Differences", "clear", "()V"⟩, 2), (⟨"ShiftSignatures$Differences", "timesX", "()V"⟩, 2), (⟨"ShiftSignatures$Differences", "addAnswers", "(LShiftSignatures$Circuit;I)V"⟩, 2)]
theorem lw_r2 : ∀ q ∈ lw_privs_2, lw_okq q := List.forall_mem_cons.mpr ⟨lw_p16, List.forall_mem_cons.mpr ⟨lw_p17, List.forall_mem_cons.mpr ⟨lw_p18, List.forall_mem_cons.mpr ⟨lw_p19, List.forall_mem_cons.mpr ⟨lw_p20, List.forall_mem_cons.mpr ⟨lw_p21, List.forall_mem_cons.mpr ⟨lw_p22, List.forall_mem_cons.mpr ⟨lw_p23, List.forall_mem_cons.mpr ⟨lw_p24, List.forall_mem_cons.mpr ⟨lw_p25, List.forall_mem_cons.mpr ⟨lw_p26, List.forall_mem_cons.mpr ⟨lw_p27, List.forall_mem_cons.mpr ⟨lw_p28, List.forall_mem_cons.mpr ⟨lw_p29, List.forall_mem_cons.mpr ⟨lw_p30, List.forall_mem_cons.mpr ⟨lw_p31, fun _ h => absurd h List.not_mem_nil⟩⟩⟩⟩⟩⟩⟩⟩⟩⟩⟩⟩⟩⟩⟩⟩
theorem lw_p32 : lw_okq (⟨"ShiftSignatures$Differences", "reduce", "(LShiftSignatures$Modulus;)V"⟩, 2) := ⟨⟨by decide +kernel, by decide +kernel⟩, List.mem_of_getElem? (i := 81) (by decide +kernel), List.mem_of_getElem? (i := 494) (by decide +kernel), List.mem_of_getElem? (i := 495) (by decide +kernel)⟩
theorem lw_p33 : lw_okq (⟨"ShiftSignatures$Differences", "subtract", "(JJI)V"⟩, 2) := ⟨⟨by decide +kernel, by decide +kernel⟩, List.mem_of_getElem? (i := 81) (by decide +kernel), List.mem_of_getElem? (i := 498) (by decide +kernel), List.mem_of_getElem? (i := 499) (by decide +kernel)⟩
theorem lw_p34 : lw_okq (⟨"ShiftSignatures$Differences", "found", "()J"⟩, 2) := ⟨⟨by decide +kernel, by decide +kernel⟩, List.mem_of_getElem? (i := 81) (by decide +kernel), List.mem_of_getElem? (i := 502) (by decide +kernel), List.mem_of_getElem? (i := 503) (by decide +kernel)⟩
theorem lw_p35 : lw_okq (⟨"ShiftSignaturesModel", "refused", "(I)Z"⟩, 17) := ⟨⟨by decide +kernel, by decide +kernel⟩, List.mem_of_getElem? (i := 522) (by decide +kernel), List.mem_of_getElem? (i := 589) (by decide +kernel), List.mem_of_getElem? (i := 590) (by decide +kernel)⟩
theorem lw_p36 : lw_okq (⟨"ShiftSignaturesModel", "clearCircuit", "()V"⟩, 17) := ⟨⟨by decide +kernel, by decide +kernel⟩, List.mem_of_getElem? (i := 522) (by decide +kernel), List.mem_of_getElem? (i := 593) (by decide +kernel), List.mem_of_getElem? (i := 594) (by decide +kernel)⟩
theorem lw_p37 : lw_okq (⟨"ShiftSignaturesModel", "isResidue", "(J)Z"⟩, 17) := ⟨⟨by decide +kernel, by decide +kernel⟩, List.mem_of_getElem? (i := 522) (by decide +kernel), List.mem_of_getElem? (i := 601) (by decide +kernel), List.mem_of_getElem? (i := 602) (by decide +kernel)⟩
theorem lw_p38 : lw_okq (⟨"ShiftSignaturesModel", "product", "(JJ)J"⟩, 17) := ⟨⟨by decide +kernel, by decide +kernel⟩, List.mem_of_getElem? (i := 522) (by decide +kernel), List.mem_of_getElem? (i := 605) (by decide +kernel), List.mem_of_getElem? (i := 606) (by decide +kernel)⟩
theorem lw_p39 : lw_okq (⟨"ShiftSignaturesModel", "step", "(J)J"⟩, 17) := ⟨⟨by decide +kernel, by decide +kernel⟩, List.mem_of_getElem? (i := 522) (by decide +kernel), List.mem_of_getElem? (i := 609) (by decide +kernel), List.mem_of_getElem? (i := 610) (by decide +kernel)⟩
theorem lw_p40 : lw_okq (⟨"ShiftSignaturesModel", "raised", "(JJ)J"⟩, 17) := ⟨⟨by decide +kernel, by decide +kernel⟩, List.mem_of_getElem? (i := 522) (by decide +kernel), List.mem_of_getElem? (i := 618) (by decide +kernel), List.mem_of_getElem? (i := 619) (by decide +kernel)⟩
theorem lw_p41 : lw_okq (⟨"ShiftSignaturesModel", "reduced", "(J)J"⟩, 17) := ⟨⟨by decide +kernel, by decide +kernel⟩, List.mem_of_getElem? (i := 522) (by decide +kernel), List.mem_of_getElem? (i := 622) (by decide +kernel), List.mem_of_getElem? (i := 623) (by decide +kernel)⟩
theorem lw_p42 : lw_okq (⟨"ShiftSignaturesModel", "isProduct", "()Z"⟩, 17) := ⟨⟨by decide +kernel, by decide +kernel⟩, List.mem_of_getElem? (i := 522) (by decide +kernel), List.mem_of_getElem? (i := 637) (by decide +kernel), List.mem_of_getElem? (i := 638) (by decide +kernel)⟩
theorem lw_p43 : lw_okq (⟨"ShiftSignaturesModel", "patternOf", "(J)I"⟩, 17) := ⟨⟨by decide +kernel, by decide +kernel⟩, List.mem_of_getElem? (i := 522) (by decide +kernel), List.mem_of_getElem? (i := 666) (by decide +kernel), List.mem_of_getElem? (i := 667) (by decide +kernel)⟩
theorem lw_p44 : lw_okq (⟨"ShiftSignaturesModel", "isLine", "(I)Z"⟩, 17) := ⟨⟨by decide +kernel, by decide +kernel⟩, List.mem_of_getElem? (i := 522) (by decide +kernel), List.mem_of_getElem? (i := 674) (by decide +kernel), List.mem_of_getElem? (i := 675) (by decide +kernel)⟩
theorem lw_p45 : lw_okq (⟨"ShiftSignaturesModel", "isFault", "(I)Z"⟩, 17) := ⟨⟨by decide +kernel, by decide +kernel⟩, List.mem_of_getElem? (i := 522) (by decide +kernel), List.mem_of_getElem? (i := 686) (by decide +kernel), List.mem_of_getElem? (i := 687) (by decide +kernel)⟩
theorem lw_p46 : lw_okq (⟨"ShiftSignaturesModel", "answerTo", "(II)I"⟩, 17) := ⟨⟨by decide +kernel, by decide +kernel⟩, List.mem_of_getElem? (i := 522) (by decide +kernel), List.mem_of_getElem? (i := 690) (by decide +kernel), List.mem_of_getElem? (i := 691) (by decide +kernel)⟩
theorem lw_p47 : lw_okq (⟨"ShiftSignaturesModel", "prepare", "(I)V"⟩, 17) := ⟨⟨by decide +kernel, by decide +kernel⟩, List.mem_of_getElem? (i := 522) (by decide +kernel), List.mem_of_getElem? (i := 704) (by decide +kernel), List.mem_of_getElem? (i := 705) (by decide +kernel)⟩
def lw_privs_3 : List (MethodName × Nat) := [(⟨"ShiftSignatures$Differences", "reduce", "(LShiftSignatures$Modulus;)V"⟩, 2), (⟨"ShiftSignatures$Differences", "subtract", "(JJI)V"⟩, 2), (⟨"ShiftSignatures$Differences", "found", "()J"⟩, 2), (⟨"ShiftSignaturesModel", "refused", "(I)Z"⟩, 17), (⟨"ShiftSignaturesModel", "clearCircuit", "()V"⟩, 17), (⟨"ShiftSignaturesModel", "isResidue", "(J)Z"⟩, 17), (⟨"ShiftSignaturesModel", "product", "(JJ)J"⟩, 17), (⟨"ShiftSignaturesModel", "step", "(J)J"⟩, 17), (⟨"ShiftSignaturesModel", "raised", "(JJ)J"⟩, 17), (⟨"ShiftSignaturesModel", "reduced", "(J)J"⟩, 17), (⟨"ShiftSignaturesModel", "isProduct", "()Z"⟩, 17), (⟨"ShiftSignaturesModel", "patternOf", "(J)I"⟩, 17), (⟨"ShiftSignaturesModel", "isLine", "(I)Z"⟩, 17), (⟨"ShiftSignaturesModel", "isFault", "(I)Z"⟩, 17), (⟨"ShiftSignaturesModel", "answerTo", "(II)I"⟩, 17), (⟨"ShiftSignaturesModel", "prepare", "(I)V"⟩, 17)]
theorem lw_r3 : ∀ q ∈ lw_privs_3, lw_okq q := List.forall_mem_cons.mpr ⟨lw_p32, List.forall_mem_cons.mpr ⟨lw_p33, List.forall_mem_cons.mpr ⟨lw_p34, List.forall_mem_cons.mpr ⟨lw_p35, List.forall_mem_cons.mpr ⟨lw_p36, List.forall_mem_cons.mpr ⟨lw_p37, List.forall_mem_cons.mpr ⟨lw_p38, List.forall_mem_cons.mpr ⟨lw_p39, List.forall_mem_cons.mpr ⟨lw_p40, List.forall_mem_cons.mpr ⟨lw_p41, List.forall_mem_cons.mpr ⟨lw_p42, List.forall_mem_cons.mpr ⟨lw_p43, List.forall_mem_cons.mpr ⟨lw_p44, List.forall_mem_cons.mpr ⟨lw_p45, List.forall_mem_cons.mpr ⟨lw_p46, List.forall_mem_cons.mpr ⟨lw_p47, fun _ h => absurd h List.not_mem_nil⟩⟩⟩⟩⟩⟩⟩⟩⟩⟩⟩⟩⟩⟩⟩⟩
theorem lw_p48 : lw_okq (⟨"ShiftSignaturesModel", "signature", "(II)J"⟩, 17) := ⟨⟨by decide +kernel, by decide +kernel⟩, List.mem_of_getElem? (i := 522) (by decide +kernel), List.mem_of_getElem? (i := 708) (by decide +kernel), List.mem_of_getElem? (i := 709) (by decide +kernel)⟩
theorem lw_p49 : lw_okq (⟨"ShiftSignaturesModel", "firstSeen", "(II)I"⟩, 17) := ⟨⟨by decide +kernel, by decide +kernel⟩, List.mem_of_getElem? (i := 522) (by decide +kernel), List.mem_of_getElem? (i := 716) (by decide +kernel), List.mem_of_getElem? (i := 717) (by decide +kernel)⟩
def lw_privs_4 : List (MethodName × Nat) := [(⟨"ShiftSignaturesModel", "signature", "(II)J"⟩, 17), (⟨"ShiftSignaturesModel", "firstSeen", "(II)I"⟩, 17)]
theorem lw_r4 : ∀ q ∈ lw_privs_4, lw_okq q := List.forall_mem_cons.mpr ⟨lw_p48, List.forall_mem_cons.mpr ⟨lw_p49, fun _ h => absurd h List.not_mem_nil⟩⟩
def lw_privs : List (MethodName × Nat) := lw_privs_1 ++ (lw_privs_2 ++ (lw_privs_3 ++ (lw_privs_4)))
def lw_tbl : List Cond := k2_sels lw_privs ++ tables_1
theorem lw_privs_ok : ∀ q ∈ lw_privs, lw_okq q := by
  show ∀ q ∈ lw_privs_1 ++ (lw_privs_2 ++ (lw_privs_3 ++ (lw_privs_4))), lw_okq q
  exact List.forall_mem_append.mpr ⟨lw_r1, List.forall_mem_append.mpr ⟨lw_r2, List.forall_mem_append.mpr ⟨lw_r3, lw_r4⟩⟩⟩
end
section
/-! ===== BEGIN words of one list among another's, by their places ===== -/
theorem goodIn_r {big : List Cond} (ws : List Cond) (ps : List Nat) (hp : ws = ps.filterMap (fun i => big[i]?)) (h : ws.all goodWord = true) : GoodIn big ws := by
  intro w hw
  have h1 := List.all_eq_true.mp h w hw
  rw [hp] at hw
  obtain ⟨i, -, hi⟩ := List.mem_filterMap.mp hw
  have hm : w ∈ big := by first | exact List.mem_of_getElem? hi | exact List.getElem?_mem hi
  exact ⟨hm, good_of_word h1⟩
theorem goodIn_app {big a b : List Cond} (ha : GoodIn big a) (hb : GoodIn big b) : GoodIn big (a ++ b) := fun w h => (List.mem_append.mp h).elim (ha w) (hb w)
theorem goodIn_ca {big a b : List Cond} {c : Cond} (ha : GoodIn big (c :: a)) (hb : GoodIn big b) : GoodIn big (c :: (a ++ b)) := fun w h => (List.mem_cons.mp h).elim (fun e => ha w (List.mem_cons.mpr (Or.inl e))) (fun h => (List.mem_append.mp h).elim (fun h => ha w (List.mem_cons.mpr (Or.inr h))) (hb w))
theorem goodIn_sub {big ws : List Cond} (hm : ∀ w ∈ ws, w ∈ big) (h : ws.all goodWord = true) : GoodIn big ws := fun w hw => ⟨hm w hw, good_of_word (List.all_eq_true.mp h w hw)⟩
/-! ===== END ===== -/

/-! ===== BEGIN exceptions that leave a method, and their catching by the caller (launches without stack traces) ===== -/
section VXA
/-! The laws vx_back, vx_callV, vx_callS, vx_callSW, vx_throw0, vx_throwS follow proofs of the library, with one case more: JvmDerived/Free/Laws.lean (Back.of_free), Shelf42/LK1.lean (callV, callS), Shelf/KitTraced.lean (throwNew0V, throwNewS). -/
/-- where a method has thrown q: the class by its name, the cell, what was written, the world -/
def vx_T (XC : String → State → State → Prop) (st : State) (q : Addr) (t : State) (mc ms : Nat) (free : Addr → Prop) : Prop :=
  ∃ (E : String) (ce : Cell) (L : List Loc), XC E st t ∧ t.heap[q]? = some ce ∧ ce.vm = .none ∧ st.vm.findClass E = some ce.cls ∧ st.WarmedH t.vm ∧ st.sameButNew ({ t with vm := st.vm } : State) L mc ms ∧ ∀ z ∈ L, free z.base
def vx_Q (Qc : Array Value → State → Outcome → State → Prop) (XC : String → State → State → Prop) (mc ms : Nat) (free : Addr → Prop) : Array Value → State → Outcome → State → Prop := fun a st o t =>
  (Qc a st o t ∧ ∃ L, FrameEnd st o t L mc ms ∧ ∀ q ∈ L, free q.base) ∨ ∃ q, o = .threw q ∧ vx_T XC st q t mc ms free
/-- a callee that returns or throws -/
def vx_Met (l : Launch) (y : MethodName) (ws : List Cond) (rm : Room) (Pc : Array Value → State → Prop) (Qc : Array Value → State → Outcome → State → Prop) (XC : String → State → State → Prop) (mc ms : Nat) (free : Addr → Prop) : Prop :=
  MetFree l y (headSpec ws rm) Pc (fun _ _ _ _ _ => True) (vx_Q Qc XC mc ms free)
def vx_Post (XC : String → State → State → Prop) (mc ms : Nat) (free : Addr → Prop) : Pt → Array Value → Addr → Pt → Prop := fun A a q B =>
  ∃ (g : JFrame) (mk : MethodId) (t : State) (L : List Loc) (E : String) (ce : Cell), B.U.heap = t.heap ∧ B.U.vm = t.vm ∧ XC E (A.U.calling g mk a) t ∧ t.heap[q]? = some ce ∧ ce.vm = .none ∧ A.U.vm.findClass E = some ce.cls ∧ B.locs = A.locs ++ L ∧ (∀ z ∈ L, free z.base) ∧ B.cells = A.cells + mc ∧ B.slots = A.slots + ms
def vx_Back (l : Launch) (R : Room) (p : Program) (e : Env) (below : List Frame) (s : State) (sargs : Array Value) (y : MethodName) (len W9 : Nat)
    (Pre : Pt → Array Value → Prop) (Post : Pt → Array Value → Option Value → Pt → Prop) (PostX : Pt → Array Value → Addr → Pt → Prop) : Prop :=
  ∀ (m : MethodId) (meth : Method) (c : Code) (A : Pt) (g : JFrame) (ig : Instr) (mk : MethodId) (a : Array Value),
    Stand p l e R s m sargs below meth c A.U A.locs A.cells A.slots → g.method = m → g.locals.size = c.maxLocals → decode c.code g.pc = .ok (ig, len) →
    2 * g.monitorRoom + (g.stack.map fun v => v.category).sum ≤ W9 → A.U.methodNamed? y = some mk → Pre A a →
    (∃ (v : Option Value) (B : Pt), Stand p l e R s m sargs below meth c B.U B.locs B.cells B.slots ∧ Post A a v B ∧
      Steps p.tables e below (doInvoke e (A.U.setTop g) [] mk a).1 (B.U.setTop { g with pc := g.pc + len, stack := v.toList ++ g.stack })) ∨
    (∃ (q : Addr) (B : Pt), Stand p l e R s m sargs below meth c B.U B.locs B.cells B.slots ∧ PostX A a q B ∧
      Steps p.tables e below (doInvoke e (A.U.setTop g) [] mk a).1 ((B.U.setTop g).pushFrame (.throwing q)))
section Payer
variable {l : Launch} {R : Room} {p : Program} {e : Env} {below : List Frame} {s : State} {sargs : Array Value} {y : MethodName} {len W9 : Nat}
theorem vx_back {ws : List Cond} {rm : Room} {Pc : Array Value → State → Prop} {Qc : Array Value → State → Outcome → State → Prop} {XC : String → State → State → Prop} {mc ms : Nat} {free : Addr → Prop} {bytes : ByteArray} {maxL : Nat} {ret : Option FieldType}
    (hM : vx_Met l y ws rm Pc Qc XC mc ms free) (hblind : FrameBlind Pc) (hrc : rm.cells = mc) (hrs : rm.slots = ms)
    (hframes : rm.frames + 1 ≤ R.frames) (hlocals : W9 + (maxL + 11) + rm.locals ≤ R.locals)
    (hws : ∀ w ∈ ws, ∀ a' U, s.WarmedH U.vm → w.before a' U = true) (hcode : Cond.code y bytes maxL ret ∈ ws) (hinit : ∀ a' U, s.WarmedH U.vm → (Cond.initialized y.cls).before a' U = true) :
    vx_Back l R p e below s sargs y len W9 (PreOf R mc ms Pc) (PostOf Qc mc ms free) (vx_Post XC mc ms free) := by
  intro m meth c A g ig mk a X hg hsize hdg hW hn hp
  have h1 : (headSpec ws rm).pre.before a A.U = true := atoms_intro fun w hw => hws w hw _ _ X.warmed
  have h2 : (Cond.code y bytes maxL ret).before a A.U = true := hws _ hcode _ _ X.warmed
  have h3 : (Cond.initialized y.cls).before a A.U = true := hinit _ _ X.warmed
  have h4 : A.cells + (headSpec ws rm).room.cells ≤ R.cells := by rw [show (headSpec ws rm).room.cells = mc from hrc]; exact hp.1
  have h5 : A.slots + (headSpec ws rm).room.slots ≤ R.slots := by rw [show (headSpec ws rm).room.slots = ms from hrs]; exact hp.2.1
  have hPc : Pc a (A.U.calling g mk a) := hblind _ _ _ _ hp.2.2
  obtain ⟨U, Ls, c0, s0⟩ := A
  dsimp only [Pt.U, Pt.locs, Pt.cells, Pt.slots] at h1 h2 h3 h4 h5 X hn hPc ⊢
  obtain ⟨methY, cY, hmY, hcY, -, hlY, -, -, -, -⟩ := Cond.code_spec hn h2
  obtain ⟨kY, hkY, -⟩ := className_of_methodNamed hn
  have hinitY : kY.init = .initialized := Cond.initialized_spec (findClass_of_methodNamed hn) hkY h3
  have h : At U g.method c below := by rw [hg]; exact X.here
  have hlocals9 : W9 + (maxL + 11) + (headSpec ws rm).room.locals ≤ R.locals := hlocals
  have happ : (headSpec ws rm).appliesLoose y e.platform (U.calling g mk a) = true :=
    Spec.appliesLoose_calling (g := g) h hdg hn hkY hinitY
      (X.room_calling (g := g) (R' := (headSpec ws rm).room) hsize hmY hcY hframes (by rw [hlY]; omega) h4 h5) h1
  obtain ⟨mid, hmid⟩ := h.above
  have hfr : (U.setTop g).frames = (.java g :: mid) ++ below := by rw [State.frames_setTop' g h.top, hmid]; rfl
  obtain ⟨o, s₂, hsteps, -, hend, hq⟩ := Steps.callFree hM p X.admits X.cas X.clock (acts := []) hfr happ hPc trivial
  have hq' : vx_Q Qc XC mc ms free a (U.calling g mk a) o s₂ := hq
  rw [State.frames_setTop' g h.top] at hend
  obtain ⟨g₀, hg0⟩ := Option.isSome_iff_exists.mp h.top
  obtain ⟨r, hr⟩ := State.topJava?_eq_some.mp hg0
  have hr' : (({ U with heap := s₂.heap, slotsUsed := s₂.slotsUsed } : State).setVm s₂.vm).frames = .java g₀ :: r := hr
  rcases hq' with ⟨hqc, L, hfe, hL⟩ | ⟨q, rfl, E, ce, L, hx, hce, hcv, hcl, hW₂, hsm, hL⟩
  · obtain ⟨⟨v, rfl⟩, hW₂, e2, q2, q3, q4, q5, q6⟩ := id hfe
    have e3 : s₂ = ({ (U.calling g mk a).setFrames s₂.frames with heap := s₂.heap, slotsUsed := s₂.slotsUsed } : State).setVm s₂.vm := by
      have : s₂ = ({ s₂ with vm := (U.calling g mk a).vm } : State).setVm s₂.vm := rfl
      rw [e2] at this
      exact this
    obtain ⟨c₂, i₂, len₂, hc₂, hd₂, hf₂⟩ := hend
    have hW' : U.WarmedH s₂.vm := hW₂
    have hcc : c₂ = c := by
      have h1 : s₂.code? g.method = U.code? g.method := by
        rw [State.code?_eq, State.code?_eq, hW'.alike.method?]
      exact Option.some.inj (hc₂.symm.trans (h1.trans h.code))
    subst hcc
    have hlen : len₂ = len := by rw [hdg] at hd₂; cases hd₂; rfl
    subst hlen
    have hs₂ : s₂ = (({ U with heap := s₂.heap, slotsUsed := s₂.slotsUsed } : State).setVm s₂.vm).setTop { g with pc := g.pc + len₂, stack := v.toList ++ g.stack } := by
      refine e3.trans ?_
      rw [hf₂, State.calling_eq h.top, State.setFrames_setFrames, State.setTop_of_frames _ hr', hr]
      rfl
    have hsame : U.sameButNew ({ U with heap := s₂.heap, slotsUsed := s₂.slotsUsed } : State) L mc ms := by
      refine ⟨?_, q2, q3, q4, q5, q6⟩
      obtain ⟨t, ht, -⟩ := State.frames_cons hr
      show ({ U with heap := s₂.heap, slotsUsed := s₂.slotsUsed } : State) = { U.setFrames U.frames with heap := s₂.heap, slotsUsed := s₂.slotsUsed }
      rw [State.setFrames_self ht]
    subst hg
    refine Or.inl ⟨v, ⟨(({ U with heap := s₂.heap, slotsUsed := s₂.slotsUsed } : State).setVm s₂.vm), Ls ++ L, c0 + mc, s0 + ms⟩,
      ⟨X.admits, X.cas, X.clock, X.frames, X.room, X.hears, X.method, X.code, (X.here.setHeapUsed s₂.heap s₂.slotsUsed).setVm hW'.alike, X.tail, State.WarmedH.trans X.warmed hW', X.limits, X.bytes, X.same.trans (hsame.setVm s.vm)⟩,
      ⟨g, mk, s₂, L, rfl, rfl, hqc, rfl, hL, rfl, rfl⟩, ?_⟩
    show Steps p.tables e below _ ((({ U with heap := s₂.heap, slotsUsed := s₂.slotsUsed } : State).setVm s₂.vm).setTop { g with pc := g.pc + len₂, stack := v.toList ++ g.stack })
    rw [← hs₂]
    exact hsteps
  · obtain ⟨e2, q2, q3, q4, q5, q6⟩ := id hsm
    have e3 : s₂ = ({ (U.calling g mk a).setFrames s₂.frames with heap := s₂.heap, slotsUsed := s₂.slotsUsed } : State).setVm s₂.vm := by
      have : s₂ = ({ s₂ with vm := (U.calling g mk a).vm } : State).setVm s₂.vm := rfl
      rw [e2] at this
      exact this
    have hf₂ : s₂.frames = .throwing q :: .java g :: U.frames.tail := hend
    have hW' : U.WarmedH s₂.vm := hW₂
    have hs₂ : s₂ = ((({ U with heap := s₂.heap, slotsUsed := s₂.slotsUsed } : State).setVm s₂.vm).setTop g).pushFrame (.throwing q) := by
      refine e3.trans ?_
      rw [hf₂, State.calling_eq h.top, State.setFrames_setFrames, State.pushFrame, State.frames_setTop _ hr', State.setTop_of_frames _ hr', State.setFrames_setFrames, hr]
      rfl
    have hsame : U.sameButNew ({ U with heap := s₂.heap, slotsUsed := s₂.slotsUsed } : State) L mc ms := by
      refine ⟨?_, q2, q3, q4, q5, q6⟩
      obtain ⟨t, ht, -⟩ := State.frames_cons hr
      show ({ U with heap := s₂.heap, slotsUsed := s₂.slotsUsed } : State) = { U.setFrames U.frames with heap := s₂.heap, slotsUsed := s₂.slotsUsed }
      rw [State.setFrames_self ht]
    subst hg
    refine Or.inr ⟨q, ⟨(({ U with heap := s₂.heap, slotsUsed := s₂.slotsUsed } : State).setVm s₂.vm), Ls ++ L, c0 + mc, s0 + ms⟩,
      ⟨X.admits, X.cas, X.clock, X.frames, X.room, X.hears, X.method, X.code, (X.here.setHeapUsed s₂.heap s₂.slotsUsed).setVm hW'.alike, X.tail, State.WarmedH.trans X.warmed hW', X.limits, X.bytes, X.same.trans (hsame.setVm s.vm)⟩,
      ⟨g, mk, s₂, L, E, ce, rfl, rfl, hx, hce, hcv, hcl, rfl, hL, rfl, rfl⟩, ?_⟩
    show Steps p.tables e below _ (((({ U with heap := s₂.heap, slotsUsed := s₂.slotsUsed } : State).setVm s₂.vm).setTop g).pushFrame (.throwing q))
    rw [← hs₂]
    exact hsteps
end Payer
section Calls
variable {p : Program} {l : Launch} {e : Env} {R : Room} {s : State} {m : MethodId} {args : Array Value} {below : List Frame} {meth : Method} {c : Code} {T : State} {locs : List Loc} {cells slots : Nat}
theorem vx_callV (X : Stand p l e R s m args below meth c T locs cells slots) (hexec : p.tables.exec = Jvm.exec) {own C : String} {index : Nat} {y : MethodName} {bytes : ByteArray} {maxL : Nat} {ret : Option FieldType}
    (hown : s.vm.findClass own = some m.cls) (hlink : (Cond.methodLink own index y).before args s = true) (hinst : (Cond.instanceMethod y).before args s = true) (hsel : (Cond.selects C y y).before args s = true)
    (hcode : (Cond.code y bytes maxL ret).before args s = true) (hy : y.cls ≠ "java/lang/invoke/MethodHandle" ∧ y.cls ≠ "java/lang/invoke/VarHandle")
    {W9 : Nat} {Pre : Pt → Array Value → Prop} {Post : Pt → Array Value → Option Value → Pt → Prop} {PostX : Pt → Array Value → Addr → Pt → Prop} (hK : vx_Back l R p e below s args y 3 W9 Pre Post PostX)
    {b : Addr} {cellB : Cell} (hcell : T.heap[b]? = some cellB) (hobj : cellB.vm.isStatics = false) (hcls : s.vm.findClass C = some cellB.cls)
    {g : JFrame} (hg : g.method = m) (hsize : g.locals.size = c.maxLocals) {argsL rest : List Value} (hlen : ∀ sig, parseMethodDescriptor y.desc = some sig → argsL.length = sig.parameters.length)
    (hstack : g.stack = argsL.reverse ++ .ref b :: rest) (hW : 2 * g.monitorRoom + (rest.map fun v => v.category).sum ≤ W9) (hdg : decode c.code g.pc = .ok (.invokevirtual index, 3))
    (hpre : ∀ vm₁, s.WarmedH vm₁ → Pre ⟨T.setVm vm₁, locs, cells, slots⟩ (Value.ref b :: argsL).toArray) :
    (∃ (v : Option Value) (vm₁ : Vm) (B : Pt), s.WarmedH vm₁ ∧ Stand p l e R s m args below meth c B.U B.locs B.cells B.slots ∧ Post ⟨T.setVm vm₁, locs, cells, slots⟩ (Value.ref b :: argsL).toArray v B ∧
      ∀ target, Steps p.tables e below (B.U.setTop { g with pc := g.pc + 3, stack := v.toList ++ rest }) target → Steps p.tables e below (T.setTop g) target) ∨
    (∃ (q : Addr) (vm₁ : Vm) (B : Pt), s.WarmedH vm₁ ∧ Stand p l e R s m args below meth c B.U B.locs B.cells B.slots ∧ PostX ⟨T.setVm vm₁, locs, cells, slots⟩ (Value.ref b :: argsL).toArray q B ∧
      Steps p.tables e below (T.setTop g) ((B.U.setTop { g with stack := rest }).pushFrame (.throwing q))) := by
  obtain ⟨mk, methM, hnamed, hmethM, hstM, habM⟩ := Cond.instanceMethod_spec hinst
  obtain ⟨methM', cM, hmethM', -, -, -, -, -, -, hsigM⟩ := Cond.code_spec hnamed hcode
  cases hmethM.symm.trans hmethM'
  obtain ⟨c2, r2, m2, q1, q2, q3, q4, kP, hkP, hkPi⟩ := Cond.selects_spec hsel
  cases hcls.symm.trans q1
  cases (State.methodFound?_of_named hnamed hy).symm.trans q2
  cases hnamed.symm.trans q3
  have hselP : selectMethod e.platform s.vm cellB.cls mk = .method mk := by rw [Launch.admits_selectMethod X.admits]; exact q4
  obtain ⟨vm₁, X₁, hstep₁⟩ := X.invokevirtual hexec hown hlink hnamed hmethM hstM hkP hkPi hy (a := b) (cell := cellB) hcell
    (fun z h => by rw [h] at hobj; cases hobj) hselP hmethM habM hkP hkPi (g := g) hg (argsL := argsL) (rest := rest) (hlen _ hsigM) hstack hdg
  rcases hK m meth c ⟨T.setVm vm₁, locs, cells, slots⟩ { g with stack := rest } (.invokevirtual index) mk (Value.ref b :: argsL).toArray X₁ hg hsize hdg hW (X₁.named hnamed) (hpre vm₁ X₁.warmed) with ⟨v, B, X', hpost, hsteps⟩ | ⟨q, B, X', hpost, hsteps⟩
  · exact Or.inl ⟨v, vm₁, B, X₁.warmed, X', hpost, fun target h => hstep₁ _ fun acts => by rw [doInvoke_state]; exact hsteps.trans h⟩
  · exact Or.inr ⟨q, vm₁, B, X₁.warmed, X', hpost, hstep₁ _ fun acts => by rw [doInvoke_state]; exact hsteps⟩
theorem vx_callS (X : Stand p l e R s m args below meth c T locs cells slots) (hexec : p.tables.exec = Jvm.exec) {own : String} {index : Nat} {y : MethodName} {bytes : ByteArray} {maxL : Nat} {ret : Option FieldType}
    (hown : s.vm.findClass own = some m.cls) (hlink : (Cond.methodLink own index y).before args s = true) (hstat : (Cond.static y).before args s = true) (hinit : (Cond.initialized y.cls).before args s = true)
    (hcode : (Cond.code y bytes maxL ret).before args s = true) (hy : y.cls ≠ "java/lang/invoke/MethodHandle" ∧ y.cls ≠ "java/lang/invoke/VarHandle")
    {W9 : Nat} {Pre : Pt → Array Value → Prop} {Post : Pt → Array Value → Option Value → Pt → Prop} {PostX : Pt → Array Value → Addr → Pt → Prop} (hK : vx_Back l R p e below s args y 3 W9 Pre Post PostX)
    {g : JFrame} (hg : g.method = m) (hsize : g.locals.size = c.maxLocals) {argsL rest : List Value} (hlen : ∀ sig, parseMethodDescriptor y.desc = some sig → argsL.length = sig.parameters.length)
    (hstack : g.stack = argsL.reverse ++ rest) (hW : 2 * g.monitorRoom + (rest.map fun v => v.category).sum ≤ W9) (hdg : decode c.code g.pc = .ok (.invokestatic index, 3))
    (hpre : ∀ vm₁, s.WarmedH vm₁ → Pre ⟨T.setVm vm₁, locs, cells, slots⟩ argsL.toArray) :
    (∃ (v : Option Value) (vm₁ : Vm) (B : Pt), s.WarmedH vm₁ ∧ Stand p l e R s m args below meth c B.U B.locs B.cells B.slots ∧ Post ⟨T.setVm vm₁, locs, cells, slots⟩ argsL.toArray v B ∧
      ∀ target, Steps p.tables e below (B.U.setTop { g with pc := g.pc + 3, stack := v.toList ++ rest }) target → Steps p.tables e below (T.setTop g) target) ∨
    (∃ (q : Addr) (vm₁ : Vm) (B : Pt), s.WarmedH vm₁ ∧ Stand p l e R s m args below meth c B.U B.locs B.cells B.slots ∧ PostX ⟨T.setVm vm₁, locs, cells, slots⟩ argsL.toArray q B ∧
      Steps p.tables e below (T.setTop g) ((B.U.setTop { g with stack := rest }).pushFrame (.throwing q))) := by
  obtain ⟨mk, hnamed⟩ := Cond.code_named hcode
  obtain ⟨methM, cM, hmethM, -, -, -, -, -, -, hsigM⟩ := Cond.code_spec hnamed hcode
  have hstatic : methM.isStatic = true := Cond.static_spec hnamed hmethM hstat
  obtain ⟨kP, hkP, -⟩ := className_of_methodNamed hnamed
  have hinitP : kP.init = .initialized := Cond.initialized_spec (findClass_of_methodNamed hnamed) hkP hinit
  obtain ⟨vm₁, X₁, hstep₁⟩ := X.invokestatic hexec hown hlink hnamed hmethM hstatic hkP hinitP hy (g := g) hg (argsL := argsL) (rest := rest) (hlen _ hsigM) hstack hdg
  rcases hK m meth c ⟨T.setVm vm₁, locs, cells, slots⟩ { g with stack := rest } (.invokestatic index) mk argsL.toArray X₁ hg hsize hdg hW (X₁.named hnamed) (hpre vm₁ X₁.warmed) with ⟨v, B, X', hpost, hsteps⟩ | ⟨q, B, X', hpost, hsteps⟩
  · exact Or.inl ⟨v, vm₁, B, X₁.warmed, X', hpost, fun target h => hstep₁ _ fun acts => by rw [doInvoke_state]; exact hsteps.trans h⟩
  · exact Or.inr ⟨q, vm₁, B, X₁.warmed, X', hpost, hstep₁ _ fun acts => by rw [doInvoke_state]; exact hsteps⟩
end Calls
theorem vx_cls {s : State} {T : State} {vm₁ : Vm} {E : String} {k : ClassId} (hW : s.WarmedH vm₁) (h : (T.setVm vm₁).vm.findClass E = some k) : s.vm.findClass E = some k := by
  have h1 : vm₁.findClass E = some k := h
  rw [hW.alike.findClass] at h1
  exact h1
/-- the method's frame g, with q thrown over it -/
def vx_W (p : Program) (l : Launch) (e : Env) (R : Room) (s : State) (m : MethodId) (args : Array Value) (below : List Frame) (meth : Method) (c : Code) (H : Heap) (locs : List Loc) (cells slots : Nat) (Q : State → Prop) (g : JFrame) (q : Addr) : Prop :=
  ∀ T : State, T.heap = H → Stand p l e R s m args below meth c T locs cells slots → ∃ t, Steps p.tables e below ((T.setTop g).pushFrame (.throwing q)) t ∧ Q t
def vx_Run (p : Program) (l : Launch) (e : Env) (R : Room) (s : State) (m : MethodId) (args : Array Value) (below : List Frame) (meth : Method) (c : Code) (H : Heap) (locs : List Loc) (cells slots mc ms : Nat) (g : JFrame) (rest : List Value) (Qa : State → Outcome → State → Prop) (XC : String → State → State → Prop) (free : Addr → Prop) : Prop :=
  ∀ T : State, T.heap = H → Stand p l e R s m args below meth c T locs cells slots →
    (∃ (v : Option Value) (st₀ t T' : State) (L : List Loc), st₀.heap = H ∧ Stand p l e R s m args below meth c T' (locs ++ L) (cells + mc) (slots + ms) ∧ (∀ q ∈ L, free q.base) ∧ T'.heap = t.heap ∧ T'.vm = t.vm ∧ Qa st₀ (.returned v) t ∧
      Goes p e below T g T' { g with pc := g.pc + 3, stack := v.toList ++ rest }) ∨
    (∃ (q : Addr) (st₀ t T' : State) (L : List Loc) (E : String) (ce : Cell), st₀.heap = H ∧ Stand p l e R s m args below meth c T' (locs ++ L) (cells + mc) (slots + ms) ∧ (∀ z ∈ L, free z.base) ∧ T'.heap = t.heap ∧ T'.vm = t.vm ∧ XC E st₀ t ∧ t.heap[q]? = some ce ∧ ce.vm = .none ∧ s.vm.findClass E = some ce.cls ∧
      Steps p.tables e below (T.setTop g) ((T'.setTop { g with stack := rest }).pushFrame (.throwing q)))
def vx_X {S : Type} (px : S → Prop) (B : String → S → State → Prop) (A : Nat → Prop) : String → State → State → Prop := fun E st t => ∃ u : S, px u ∧ B E u t ∧ va_F A st t
section Runs
variable {p : Program} {l : Launch} {e : Env} {R : Room} {s : State} {m : MethodId} {args : Array Value} {below : List Frame} {meth : Method} {c : Code} {H : Heap} {locs : List Loc} {cells slots : Nat}
variable {y : MethodName} {bytes cc : ByteArray} {maxL nL mc ms n index : Nat} {ret : Option FieldType} {ws : List Cond} {rm : Room} {Pc : Array Value → State → Prop} {Qc : Array Value → State → Outcome → State → Prop} {XC : String → State → State → Prop} {free : Addr → Prop} {Ts : List Cond} {own C : String} {b : Addr} {As rest : List Value} {g : JFrame}
theorem vx_callBack (cb : CallB R s args own index y bytes maxL ret ws rm mc ms n) (hM : vx_Met l y ws rm Pc Qc XC mc ms free) (hbl : FrameBlind Pc) : vx_Back l R p e below s args y 3 8 (PreOf R mc ms Pc) (PostOf Qc mc ms free) (vx_Post XC mc ms free) := by
  obtain ⟨hrc, hrs, hfr, hlo, hws, hcw, -, hini, -⟩ := cb
  exact vx_back (bytes := bytes) (maxL := maxL) (ret := ret) hM hbl hrc hrs hfr hlo hws hcw (fun a' U hW => word_at hW (Or.inl (by first | rfl | simp [Cond.onTables, Cond.keeps, Cond.steady])) hini)
theorem vx_runV (S : CallFix p m c cc nL s args Ts own) (hM : vx_Met l y ws rm Pc Qc XC mc ms free) (cw : CallW R s args own C index y bytes maxL ret ws rm mc ms n) (hp : PreV s H C b Pc As)
    (hg : g.method = m) (hn : As.length = n) (hsize : g.locals.size = nL) (hstack : g.stack = As.reverse ++ .ref b :: rest) (hW : 2 * g.monitorRoom + (rest.map fun v => v.category).sum ≤ 8) (hdg : decode cc g.pc = .ok (.invokevirtual index, 3)) (hf : cells + mc ≤ R.cells ∧ slots + ms ≤ R.slots) :
    vx_Run p l e R s m args below meth c H locs cells slots mc ms g rest (Qc (Value.ref b :: As).toArray) XC free := by
  have hK : vx_Back l R p e below s args y 3 8 (PreOf R mc ms Pc) (PostOf Qc mc ms free) (vx_Post XC mc ms free) := vx_callBack cw.1 hM hp.1
  obtain ⟨⟨-, -, -, -, -, -, hcode, -, hy, hlen, hl⟩, hin, hse⟩ := cw
  obtain ⟨hx, hb, hml, ho, -⟩ := S
  obtain ⟨-, ⟨cellB, hcB, hoB, hclB⟩, hPc⟩ := hp
  intro T hT X
  rcases vx_callV X hx (C := C) (bytes := bytes) (maxL := maxL) (ret := ret) ho hl hin hse hcode hy hK (by rw [hT]; exact hcB) hoB hclB hg (hsize.trans hml.symm) (argsL := As) (rest := rest) (fun sig h => hn.trans (hlen sig h)) hstack hW (by rw [hb]; exact hdg)
    (fun vm₁ hW₁ => ⟨hf.1, hf.2, hPc (T.setVm vm₁) hT hW₁⟩) with ⟨v, vm₁, ⟨U', l2, c2, s2⟩, hW₁, X', ⟨g', mk, t, L, e1, e2, hq, h1, hL, h2, h3⟩, st⟩ | ⟨q, vm₁, ⟨U', l2, c2, s2⟩, hW₁, X', ⟨g', mk, t, L, E, ce, e1, e2, hq, hce, hcv, hcl, h1, hL, h2, h3⟩, st⟩
  · dsimp only [Pt.U, Pt.locs, Pt.cells, Pt.slots] at X' e1 e2 h1 h2 h3 st
    subst h1; subst h2; subst h3
    exact Or.inl ⟨v, (T.setVm vm₁).calling g' mk (Value.ref b :: As).toArray, t, U', L, hT, X', hL, e1, e2, hq, st⟩
  · dsimp only [Pt.U, Pt.locs, Pt.cells, Pt.slots] at X' e1 e2 h1 h2 h3 st hcl
    subst h1; subst h2; subst h3
    exact Or.inr ⟨q, (T.setVm vm₁).calling g' mk (Value.ref b :: As).toArray, t, U', L, E, ce, hT, X', hL, e1, e2, hq, hce, hcv, vx_cls hW₁ hcl, st⟩
theorem vx_runS (S : CallFix p m c cc nL s args Ts own) (hM : vx_Met l y ws rm Pc Qc XC mc ms free) (cw : CallB R s args own index y bytes maxL ret ws rm mc ms n ∧ (Cond.static y).before args s = true) (hp : PreS s H Pc As)
    (hg : g.method = m) (hn : As.length = n) (hsize : g.locals.size = nL) (hstack : g.stack = As.reverse ++ rest) (hW : 2 * g.monitorRoom + (rest.map fun v => v.category).sum ≤ 8) (hdg : decode cc g.pc = .ok (.invokestatic index, 3)) (hf : cells + mc ≤ R.cells ∧ slots + ms ≤ R.slots) :
    vx_Run p l e R s m args below meth c H locs cells slots mc ms g rest (Qc As.toArray) XC free := by
  have hK : vx_Back l R p e below s args y 3 8 (PreOf R mc ms Pc) (PostOf Qc mc ms free) (vx_Post XC mc ms free) := vx_callBack cw.1 hM hp.1
  obtain ⟨⟨-, -, -, -, -, -, hcode, hini, hy, hlen, hl⟩, hstt⟩ := cw
  obtain ⟨hx, hb, hml, ho, -⟩ := S
  intro T hT X
  rcases vx_callS X hx (bytes := bytes) (maxL := maxL) (ret := ret) ho hl hstt hini hcode hy hK hg (hsize.trans hml.symm) (argsL := As) (rest := rest) (fun sig h => hn.trans (hlen sig h)) hstack hW (by rw [hb]; exact hdg)
    (fun vm₁ hW₁ => ⟨hf.1, hf.2, hp.2 (T.setVm vm₁) hT hW₁⟩) with ⟨v, vm₁, ⟨U', l2, c2, s2⟩, hW₁, X', ⟨g', mk, t, L, e1, e2, hq, h1, hL, h2, h3⟩, st⟩ | ⟨q, vm₁, ⟨U', l2, c2, s2⟩, hW₁, X', ⟨g', mk, t, L, E, ce, e1, e2, hq, hce, hcv, hcl, h1, hL, h2, h3⟩, st⟩
  · dsimp only [Pt.U, Pt.locs, Pt.cells, Pt.slots] at X' e1 e2 h1 h2 h3 st
    subst h1; subst h2; subst h3
    exact Or.inl ⟨v, (T.setVm vm₁).calling g' mk As.toArray, t, U', L, hT, X', hL, e1, e2, hq, st⟩
  · dsimp only [Pt.U, Pt.locs, Pt.cells, Pt.slots] at X' e1 e2 h1 h2 h3 st hcl
    subst h1; subst h2; subst h3
    exact Or.inr ⟨q, (T.setVm vm₁).calling g' mk As.toArray, t, U', L, E, ce, hT, X', hL, e1, e2, hq, hce, hcv, vx_cls hW₁ hcl, st⟩
end Runs
section Rows
variable {p : Program} {l : Launch} {e : Env} {R : Room} {s : State} {m : MethodId} {args : Array Value} {below : List Frame} {meth : Method} {c : Code} {H : Heap} {locs : List Loc} {cells slots : Nat} {Q : State → Prop}
variable {mc ms : Nat} {free : Addr → Prop} {A0 A1 : Nat → Prop} {H0 : Heap} {a : Array Value} {pc : Nat} {ls : Array Slot} {st0 rest : List Value}
theorem vx_keep {st₀ t T' : State} {L : List Loc} (h0 : st₀.heap = H) (e1 : T'.heap = t.heap) (hS : va_S A0 H0 H locs) (hA : ∀ q, q < H.size → A1 q → A0 q) (hf : ∀ q, free q → A0 q) (hL : ∀ q ∈ L, free q.base) (hF : va_F A1 st₀ t) :
    H.size ≤ T'.heap.size ∧ (∀ q : Nat, q < H.size → ¬ A1 q → T'.heap[q]? = H[q]?) ∧ va_S A0 H0 T'.heap (locs ++ L) := by
  obtain ⟨hz, hk⟩ := hF
  rw [h0] at hz hk
  exact ⟨by rw [e1]; exact hz, fun q h1 h2 => by rw [e1]; exact hk q h1 h2,
    ⟨Nat.le_trans hS.1 (by rw [e1]; exact hz), fun q h1 h2 => by rw [e1, hk q (Nat.lt_of_lt_of_le h1 hS.1) (fun z => h2 (hA q (Nat.lt_of_lt_of_le h1 hS.1) z))]; exact hS.2.1 q h1 h2, fun q hq => by
      rcases List.mem_append.mp hq with h | h
      · exact hS.2.2 q h
      · exact hf _ (hL q h)⟩⟩
theorem vx_calli {S SX : Type} {post : Int32 → S → Prop} {px : SX → Prop} {B : S → State → Prop} {BX : String → SX → State → Prop} {AX : Nat → Prop} (hr : vx_Run p l e R s m args below meth c H locs cells slots mc ms (F0 m pc ls st0) rest (va_Qi post B A1 a) (vx_X px BX AX) free) (hS : va_S A0 H0 H locs) (hA : ∀ q, q < H.size → A1 q → A0 q) (hf : ∀ q, free q → A0 q) (hAX : ∀ q, q < H.size → AX q → A0 q)
    (kx : ∀ (E : String) (ce : Cell) (q9 : Addr) (u : SX) (t : State) (H1 : Heap) (locs1 : List Loc), t.heap = H1 → s.vm.Alike t.vm → px u → BX E u t → H.size ≤ H1.size → (∀ q : Nat, q < H.size → ¬ AX q → H1[q]? = H[q]?) → va_S A0 H0 H1 locs1 → H1[q9]? = some ce → ce.vm = .none → s.vm.findClass E = some ce.cls → vx_W p l e R s m args below meth c H1 locs1 (cells + mc) (slots + ms) Q (F0 m pc ls rest) q9)
    (kk : ∀ (r : Int32) (u : S) (t : State) (H1 : Heap) (locs1 : List Loc), t.heap = H1 → s.vm.Alike t.vm → post r u → B u t → H.size ≤ H1.size → (∀ q : Nat, q < H.size → ¬ A1 q → H1[q]? = H[q]?) → va_S A0 H0 H1 locs1 → W p l e R s m args below meth c H1 locs1 (cells + mc) (slots + ms) Q (F0 m (pc + 3) ls (.int r :: rest))) : W p l e R s m args below meth c H locs cells slots Q (F0 m pc ls st0) := by
  intro T hT X
  rcases hr T hT X with ⟨v, st₀, t, T', L, h0, X', hL, e1, e2, ⟨⟨r, u, hv, hp, hb⟩, hF⟩, st⟩ | ⟨q, st₀, t, T', L, E, ce, h0, X', hL, e1, e2, ⟨u, hp, hb, hF⟩, hce, hcv, hcl, st⟩
  · cases hv
    obtain ⟨k1, k2, k3⟩ := vx_keep h0 e1 hS hA hf hL hF
    obtain ⟨t2, a1, b1⟩ := kk r u t T'.heap (locs ++ L) e1.symm (by rw [← e2]; exact X'.warmed.alike) hp hb k1 k2 k3 T' rfl X'
    exact ⟨t2, st t2 a1, b1⟩
  · obtain ⟨k1, k2, k3⟩ := vx_keep h0 e1 hS hAX hf hL hF
    obtain ⟨t2, a1, b1⟩ := kx E ce q u t T'.heap (locs ++ L) e1.symm (by rw [← e2]; exact X'.warmed.alike) hp hb k1 k2 k3 (by rw [e1]; exact hce) hcv hcl T' rfl X'
    exact ⟨t2, st.trans a1, b1⟩
theorem vx_calll {S SX : Type} {post : Int64 → S → Prop} {px : SX → Prop} {B : S → State → Prop} {BX : String → SX → State → Prop} {AX : Nat → Prop} (hr : vx_Run p l e R s m args below meth c H locs cells slots mc ms (F0 m pc ls st0) rest (va_Ql post B A1 a) (vx_X px BX AX) free) (hS : va_S A0 H0 H locs) (hA : ∀ q, q < H.size → A1 q → A0 q) (hf : ∀ q, free q → A0 q) (hAX : ∀ q, q < H.size → AX q → A0 q)
    (kx : ∀ (E : String) (ce : Cell) (q9 : Addr) (u : SX) (t : State) (H1 : Heap) (locs1 : List Loc), t.heap = H1 → s.vm.Alike t.vm → px u → BX E u t → H.size ≤ H1.size → (∀ q : Nat, q < H.size → ¬ AX q → H1[q]? = H[q]?) → va_S A0 H0 H1 locs1 → H1[q9]? = some ce → ce.vm = .none → s.vm.findClass E = some ce.cls → vx_W p l e R s m args below meth c H1 locs1 (cells + mc) (slots + ms) Q (F0 m pc ls rest) q9)
    (kk : ∀ (r : Int64) (u : S) (t : State) (H1 : Heap) (locs1 : List Loc), t.heap = H1 → s.vm.Alike t.vm → post r u → B u t → H.size ≤ H1.size → (∀ q : Nat, q < H.size → ¬ A1 q → H1[q]? = H[q]?) → va_S A0 H0 H1 locs1 → W p l e R s m args below meth c H1 locs1 (cells + mc) (slots + ms) Q (F0 m (pc + 3) ls (.long r :: rest))) : W p l e R s m args below meth c H locs cells slots Q (F0 m pc ls st0) := by
  intro T hT X
  rcases hr T hT X with ⟨v, st₀, t, T', L, h0, X', hL, e1, e2, ⟨⟨r, u, hv, hp, hb⟩, hF⟩, st⟩ | ⟨q, st₀, t, T', L, E, ce, h0, X', hL, e1, e2, ⟨u, hp, hb, hF⟩, hce, hcv, hcl, st⟩
  · cases hv
    obtain ⟨k1, k2, k3⟩ := vx_keep h0 e1 hS hA hf hL hF
    obtain ⟨t2, a1, b1⟩ := kk r u t T'.heap (locs ++ L) e1.symm (by rw [← e2]; exact X'.warmed.alike) hp hb k1 k2 k3 T' rfl X'
    exact ⟨t2, st t2 a1, b1⟩
  · obtain ⟨k1, k2, k3⟩ := vx_keep h0 e1 hS hAX hf hL hF
    obtain ⟨t2, a1, b1⟩ := kx E ce q u t T'.heap (locs ++ L) e1.symm (by rw [← e2]; exact X'.warmed.alike) hp hb k1 k2 k3 (by rw [e1]; exact hce) hcv hcl T' rfl X'
    exact ⟨t2, st.trans a1, b1⟩
theorem vx_callf {S SX : Type} {post : UInt32 → S → Prop} {px : SX → Prop} {B : S → State → Prop} {BX : String → SX → State → Prop} {AX : Nat → Prop} (hr : vx_Run p l e R s m args below meth c H locs cells slots mc ms (F0 m pc ls st0) rest (va_Qf post B A1 a) (vx_X px BX AX) free) (hS : va_S A0 H0 H locs) (hA : ∀ q, q < H.size → A1 q → A0 q) (hf : ∀ q, free q → A0 q) (hAX : ∀ q, q < H.size → AX q → A0 q)
    (kx : ∀ (E : String) (ce : Cell) (q9 : Addr) (u : SX) (t : State) (H1 : Heap) (locs1 : List Loc), t.heap = H1 → s.vm.Alike t.vm → px u → BX E u t → H.size ≤ H1.size → (∀ q : Nat, q < H.size → ¬ AX q → H1[q]? = H[q]?) → va_S A0 H0 H1 locs1 → H1[q9]? = some ce → ce.vm = .none → s.vm.findClass E = some ce.cls → vx_W p l e R s m args below meth c H1 locs1 (cells + mc) (slots + ms) Q (F0 m pc ls rest) q9)
    (kk : ∀ (r : UInt32) (u : S) (t : State) (H1 : Heap) (locs1 : List Loc), t.heap = H1 → s.vm.Alike t.vm → post r u → B u t → H.size ≤ H1.size → (∀ q : Nat, q < H.size → ¬ A1 q → H1[q]? = H[q]?) → va_S A0 H0 H1 locs1 → W p l e R s m args below meth c H1 locs1 (cells + mc) (slots + ms) Q (F0 m (pc + 3) ls (.float r :: rest))) : W p l e R s m args below meth c H locs cells slots Q (F0 m pc ls st0) := by
  intro T hT X
  rcases hr T hT X with ⟨v, st₀, t, T', L, h0, X', hL, e1, e2, ⟨⟨r, u, hv, hp, hb⟩, hF⟩, st⟩ | ⟨q, st₀, t, T', L, E, ce, h0, X', hL, e1, e2, ⟨u, hp, hb, hF⟩, hce, hcv, hcl, st⟩
  · cases hv
    obtain ⟨k1, k2, k3⟩ := vx_keep h0 e1 hS hA hf hL hF
    obtain ⟨t2, a1, b1⟩ := kk r u t T'.heap (locs ++ L) e1.symm (by rw [← e2]; exact X'.warmed.alike) hp hb k1 k2 k3 T' rfl X'
    exact ⟨t2, st t2 a1, b1⟩
  · obtain ⟨k1, k2, k3⟩ := vx_keep h0 e1 hS hAX hf hL hF
    obtain ⟨t2, a1, b1⟩ := kx E ce q u t T'.heap (locs ++ L) e1.symm (by rw [← e2]; exact X'.warmed.alike) hp hb k1 k2 k3 (by rw [e1]; exact hce) hcv hcl T' rfl X'
    exact ⟨t2, st.trans a1, b1⟩
theorem vx_calld {S SX : Type} {post : UInt64 → S → Prop} {px : SX → Prop} {B : S → State → Prop} {BX : String → SX → State → Prop} {AX : Nat → Prop} (hr : vx_Run p l e R s m args below meth c H locs cells slots mc ms (F0 m pc ls st0) rest (va_Qd post B A1 a) (vx_X px BX AX) free) (hS : va_S A0 H0 H locs) (hA : ∀ q, q < H.size → A1 q → A0 q) (hf : ∀ q, free q → A0 q) (hAX : ∀ q, q < H.size → AX q → A0 q)
    (kx : ∀ (E : String) (ce : Cell) (q9 : Addr) (u : SX) (t : State) (H1 : Heap) (locs1 : List Loc), t.heap = H1 → s.vm.Alike t.vm → px u → BX E u t → H.size ≤ H1.size → (∀ q : Nat, q < H.size → ¬ AX q → H1[q]? = H[q]?) → va_S A0 H0 H1 locs1 → H1[q9]? = some ce → ce.vm = .none → s.vm.findClass E = some ce.cls → vx_W p l e R s m args below meth c H1 locs1 (cells + mc) (slots + ms) Q (F0 m pc ls rest) q9)
    (kk : ∀ (r : UInt64) (u : S) (t : State) (H1 : Heap) (locs1 : List Loc), t.heap = H1 → s.vm.Alike t.vm → post r u → B u t → H.size ≤ H1.size → (∀ q : Nat, q < H.size → ¬ A1 q → H1[q]? = H[q]?) → va_S A0 H0 H1 locs1 → W p l e R s m args below meth c H1 locs1 (cells + mc) (slots + ms) Q (F0 m (pc + 3) ls (.double r :: rest))) : W p l e R s m args below meth c H locs cells slots Q (F0 m pc ls st0) := by
  intro T hT X
  rcases hr T hT X with ⟨v, st₀, t, T', L, h0, X', hL, e1, e2, ⟨⟨r, u, hv, hp, hb⟩, hF⟩, st⟩ | ⟨q, st₀, t, T', L, E, ce, h0, X', hL, e1, e2, ⟨u, hp, hb, hF⟩, hce, hcv, hcl, st⟩
  · cases hv
    obtain ⟨k1, k2, k3⟩ := vx_keep h0 e1 hS hA hf hL hF
    obtain ⟨t2, a1, b1⟩ := kk r u t T'.heap (locs ++ L) e1.symm (by rw [← e2]; exact X'.warmed.alike) hp hb k1 k2 k3 T' rfl X'
    exact ⟨t2, st t2 a1, b1⟩
  · obtain ⟨k1, k2, k3⟩ := vx_keep h0 e1 hS hAX hf hL hF
    obtain ⟨t2, a1, b1⟩ := kx E ce q u t T'.heap (locs ++ L) e1.symm (by rw [← e2]; exact X'.warmed.alike) hp hb k1 k2 k3 (by rw [e1]; exact hce) hcv hcl T' rfl X'
    exact ⟨t2, st.trans a1, b1⟩
theorem vx_callv {S SX : Type} {post : S → Prop} {px : SX → Prop} {B : S → State → Prop} {BX : String → SX → State → Prop} {AX : Nat → Prop} (hr : vx_Run p l e R s m args below meth c H locs cells slots mc ms (F0 m pc ls st0) rest (va_Qv post B A1 a) (vx_X px BX AX) free) (hS : va_S A0 H0 H locs) (hA : ∀ q, q < H.size → A1 q → A0 q) (hf : ∀ q, free q → A0 q) (hAX : ∀ q, q < H.size → AX q → A0 q)
    (kx : ∀ (E : String) (ce : Cell) (q9 : Addr) (u : SX) (t : State) (H1 : Heap) (locs1 : List Loc), t.heap = H1 → s.vm.Alike t.vm → px u → BX E u t → H.size ≤ H1.size → (∀ q : Nat, q < H.size → ¬ AX q → H1[q]? = H[q]?) → va_S A0 H0 H1 locs1 → H1[q9]? = some ce → ce.vm = .none → s.vm.findClass E = some ce.cls → vx_W p l e R s m args below meth c H1 locs1 (cells + mc) (slots + ms) Q (F0 m pc ls rest) q9)
    (kk : ∀ (u : S) (t : State) (H1 : Heap) (locs1 : List Loc), t.heap = H1 → s.vm.Alike t.vm → post u → B u t → H.size ≤ H1.size → (∀ q : Nat, q < H.size → ¬ A1 q → H1[q]? = H[q]?) → va_S A0 H0 H1 locs1 → W p l e R s m args below meth c H1 locs1 (cells + mc) (slots + ms) Q (F0 m (pc + 3) ls (rest))) : W p l e R s m args below meth c H locs cells slots Q (F0 m pc ls st0) := by
  intro T hT X
  rcases hr T hT X with ⟨v, st₀, t, T', L, h0, X', hL, e1, e2, ⟨⟨u, hv, hp, hb⟩, hF⟩, st⟩ | ⟨q, st₀, t, T', L, E, ce, h0, X', hL, e1, e2, ⟨u, hp, hb, hF⟩, hce, hcv, hcl, st⟩
  · cases hv
    obtain ⟨k1, k2, k3⟩ := vx_keep h0 e1 hS hA hf hL hF
    obtain ⟨t2, a1, b1⟩ := kk u t T'.heap (locs ++ L) e1.symm (by rw [← e2]; exact X'.warmed.alike) hp hb k1 k2 k3 T' rfl X'
    exact ⟨t2, st t2 a1, b1⟩
  · obtain ⟨k1, k2, k3⟩ := vx_keep h0 e1 hS hAX hf hL hF
    obtain ⟨t2, a1, b1⟩ := kx E ce q u t T'.heap (locs ++ L) e1.symm (by rw [← e2]; exact X'.warmed.alike) hp hb k1 k2 k3 (by rw [e1]; exact hce) hcv hcl T' rfl X'
    exact ⟨t2, st.trans a1, b1⟩
/-- caught by the row x of this method's table; the rows ahead don't take it -/
theorem vx_catch {own name : String} {E : String} {ce : Cell} {q : Addr} (hown : s.vm.findClass own = some m.cls) (pre : List ExceptionTableEntry) (x : ExceptionTableEntry) (suf : List ExceptionTableEntry) (hsplit : c.exceptionTable.toList = pre ++ x :: suf)
    (hpass : ∀ z ∈ pre, covers z pc = false ∨ (z.catchType ≠ 0 ∧ ∃ nm : String, (Cond.classLink own z.catchType nm).before args s = true ∧ va_Nc E nm s)) (hx : covers x pc = true) (h0 : x.catchType ≠ 0)
    (hlink : (Cond.classLink own x.catchType name).before args s = true) (hcast : (Cond.castable E name).before args s = true) (hcell : H[q]? = some ce) (hv : ce.vm = .none) (hcl : s.vm.findClass E = some ce.cls)
    (kk : W p l e R s m args below meth c H locs cells slots Q (F0 m x.handlerPc ls [.ref q])) : vx_W p l e R s m args below meth c H locs cells slots Q (F0 m pc ls rest) q := by
  intro T hT X
  have hpl : e.platform.magicAccessors = ({} : Platform).magicAccessors := by rw [X.admits.platform]
  obtain ⟨c3, c4, hc3, hc4, hasg⟩ := Cond.castable_spec hcast
  cases Option.some.inj (hc3.symm.trans hcl)
  obtain ⟨c5, hc5, hcl5⟩ := Cond.classLink_spec hown hlink e.platform hpl
  cases Option.some.inj (hc4.symm.trans hc5)
  obtain ⟨vm', X', st⟩ := X.thenCaughtThrough q (g := F0 m pc ls rest) rfl (Steps.refl _) (by rw [hT]; exact hcell) (by rw [hv]; rfl) (by obtain ⟨k9, h9, -⟩ := Vm.findClass_spec hcl; exact ⟨k9, h9⟩) pre x suf hsplit
    (fun z hz => by
      rcases hpass z hz with h | ⟨hz0, nm, hl1, hn1⟩
      · exact Or.inl h
      · obtain ⟨c6, hc6, hcl6⟩ := Cond.classLink_spec hown hl1 e.platform hpl
        obtain ⟨a8, b8, h1, h2, h3⟩ := hn1
        cases Option.some.inj (h1.symm.trans hcl)
        cases Option.some.inj (h2.symm.trans hc6)
        exact Or.inr ⟨hz0, _, hcl6, h3⟩) hx (Or.inr ⟨h0, c4, hcl5, hasg⟩)
  obtain ⟨t, a1, b1⟩ := kk (T.setVm vm') hT X'
  exact ⟨t, st.trans a1, b1⟩
end Rows
section Ends
variable {p : Program} {l : Launch} {e : Env} {R : Room} {s : State} {m : MethodId} {args : Array Value} {below : List Frame} {meth : Method} {c : Code} {H : Heap} {locs : List Loc} {cells slots : Nat} {Q : State → Prop}
variable {mc ms : Nat} {free : Addr → Prop} {A0 A1 : Nat → Prop} {H0 : Heap} {a : Array Value} {ls : Array Slot} {st0 rest : List Value}
variable {Qc : Array Value → State → Outcome → State → Prop} {XC : String → State → State → Prop}
/-- what a body that may throw owes at its end -/
def vx_MQ (below : List Frame) (Qc : Array Value → State → Outcome → State → Prop) (XC : String → State → State → Prop) (a : Array Value) (s : State) (mc ms : Nat) (free : Addr → Prop) : State → Prop := fun t =>
  ∃ o, t.status = .running ∧ Ended t below o ∧ vx_Q Qc XC mc ms free a s o t
theorem vx_ret {g : JFrame} {mc ms : Nat} (k : W p l e R s m args below meth c H locs cells slots (MQ below Qc args s mc ms free) g) : W p l e R s m args below meth c H locs cells slots (vx_MQ below Qc XC args s mc ms free) g := by
  intro T hT X
  obtain ⟨t, a1, o, b1, b2, b3, b4⟩ := k T hT X
  exact ⟨t, a1, o, b1, b2, Or.inl ⟨b3, b4⟩⟩
/-- not caught here: it goes on to the caller -/
theorem vx_widen {g : JFrame} {q : Addr} {k n : Nat} (h1 : cells ≤ k) (h2 : slots ≤ n) (kk : vx_W p l e R s m args below meth c H locs k n Q g q) : vx_W p l e R s m args below meth c H locs cells slots Q g q := fun T hT X => kk T hT (stand_widen X h1 h2)
theorem vx_out {pc : Nat} {E : String} {ce : Cell} {q : Addr} {mc ms : Nat} (hout : ∀ x ∈ c.exceptionTable.toList, covers x pc = false) (hlocks : meth.locks = false) (hcell : H[q]? = some ce) (hv : ce.vm = .none) (hcl : s.vm.findClass E = some ce.cls)
    (hx : ∀ t : State, t.heap = H → s.vm.Alike t.vm → XC E s t) (hf : ∀ z ∈ locs, free z.base) (hc : cells ≤ mc) (hs : slots ≤ ms) :
    vx_W p l e R s m args below meth c H locs cells slots (vx_MQ below Qc XC args s mc ms free) (F0 m pc ls rest) q := by
  intro T hT X
  obtain ⟨st1, hrun, hend, hW, hsm⟩ := X.leaveThrown q (g := F0 m pc ls rest) rfl rfl rfl hout hlocks
  have hcell9 : (T.setFrames (.throwing q :: below)).heap[q]? = some ce := by
    show T.heap[q]? = some ce
    rw [hT]; exact hcell
  exact ⟨_, st1, .threw q, hrun, hend, Or.inr ⟨q, rfl, E, ce, locs, hx _ hT hW.alike, hcell9, hv, hcl, hW, hsm.mono hc hs, hf⟩⟩
theorem vx_frame {U : State} {k n : Nat} (h : s.sameButNew ({ U with vm := s.vm } : State) locs k n) : s.heap.size ≤ U.heap.size ∧ ∀ q : Nat, q < s.heap.size → (∀ z ∈ locs, z.base ≠ q) → U.heap[q]? = s.heap[q]? := by
  obtain ⟨-, h2, -, -, -, h6⟩ := h
  refine ⟨h2, fun q hq hz => ?_⟩
  obtain ⟨c9, e1, e2, e3, e4⟩ := h6 q _ (Array.getElem?_eq_getElem hq)
  have hs : c9.slots = (s.heap[q]).slots := Array.ext_getElem? fun i => e4 i fun hm => hz _ hm rfl
  have h9 : c9 = s.heap[q] := by
    rw [hs] at e2
    exact e2
  have e5 : U.heap[q]? = some c9 := e1
  rw [e5, h9, Array.getElem?_eq_getElem hq]
/-- the words of a throw but the four that speak of the heap -/
def vx_no (w : Cond) : Bool := decide (w ≠ .isRef (.static Bundle.tN "UNASSIGNED_STACK" Bundle.steD)) && decide (w ≠ .isRef (.static Bundle.tN "SUPPRESSED_SENTINEL" Bundle.listD)) && decide (w ≠ .laysStatic Bundle.tN "UNASSIGNED_STACK" Bundle.steD) && decide (w ≠ .laysStatic Bundle.tN "SUPPRESSED_SENTINEL" Bundle.listD)
def vx_at0 (own : String) (ic : Nat) (X : String) (names : List String) : List Cond := (Bundle.ownAtoms0 own ic X names).filter vx_no
def vx_atS (own : String) (ic : Nat) (X : String) (names : List String) : List Cond := (Bundle.ownAtoms own ic X names).filter vx_no
/-- a word that the tables alone decide, or a good one -/
def vx_ot (w : Cond) : Bool := w.onTables || goodWord w
theorem vx_ot_at {args a' : Array Value} {s U : State} {w : Cond} (hW : s.WarmedH U.vm) (hvm : s.vm = U.vm) (hg : vx_ot w = true) (h : w.before args s = true) : w.before a' U = true := by
  simp only [vx_ot, Bool.or_eq_true] at hg
  rcases hg with hg | hg
  · exact va_tabs hg hvm h
  · exact word_at hW (good_of_word hg) h
/-- a list's words: the good ones out of the method's own list, the others by premises of their own -/
theorem vx_hat {args : Array Value} {s : State} {L B : List Cond} (h1 : ∀ w ∈ L.filter goodWord, w.before args s = true) (h2 : ∀ w ∈ L.filter (fun w => !goodWord w), w ∈ B) (h3 : ∀ w ∈ B, w.before args s = true) : ∀ w ∈ L, w.before args s = true := by
  intro w hw
  by_cases g : goodWord w = true
  · exact h1 w (List.mem_filter.mpr ⟨hw, g⟩)
  · refine h3 w (h2 w (List.mem_filter.mpr ⟨hw, ?_⟩))
    show (!goodWord w) = true
    cases hgw : goodWord w
    · rfl
    · exact absurd hgw g
theorem vx_c {args : Array Value} {s : State} {w : Cond} {B : List Cond} (h : w.before args s = true) (t : ∀ w ∈ B, w.before args s = true) : ∀ w' ∈ w :: B, w'.before args s = true := fun w' h' => (List.mem_cons.mp h').elim (fun e => by rw [e]; exact h) (t w')
theorem vx_n {args : Array Value} {s : State} : ∀ w ∈ ([] : List Cond), w.before args s = true := fun _ h => nomatch h
theorem vx_own {args : Array Value} {s : State} {L : List Cond} (h1 : ∀ w ∈ L.filter vx_no, w.before args s = true)
    (hU : (Cond.isRef (.static Bundle.tN "UNASSIGNED_STACK" Bundle.steD)).before args s = true) (hN : (Cond.isRef (.static Bundle.tN "SUPPRESSED_SENTINEL" Bundle.listD)).before args s = true)
    (lU : (Cond.laysStatic Bundle.tN "UNASSIGNED_STACK" Bundle.steD).before args s = true) (lN : (Cond.laysStatic Bundle.tN "SUPPRESSED_SENTINEL" Bundle.listD).before args s = true) : ∀ w ∈ L, w.before args s = true := by
  intro w hw
  by_cases e1 : w = .isRef (.static Bundle.tN "UNASSIGNED_STACK" Bundle.steD)
  · rw [e1]; exact hU
  · by_cases e2 : w = .isRef (.static Bundle.tN "SUPPRESSED_SENTINEL" Bundle.listD)
    · rw [e2]; exact hN
    · by_cases e3 : w = .laysStatic Bundle.tN "UNASSIGNED_STACK" Bundle.steD
      · rw [e3]; exact lU
      · by_cases e4 : w = .laysStatic Bundle.tN "SUPPRESSED_SENTINEL" Bundle.listD
        · rw [e4]; exact lN
        · exact h1 w (List.mem_filter.mpr ⟨hw, by unfold vx_no; rw [decide_eq_true e1, decide_eq_true e2, decide_eq_true e3, decide_eq_true e4]; rfl⟩)
/-- where a static field lies, its class's statics cell in H -/
def vx_L (C n d : String) (A : Nat → Prop) (U : State) (H : Heap) : Prop := ∃ (c : ClassId) (k : Class) (i : Nat) (f : Field) (a : Nat) (cell : Cell), U.vm.findClass C = some c ∧ U.fieldFound? C n d = some (c, k, i, f) ∧ f.isStatic = true ∧ k.statics = some a ∧ H[a]? = some cell ∧ cell.vm.isStatics = true ∧ cell.cls = c ∧ f.slot < cell.slots.size ∧ k.staticTypes[f.slot]? = some f.type ∧ ¬ A a
theorem vx_L.moved {C n d : String} {A : Nat → Prop} {u U : State} {H : Heap} (hvm : u.vm.Alike U.vm) (h : vx_L C n d A u H) : vx_L C n d A U H := by
  obtain ⟨c, k, i, f, a, cell, h1, h2, h3, h4, h5, h6, h7, h8, h9, h10⟩ := h
  obtain ⟨k', hi', he⟩ := State.fieldFound?_setVm hvm h2
  exact ⟨c, k', i, f, a, cell, by rw [hvm.findClass]; exact h1, hi', h3, by rw [he]; exact h4, h5, h6, h7, h8, by rw [he]; exact h9, h10⟩
theorem vx_L.kept {C n d : String} {A : Nat → Prop} {U : State} {H H1 : Heap} (h : vx_L C n d A U H) (hq : ∀ a : Nat, a < H.size → ¬ A a → H1[a]? = H[a]?) : vx_L C n d A U H1 := by
  obtain ⟨c, k, i, f, a, cell, h1, h2, h3, h4, h5, h6, h7, h8, h9, h10⟩ := h
  exact ⟨c, k, i, f, a, cell, h1, h2, h3, h4, by rw [hq a (Array.getElem?_eq_some_iff.mp h5).1 h10]; exact h5, h6, h7, h8, h9, h10⟩
theorem vx_L.narrow {C n d : String} {A B : Nat → Prop} {U : State} {H : Heap} (h : vx_L C n d A U H) (hAB : ∀ q, B q → A q) : vx_L C n d B U H := by
  obtain ⟨c, k, i, f, a, cell, h1, h2, h3, h4, h5, h6, h7, h8, h9, h10⟩ := h
  exact ⟨c, k, i, f, a, cell, h1, h2, h3, h4, h5, h6, h7, h8, h9, fun z => h10 (hAB _ z)⟩
theorem vx_L.word {C n d : String} {A : Nat → Prop} {s : State} {args : Array Value} (h : vx_L C n d A s s.heap) : (Cond.laysStatic C n d).before args s = true := by
  obtain ⟨c, k, i, f, a, cell, h1, h2, h3, h4, h5, h6, h7, h8, h9, -⟩ := h
  show (Cond.laysStatic C n d).holds args s none s [] = true
  exact Cond.laysStatic_of h1 h2 h3 h4 h5 h6 h7 h8 h9
/-- .. and what it holds: null or some reference -/
def vx_Zq (C n d : String) (A : Nat → Prop) (U : State) (H : Heap) : Prop := va_Zq C n d A U H ∧ vx_L C n d A U H
theorem vx_Zq.moved {C n d : String} {A : Nat → Prop} {u U : State} {H : Heap} (hvm : u.vm.Alike U.vm) (h : vx_Zq C n d A u H) : vx_Zq C n d A U H := ⟨va_Zq.moved hvm h.1, vx_L.moved hvm h.2⟩
theorem vx_Zq.kept {C n d : String} {A : Nat → Prop} {U : State} {H H1 : Heap} (h : vx_Zq C n d A U H) (hq : ∀ a : Nat, a < H.size → ¬ A a → H1[a]? = H[a]?) : vx_Zq C n d A U H1 := ⟨va_Zq.kept h.1 hq, vx_L.kept h.2 hq⟩
theorem vx_Zq.narrow {C n d : String} {A B : Nat → Prop} {U : State} {H : Heap} (h : vx_Zq C n d A U H) (hAB : ∀ q, B q → A q) : vx_Zq C n d B U H := ⟨va_Zq.narrow h.1 hAB, vx_L.narrow h.2 hAB⟩
theorem vx_Zqof {args : Array Value} {s : State} {C n d : String} {A : Nat → Prop} (hl : (Cond.laysStatic C n d).before args s = true) (hini : (Cond.initialized C).before args s = true) (h : (Cond.isRef (.static C n d)).before args s = true) (hA : ∀ a : Nat, a < s.heap.size → ¬ A a) : vx_Zq C n d A s s.heap := by
  refine ⟨va_Zqof hl hini h hA, ?_⟩
  obtain ⟨c, k, i, f, a, cell, h1, h2, h3, h4, h5, h6, h7, h8, h9⟩ := Cond.laysStatic_spec hl
  exact ⟨c, k, i, f, a, cell, h1, h2, h3, h4, h5, h6, h7, h8, h9, hA a (Array.getElem?_eq_some_iff.mp h5).1⟩
theorem vx_isRef {C n d : String} {v : Value} {A : Nat → Prop} {s : State} {args : Array Value} (h : va_Z C n d v A s s.heap) (hv : v.isRef = true) : (Cond.isRef (.static C n d)).before args s = true := by
  obtain ⟨cf, kf, fi, f, a, cell, h1, h2, h3, h4, h5, h6, h7, -⟩ := h
  have he : (Term.static C n d).eval args s none [] s = some v := by
    simp [Term.eval, State.fieldNamed?, h1, h2, h4, h5, h6, h7]
  simp only [Cond.before, Cond.holds, Cond.value, he]
  cases v <;> simp_all [Value.isRef]
theorem vx_isRefq {C n d : String} {A : Nat → Prop} {s : State} {args : Array Value} (h : va_Zq C n d A s s.heap) : (Cond.isRef (.static C n d)).before args s = true := by
  rcases h with h | ⟨t, h⟩
  · exact vx_isRef h rfl
  · exact vx_isRef h rfl
/-- the same frame, seen from here: as if the method were called anew in this heap -/
theorem vx_rebase {T : State} (X : Stand p l e R s m args below meth c T locs cells slots) {R' : Room} (hf : R'.frames ≤ R.frames) (hl : R'.locals ≤ R.locals) (hc : cells + R'.cells ≤ R.cells) (hs : slots + R'.slots ≤ R.slots) :
    Stand p l e R' ((T.setVm s.vm).setFrames (.invoking m args :: below)) m args below meth c T [] 0 0 := by
  have htop : (T.setVm s.vm).topJava?.isSome := X.here.top
  have hF : ((T.setVm s.vm).setFrames (.invoking m args :: below)).frames = .invoking m args :: below := State.frames_setFrames _ (State.cur_lt_of_top htop)
  obtain ⟨g₀, hg0⟩ := Option.isSome_iff_exists.mp htop
  obtain ⟨r, hr⟩ := State.topJava?_eq_some.mp hg0
  have hl9 : e.platform.stackLimits (T.setVm s.vm).me = e.platform.stackLimits s.me := X.limits
  have hb9 : (T.setVm s.vm).me.stackBytes = s.me.stackBytes := X.bytes
  refine ⟨X.admits, X.cas, X.clock, hF, ?_, X.hears, X.method, X.code, X.here, X.tail, X.warmed, ?_, ?_, ?_⟩
  · have h := X.room
    have hU : ((T.setVm s.vm).setFrames (.invoking m args :: below)).localsInUse = s.localsInUse := by
      rw [State.localsInUse_invoking hF (meth := meth) (c := c) X.method X.code, State.localsInUse_invoking X.frames X.method X.code]
    simp only [State.hasRoom, Bool.and_eq_true, decide_eq_true_eq] at h ⊢
    obtain ⟨⟨⟨⟨h1, h2, h3, h4, h5, h6⟩, h7⟩, h8⟩, h9⟩ := h
    rw [X.frames, List.length_cons] at h2 h3
    have q1 := X.heapSize
    have q2 := X.used
    simp only [hF, hU, List.length_cons, State.stackLimits_setFrames, State.stackBytes_setFrames, hl9, hb9]
    refine ⟨⟨⟨⟨by omega, by omega, by omega, by omega, by omega, h6⟩, ?_⟩, ?_⟩, X.book⟩
    · show T.heap.size + R'.cells ≤ e.platform.maxCells
      omega
    · show T.slotsUsed + R'.slots ≤ e.platform.maxSlots
      omega
  · rw [State.stackLimits_setFrames]; rfl
  · rw [State.stackBytes_setFrames]; rfl
  · refine ⟨?_, Nat.le_refl _, Nat.le_refl _, ?_, ?_, fun a c9 h9 => ⟨c9, h9, rfl, rfl, fun _ _ => rfl⟩⟩
    · obtain ⟨t, ht, -⟩ := State.frames_cons hr
      show T.setVm s.vm = { ((T.setVm s.vm).setFrames (.invoking m args :: below)).setFrames (T.setVm s.vm).frames with heap := T.heap, slotsUsed := T.slotsUsed }
      rw [State.setFrames_setFrames, State.setFrames_self ht]
      rfl
    · show T.slotsUsed = T.slotsUsed + ((T.heap.toList.drop T.heap.size).map (·.slots.size)).sum
      rw [List.drop_eq_nil_of_le (Nat.le_of_eq Array.length_toList)]
      rfl
    · show ((T.heap.toList.drop T.heap.size).map (·.slots.size)).sum ≤ 0
      rw [List.drop_eq_nil_of_le (Nat.le_of_eq Array.length_toList)]
      exact Nat.le_refl _
/-- 'throw new E()': new; dup; invokespecial; athrow -/
theorem vx_throw0 {cc : ByteArray} {pc : Nat} (hexec : p.tables.exec = Jvm.exec) (hb : c.code = cc) (hl : l.stackTraces = false) {own cls : String} {names : List String} {ik ic mc ms : Nat} {A : Nat → Prop}
    (hown : s.vm.findClass own = some m.cls) (hcls : Bundle.fit cls = true) (hnames : ∀ n ∈ names, Bundle.fit n = true)
    (hk : (Cond.classLink own ik cls).before args s = true) (hini : (Cond.initialized cls).before args s = true) (hat : ∀ w ∈ vx_at0 own ic cls names, w.before args s = true)
    (hgood : ∀ w ∈ Cond.classLink own ik cls :: Cond.initialized cls :: vx_at0 own ic cls names, vx_ot w = true)
    (hU : vx_Zq Bundle.tN "UNASSIGNED_STACK" Bundle.steD A s s.heap) (hN : vx_Zq Bundle.tN "SUPPRESSED_SENTINEL" Bundle.listD A s s.heap) (hS : va_S A s.heap H locs) (hsize : ls.size = c.maxLocals)
    (d0 : decode cc pc = .ok (.new ik, 3)) (d3 : decode cc (pc + 3) = .ok (.dup, 1)) (d4 : decode cc (pc + 4) = .ok (.invokespecial ic, 3)) (d7 : decode cc (pc + 7) = .ok (.athrow, 1))
    (hout : ∀ x ∈ c.exceptionTable.toList, covers x (pc + 7) = false)
    (hRframes : names.length + 3 < R.frames) (hRlocals : (rest.map fun v => v.category).sum + (13 * (names.length + 1) + 42) ≤ R.locals) (hRcells : cells + 1 ≤ R.cells) (hRslots : slots + 6 ≤ R.slots) (hlocks : meth.locks = false)
    (hx : ∀ t : State, s.vm.Alike t.vm → H.size ≤ t.heap.size → (∀ q : Nat, q < H.size → t.heap[q]? = H[q]?) → XC cls s t)
    (hf : ∀ z ∈ locs, free z.base) (hc : cells + 1 ≤ mc) (hs : slots + 6 ≤ ms) :
    W p l e R s m args below meth c H locs cells slots (vx_MQ below Qc XC args s mc ms free) (F0 m pc ls rest) := by
  intro T hT X
  have htr : e.platform.stackTraces = false := (show e.platform.stackTraces = l.stackTraces by rw [X.admits.platform]).trans hl
  have Y := vx_rebase X (R' := { frames := R.frames, locals := R.locals, cells := 1, slots := 6 }) (Nat.le_refl _) (Nat.le_refl _) hRcells hRslots
  obtain ⟨s', hA⟩ : ∃ z, z = (T.setVm s.vm).setFrames (.invoking m args :: below) := ⟨_, rfl⟩
  rw [← hA] at Y
  have hvm : s'.vm = s.vm := by rw [hA]; rfl
  have hhp : s'.heap = H := by rw [hA]; exact hT
  have hW0 : s.WarmedH s'.vm := by rw [hvm]; exact State.WarmedH.refl s
  have hat' : ∀ w ∈ vx_at0 own ic cls names, w.before args s' = true := fun w hw => vx_ot_at hW0 hvm.symm (hgood w (List.mem_cons_of_mem _ (List.mem_cons_of_mem _ hw))) (hat w hw)
  have hk' : (Cond.classLink own ik cls).before args s' = true := vx_ot_at hW0 hvm.symm (hgood _ List.mem_cons_self) hk
  have hini' : (Cond.initialized cls).before args s' = true := vx_ot_at hW0 hvm.symm (hgood _ (List.mem_cons_of_mem _ List.mem_cons_self)) hini
  have hU' : vx_Zq Bundle.tN "UNASSIGNED_STACK" Bundle.steD A s' s'.heap := by rw [hhp]; exact vx_Zq.moved hW0.alike (hU.kept hS.2.1)
  have hN' : vx_Zq Bundle.tN "SUPPRESSED_SENTINEL" Bundle.listD A s' s'.heap := by rw [hhp]; exact vx_Zq.moved hW0.alike (hN.kept hS.2.1)
  have h : ∀ w ∈ Bundle.ownAtoms0 own ic cls names, w.before args s' = true := vx_own hat' (vx_isRefq hU'.1) (vx_isRefq hN'.1) hU'.2.word hN'.2.word
  have hown' : s'.vm.findClass own = some m.cls := by rw [hvm]; exact hown
  have hins : (Cond.instantiable cls 6).before args s' = true := h _ (by simp [Bundle.ownAtoms0])
  obtain ⟨vm₁, cX, kX, hfX, hkX, -, -, X₁, st1⟩ := Y.newCold hexec (own := own) (C := cls) (index := ik) (n := 6) hown' hk' hins hini'
    (g := F0 m pc ls rest) rfl (by rw [hb]; exact d0) (Nat.le_refl _) (Nat.le_refl _)
  generalize hT1 : (T.setVm vm₁).pushCell { cls := cX, slots := kX.instanceTypes.map defaultValue, vm := .none } = T1 at X₁ st1
  have hcat : (Value.ref T.heap.size).category = 1 := rfl
  have hcellA : T1.heap[T.heap.size]? = some (freshCell cX kX) := by rw [← hT1]; exact State.heap_pushCell_size _ _
  have d3' : decode c.code (pc + 3) = .ok (.dup, 1) := by rw [hb]; exact d3
  obtain ⟨U, hsteps, hrun, hend, hW, hsame, ce, hce, hO⟩ := X₁.ctorThrow0 hexec htr (own := own) (cls := cls) (names := names) (ic := ic) hown' hcls hnames h (fun x hx => nomatch hx) hfX hkX hcellA (by rw [hhp, hT]; exact Nat.le_refl _)
    (g := { method := m, pc := pc + 4, locals := ls, stack := .ref T.heap.size :: .ref T.heap.size :: rest, locked := none }) rfl hsize rfl rfl (rest := rest) rfl
    (by rw [hb]; exact d4) (by rw [hb]; exact d7) hout hRframes (by simp only [List.map_cons, List.sum_cons, hcat]; omega) hlocks
  obtain ⟨f1, f2⟩ := vx_frame hsame
  rw [hhp] at f1 f2
  have hWs : s.WarmedH U.vm := State.WarmedH.trans hW0 hW
  have hcl : s.vm.findClass cls = some ce.cls := by
    have h9 := hO.cls
    rw [hvm] at h9
    exact h9
  have hall : s.sameButNew ({ U with vm := s.vm } : State) locs mc ms := by
    subst hA
    obtain ⟨e1, e2⟩ := hsame
    rw [State.setFrames_setFrames] at e1
    have h2 : (T.setVm s.vm).sameButNew ({ U with vm := s.vm } : State) [] (0 + 1) (0 + 6) := ⟨e1, e2⟩
    have h3 := X.same.trans h2
    rw [List.append_nil] at h3
    exact h3.mono hc hs
  refine ⟨U, ?_, .threw T.heap.size, hrun, hend, Or.inr ⟨T.heap.size, rfl, cls, ce, locs, hx U hWs.alike f1 (fun q hq => f2 q hq (fun z hz => nomatch hz)), hce, hO.vm, hcl, hWs, hall, hf⟩⟩
  refine st1 _ ?_
  show Steps p.tables e below (T1.setTop { method := m, pc := pc + 3, locals := ls, stack := .ref T.heap.size :: rest, locked := none }) _
  jvm_step X₁.here [X₁.here.top, hexec, d3', Value.category]
  exact hsteps
/-- 'throw new E("text")': new; dup; ldc; invokespecial; athrow -/
theorem vx_throwS {cc : ByteArray} {pc : Nat} (hexec : p.tables.exec = Jvm.exec) (hb : c.code = cc) (hl : l.stackTraces = false) {own cls text : String} {names : List String} {ik is ic mc ms sa : Nat} {A : Nat → Prop}
    (hown : s.vm.findClass own = some m.cls) (hcls : Bundle.fit cls = true) (hnames : ∀ n ∈ names, Bundle.fit n = true)
    (hk : (Cond.classLink own ik cls).before args s = true) (hini : (Cond.initialized cls).before args s = true) (hstr : vk_R own is text sa s) (hat : ∀ w ∈ vx_atS own ic cls names, w.before args s = true)
    (hgood : ∀ w ∈ Cond.classLink own ik cls :: Cond.initialized cls :: vx_atS own ic cls names, vx_ot w = true)
    (hU : vx_Zq Bundle.tN "UNASSIGNED_STACK" Bundle.steD A s s.heap) (hN : vx_Zq Bundle.tN "SUPPRESSED_SENTINEL" Bundle.listD A s s.heap) (hS : va_S A s.heap H locs) (hsize : ls.size = c.maxLocals)
    (d0 : decode cc pc = .ok (.new ik, 3)) (d3 : decode cc (pc + 3) = .ok (.dup, 1)) (d4 : decode cc (pc + 4) = .ok (.ldc is, 2)) (d6 : decode cc (pc + 6) = .ok (.invokespecial ic, 3)) (d9 : decode cc (pc + 9) = .ok (.athrow, 1))
    (hout : ∀ x ∈ c.exceptionTable.toList, covers x (pc + 9) = false)
    (hRframes : names.length + 3 < R.frames) (hRlocals : (rest.map fun v => v.category).sum + (13 * (names.length + 1) + 43) ≤ R.locals) (hRcells : cells + 1 ≤ R.cells) (hRslots : slots + 6 ≤ R.slots) (hlocks : meth.locks = false)
    (hx : ∀ t : State, s.vm.Alike t.vm → H.size ≤ t.heap.size → (∀ q : Nat, q < H.size → t.heap[q]? = H[q]?) → XC cls s t)
    (hf : ∀ z ∈ locs, free z.base) (hc : cells + 1 ≤ mc) (hs : slots + 6 ≤ ms) :
    W p l e R s m args below meth c H locs cells slots (vx_MQ below Qc XC args s mc ms free) (F0 m pc ls rest) := by
  intro T hT X
  have htr : e.platform.stackTraces = false := (show e.platform.stackTraces = l.stackTraces by rw [X.admits.platform]).trans hl
  have Y := vx_rebase X (R' := { frames := R.frames, locals := R.locals, cells := 1, slots := 6 }) (Nat.le_refl _) (Nat.le_refl _) hRcells hRslots
  obtain ⟨s', hA⟩ : ∃ z, z = (T.setVm s.vm).setFrames (.invoking m args :: below) := ⟨_, rfl⟩
  rw [← hA] at Y
  have hvm : s'.vm = s.vm := by rw [hA]; rfl
  have hhp : s'.heap = H := by rw [hA]; exact hT
  have hW0 : s.WarmedH s'.vm := by rw [hvm]; exact State.WarmedH.refl s
  have hat' : ∀ w ∈ vx_atS own ic cls names, w.before args s' = true := fun w hw => vx_ot_at hW0 hvm.symm (hgood w (List.mem_cons_of_mem _ (List.mem_cons_of_mem _ hw))) (hat w hw)
  have hk' : (Cond.classLink own ik cls).before args s' = true := vx_ot_at hW0 hvm.symm (hgood _ List.mem_cons_self) hk
  have hini' : (Cond.initialized cls).before args s' = true := vx_ot_at hW0 hvm.symm (hgood _ (List.mem_cons_of_mem _ List.mem_cons_self)) hini
  have hU' : vx_Zq Bundle.tN "UNASSIGNED_STACK" Bundle.steD A s' s'.heap := by rw [hhp]; exact vx_Zq.moved hW0.alike (hU.kept hS.2.1)
  have hN' : vx_Zq Bundle.tN "SUPPRESSED_SENTINEL" Bundle.listD A s' s'.heap := by rw [hhp]; exact vx_Zq.moved hW0.alike (hN.kept hS.2.1)
  have h : ∀ w ∈ Bundle.ownAtoms own ic cls names, w.before args s' = true := vx_own hat' (vx_isRefq hU'.1) (vx_isRefq hN'.1) hU'.2.word hN'.2.word
  have hown' : s'.vm.findClass own = some m.cls := by rw [hvm]; exact hown
  have hins : (Cond.instantiable cls 6).before args s' = true := h _ (by simp [Bundle.ownAtoms])
  obtain ⟨vm₁, cX, kX, hfX, hkX, -, -, X₁, st1⟩ := Y.newCold hexec (own := own) (C := cls) (index := ik) (n := 6) hown' hk' hins hini'
    (g := F0 m pc ls rest) rfl (by rw [hb]; exact d0) (Nat.le_refl _) (Nat.le_refl _)
  generalize hT1 : (T.setVm vm₁).pushCell { cls := cX, slots := kX.instanceTypes.map defaultValue, vm := .none } = T1 at X₁ st1
  have hcat : (Value.ref T.heap.size).category = 1 := rfl
  have hcellA : T1.heap[T.heap.size]? = some (freshCell cX kX) := by rw [← hT1]; exact State.heap_pushCell_size _ _
  have d3' : decode c.code (pc + 3) = .ok (.dup, 1) := by rw [hb]; exact d3
  have d4' : decode c.code (pc + 4) = .ok (.ldc is, 2) := by rw [hb]; exact d4
  have hstr' : vk_R own is text sa s' := vk_R.warm hW0 hstr
  obtain ⟨U, hsteps, hrun, hend, hW, hsame, ce, hce, hO⟩ := X₁.ctorThrowS hexec htr (own := own) (cls := cls) (names := names) (ic := ic) hown' hcls hnames h (fun x hx => nomatch hx) hfX hkX hcellA (by rw [hhp, hT]; exact Nat.le_refl _) (msg := .ref sa) rfl
    (g := { method := m, pc := pc + 6, locals := ls, stack := .ref sa :: .ref T.heap.size :: .ref T.heap.size :: rest, locked := none }) rfl hsize rfl rfl (rest := rest) rfl
    (by rw [hb]; exact d6) (by rw [hb]; exact d9) hout hRframes (by simp only [List.map_cons, List.sum_cons, hcat]; omega) hlocks
  obtain ⟨f1, f2⟩ := vx_frame hsame
  rw [hhp] at f1 f2
  have hWs : s.WarmedH U.vm := State.WarmedH.trans hW0 hW
  have hcl : s.vm.findClass cls = some ce.cls := by
    have h9 := hO.cls
    rw [hvm] at h9
    exact h9
  have hall : s.sameButNew ({ U with vm := s.vm } : State) locs mc ms := by
    subst hA
    obtain ⟨e1, e2⟩ := hsame
    rw [State.setFrames_setFrames] at e1
    have h2 : (T.setVm s.vm).sameButNew ({ U with vm := s.vm } : State) [] (0 + 1) (0 + 6) := ⟨e1, e2⟩
    have h3 := X.same.trans h2
    rw [List.append_nil] at h3
    exact h3.mono hc hs
  refine ⟨U, ?_, .threw T.heap.size, hrun, hend, Or.inr ⟨T.heap.size, rfl, cls, ce, locs, hx U hWs.alike f1 (fun q hq => f2 q hq (fun z hz => nomatch hz)), hce, hO.vm, hcl, hWs, hall, hf⟩⟩
  refine st1 _ ?_
  show Steps p.tables e below (T1.setTop { method := m, pc := pc + 3, locals := ls, stack := .ref T.heap.size :: rest, locked := none }) _
  jvm_step X₁.here [X₁.here.top, hexec, d3', Value.category]
  exact X₁.ldcString hexec (own := own) (text := text) (index := is) (a := sa) hown' hstr'.1 hstr'.2
    (g := { method := m, pc := pc + 4, locals := ls, stack := .ref T.heap.size :: .ref T.heap.size :: rest, locked := none }) rfl d4' _ hsteps
/-- 'throw new E("text")', the text by a wide index -/
theorem vx_throwSW {cc : ByteArray} {pc : Nat} (hexec : p.tables.exec = Jvm.exec) (hb : c.code = cc) (hl : l.stackTraces = false) {own cls text : String} {names : List String} {ik is ic mc ms sa : Nat} {A : Nat → Prop}
    (hown : s.vm.findClass own = some m.cls) (hcls : Bundle.fit cls = true) (hnames : ∀ n ∈ names, Bundle.fit n = true)
    (hk : (Cond.classLink own ik cls).before args s = true) (hini : (Cond.initialized cls).before args s = true) (hstr : vk_R own is text sa s) (hat : ∀ w ∈ vx_atS own ic cls names, w.before args s = true)
    (hgood : ∀ w ∈ Cond.classLink own ik cls :: Cond.initialized cls :: vx_atS own ic cls names, vx_ot w = true)
    (hU : vx_Zq Bundle.tN "UNASSIGNED_STACK" Bundle.steD A s s.heap) (hN : vx_Zq Bundle.tN "SUPPRESSED_SENTINEL" Bundle.listD A s s.heap) (hS : va_S A s.heap H locs) (hsize : ls.size = c.maxLocals)
    (d0 : decode cc pc = .ok (.new ik, 3)) (d3 : decode cc (pc + 3) = .ok (.dup, 1)) (d4 : decode cc (pc + 4) = .ok (.ldc_w is, 3)) (d7 : decode cc (pc + 7) = .ok (.invokespecial ic, 3)) (d10 : decode cc (pc + 10) = .ok (.athrow, 1))
    (hout : ∀ x ∈ c.exceptionTable.toList, covers x (pc + 10) = false)
    (hRframes : names.length + 3 < R.frames) (hRlocals : (rest.map fun v => v.category).sum + (13 * (names.length + 1) + 43) ≤ R.locals) (hRcells : cells + 1 ≤ R.cells) (hRslots : slots + 6 ≤ R.slots) (hlocks : meth.locks = false)
    (hx : ∀ t : State, s.vm.Alike t.vm → H.size ≤ t.heap.size → (∀ q : Nat, q < H.size → t.heap[q]? = H[q]?) → XC cls s t)
    (hf : ∀ z ∈ locs, free z.base) (hc : cells + 1 ≤ mc) (hs : slots + 6 ≤ ms) :
    W p l e R s m args below meth c H locs cells slots (vx_MQ below Qc XC args s mc ms free) (F0 m pc ls rest) := by
  intro T hT X
  have htr : e.platform.stackTraces = false := (show e.platform.stackTraces = l.stackTraces by rw [X.admits.platform]).trans hl
  have Y := vx_rebase X (R' := { frames := R.frames, locals := R.locals, cells := 1, slots := 6 }) (Nat.le_refl _) (Nat.le_refl _) hRcells hRslots
  obtain ⟨s', hA⟩ : ∃ z, z = (T.setVm s.vm).setFrames (.invoking m args :: below) := ⟨_, rfl⟩
  rw [← hA] at Y
  have hvm : s'.vm = s.vm := by rw [hA]; rfl
  have hhp : s'.heap = H := by rw [hA]; exact hT
  have hW0 : s.WarmedH s'.vm := by rw [hvm]; exact State.WarmedH.refl s
  have hat' : ∀ w ∈ vx_atS own ic cls names, w.before args s' = true := fun w hw => vx_ot_at hW0 hvm.symm (hgood w (List.mem_cons_of_mem _ (List.mem_cons_of_mem _ hw))) (hat w hw)
  have hk' : (Cond.classLink own ik cls).before args s' = true := vx_ot_at hW0 hvm.symm (hgood _ List.mem_cons_self) hk
  have hini' : (Cond.initialized cls).before args s' = true := vx_ot_at hW0 hvm.symm (hgood _ (List.mem_cons_of_mem _ List.mem_cons_self)) hini
  have hU' : vx_Zq Bundle.tN "UNASSIGNED_STACK" Bundle.steD A s' s'.heap := by rw [hhp]; exact vx_Zq.moved hW0.alike (hU.kept hS.2.1)
  have hN' : vx_Zq Bundle.tN "SUPPRESSED_SENTINEL" Bundle.listD A s' s'.heap := by rw [hhp]; exact vx_Zq.moved hW0.alike (hN.kept hS.2.1)
  have h : ∀ w ∈ Bundle.ownAtoms own ic cls names, w.before args s' = true := vx_own hat' (vx_isRefq hU'.1) (vx_isRefq hN'.1) hU'.2.word hN'.2.word
  have hown' : s'.vm.findClass own = some m.cls := by rw [hvm]; exact hown
  have hins : (Cond.instantiable cls 6).before args s' = true := h _ (by simp [Bundle.ownAtoms])
  obtain ⟨vm₁, cX, kX, hfX, hkX, -, -, X₁, st1⟩ := Y.newCold hexec (own := own) (C := cls) (index := ik) (n := 6) hown' hk' hins hini'
    (g := F0 m pc ls rest) rfl (by rw [hb]; exact d0) (Nat.le_refl _) (Nat.le_refl _)
  generalize hT1 : (T.setVm vm₁).pushCell { cls := cX, slots := kX.instanceTypes.map defaultValue, vm := .none } = T1 at X₁ st1
  have hcat : (Value.ref T.heap.size).category = 1 := rfl
  have hcellA : T1.heap[T.heap.size]? = some (freshCell cX kX) := by rw [← hT1]; exact State.heap_pushCell_size _ _
  have d3' : decode c.code (pc + 3) = .ok (.dup, 1) := by rw [hb]; exact d3
  have d4' : decode c.code (pc + 4) = .ok (.ldc_w is, 3) := by rw [hb]; exact d4
  have hstr' : vk_R own is text sa s' := vk_R.warm hW0 hstr
  obtain ⟨U, hsteps, hrun, hend, hW, hsame, ce, hce, hO⟩ := X₁.ctorThrowS hexec htr (own := own) (cls := cls) (names := names) (ic := ic) hown' hcls hnames h (fun x hx => nomatch hx) hfX hkX hcellA (by rw [hhp, hT]; exact Nat.le_refl _) (msg := .ref sa) rfl
    (g := { method := m, pc := pc + 7, locals := ls, stack := .ref sa :: .ref T.heap.size :: .ref T.heap.size :: rest, locked := none }) rfl hsize rfl rfl (rest := rest) rfl
    (by rw [hb]; exact d7) (by rw [hb]; exact d10) hout hRframes (by simp only [List.map_cons, List.sum_cons, hcat]; omega) hlocks
  obtain ⟨f1, f2⟩ := vx_frame hsame
  rw [hhp] at f1 f2
  have hWs : s.WarmedH U.vm := State.WarmedH.trans hW0 hW
  have hcl : s.vm.findClass cls = some ce.cls := by
    have h9 := hO.cls
    rw [hvm] at h9
    exact h9
  have hall : s.sameButNew ({ U with vm := s.vm } : State) locs mc ms := by
    subst hA
    obtain ⟨e1, e2⟩ := hsame
    rw [State.setFrames_setFrames] at e1
    have h2 : (T.setVm s.vm).sameButNew ({ U with vm := s.vm } : State) [] (0 + 1) (0 + 6) := ⟨e1, e2⟩
    have h3 := X.same.trans h2
    rw [List.append_nil] at h3
    exact h3.mono hc hs
  refine ⟨U, ?_, .threw T.heap.size, hrun, hend, Or.inr ⟨T.heap.size, rfl, cls, ce, locs, hx U hWs.alike f1 (fun q hq => f2 q hq (fun z hz => nomatch hz)), hce, hO.vm, hcl, hWs, hall, hf⟩⟩
  refine st1 _ ?_
  show Steps p.tables e below (T1.setTop { method := m, pc := pc + 3, locals := ls, stack := .ref T.heap.size :: rest, locked := none }) _
  jvm_step X₁.here [X₁.here.top, hexec, d3', Value.category]
  exact X₁.ldcStringW hexec (own := own) (text := text) (index := is) (a := sa) hown' hstr'.1 hstr'.2
    (g := { method := m, pc := pc + 4, locals := ls, stack := .ref T.heap.size :: .ref T.heap.size :: rest, locked := none }) rfl d4' _ hsteps
end Ends
section Bodies
variable {l : Launch}
theorem vx_ofW {y : MethodName} {ws ws' : List Cond} {rm : Room} {Pc : Array Value → State → Prop} {Qc : Array Value → State → Outcome → State → Prop} {XC : String → State → State → Prop} {mc ms : Nat} {free : Addr → Prop} {cc : ByteArray} {maxL : Nat} {ret : Option FieldType}
    (hy : plainName y.cls = true) (hw : ws = Cond.code y cc maxL ret :: ws')
    (body : ∀ p e s m args below meth c s₁, BodyLoose p l y (headSpec ws rm) cc maxL ret e s m args below meth c s₁ → c.maxLocals = maxL → (∀ x ∈ c.exceptionTable.toList, False) → Pc args s →
      W p l e (headSpec ws rm).room s m args below meth c s.heap [] 0 0 (vx_MQ below Qc XC args s mc ms free) (entryFrame m args maxL)) : vx_Met l y ws rm Pc Qc XC mc ms free := by
  refine MetFree.of_bodyS (code := cc) (maxLocals := maxL) (ret := ret) hy ?_ ?_
  · intro args s m h hn
    obtain ⟨meth, c, h1, h2, h3, h4, h5, h6, -, -⟩ := Cond.code_spec hn (atoms_spec (ws := ws) h _ (by rw [hw]; exact List.mem_cons_self))
    exact ⟨meth, c, h1, h2, h3, h4, h5, h6⟩
  · intro p e s m args below meth c s₁ B hml hP _
    have hh0 : s₁.heap = s.heap := by rw [B.state]; rfl
    have ht : ∀ x ∈ c.exceptionTable.toList, False := by
      obtain ⟨meth9, c9, h1, h2, -, -, -, -, h7, -⟩ := Cond.code_spec B.named (atoms_spec (ws := ws) B.pre _ (by rw [hw]; exact List.mem_cons_self))
      cases Option.some.inj (h1.symm.trans B.method)
      cases Option.some.inj (h2.symm.trans (Stand.of_body B).code)
      intro x hx
      rw [Array.isEmpty_iff.mp h7] at hx
      cases hx
    obtain ⟨t, a1, o, b1, b2, b3⟩ := body p e s m args below meth c s₁ B hml ht hP s₁ hh0 (Stand.of_body B)
    exact ⟨t, o, a1, b1, b2, b3⟩
/-- the table of a body with handlers -/
theorem vx_table {p : Program} {x y : MethodName} {S : Spec} {cc bytes : ByteArray} {maxL maxL' : Nat} {ret ret' : Option FieldType} {e : Env} {s s₁ : State} {m : MethodId} {args : Array Value} {below : List Frame} {meth : Method} {c : Code} {hh : List (Nat × Nat × Nat × Nat)}
    (B : BodyLoose p l y S cc maxL ret e s m args below meth c s₁) (h : (Cond.codeWith y bytes maxL' ret' hh).before args s = true) : c.exceptionTable.toList = tableOf hh := by
  obtain ⟨m9, meth9, c9, hn9, h1, h2, -, -, h6, -⟩ := Cond.codeWith_spec h
  cases Option.some.inj (hn9.symm.trans B.named)
  cases Option.some.inj (h1.symm.trans B.method)
  cases Option.some.inj (h2.symm.trans (Stand.of_body B).code)
  rw [← h6, table_eq]
end Bodies
end VXA
/-! ===== END ===== -/
/-! ===== BEGIN a static call of a method with an exception table ===== -/
section VXS
variable {p : Program} {l : Launch} {e : Env} {R : Room} {s : State} {m : MethodId} {args : Array Value} {below : List Frame} {meth : Method} {c : Code} {T : State} {H : Heap} {locs : List Loc} {cells slots : Nat}
abbrev vx_CSW (R : Room) (s : State) (args : Array Value) (own : String) (index : Nat) (y : MethodName) (bytes : ByteArray) (maxL : Nat) (ret : Option FieldType) (hh : List (Nat × Nat × Nat × Nat)) (ws : List Cond) (rm : Room) (mc ms n : Nat) : Prop :=
  (rm.cells = mc ∧ rm.slots = ms ∧ rm.frames + 1 ≤ R.frames ∧ 8 + (maxL + 11) + rm.locals ≤ R.locals ∧ (∀ w ∈ ws, ∀ (a' : Array Value) (U : State), s.WarmedH U.vm → w.before a' U = true) ∧ Cond.codeWith y bytes maxL ret hh ∈ ws) ∧
  (Cond.codeWith y bytes maxL ret hh).before args s = true ∧ (Cond.initialized y.cls).before args s = true ∧ (y.cls ≠ "java/lang/invoke/MethodHandle" ∧ y.cls ≠ "java/lang/invoke/VarHandle") ∧
  (∀ sig, parseMethodDescriptor y.desc = some sig → n = sig.parameters.length) ∧ (Cond.methodLink own index y).before args s = true ∧ (Cond.static y).before args s = true
theorem vx_cwSW {own : String} {index maxL mc ms : Nat} {y : MethodName} {bytes : ByteArray} {ret : Option FieldType} {hh : List (Nat × Nat × Nat × Nat)} {Ts ws ws' : List Cond} {rm : Room} (n : Nat) (ht : ∀ w ∈ Ts, w.before args s = true) (hT : GoodIn Ts (va_wsS own index y ws)) (hw : ws = Cond.codeWith y bytes maxL ret hh :: ws') (hrc : rm.cells = mc) (hrs : rm.slots = ms)
    (hd : y.cls ≠ "java/lang/invoke/MethodHandle" ∧ y.cls ≠ "java/lang/invoke/VarHandle" ∧ (parseMethodDescriptor y.desc).map (fun d => d.parameters.length) = some n) (hR : rm.frames + 1 ≤ R.frames ∧ 8 + (maxL + 11) + rm.locals ≤ R.locals) :
    vx_CSW R s args own index y bytes maxL ret hh ws rm mc ms n := by
  have ok : ∀ w ∈ va_wsS own index y ws, w.before args s = true := fun w h => ht w (hT w h).1
  have hG : GoodIn Ts ws := fun w h => hT w (by unfold va_wsS; exact List.mem_append_right _ h)
  have hc : Cond.codeWith y bytes maxL ret hh ∈ ws := by rw [hw]; exact List.mem_cons_self
  refine ⟨⟨hrc, hrs, hR.1, hR.2, pay_in ht hG, hc⟩, ht _ (hG _ hc).1, ok _ (by simp [va_wsS]), ⟨hd.1, hd.2.1⟩, fun sig h => ?_, ok _ (by simp [va_wsS]), ok _ (by simp [va_wsS])⟩
  have h2 := hd.2.2
  rw [h] at h2
  exact (Option.some.inj h2).symm
theorem vx_callSW (X : Stand p l e R s m args below meth c T locs cells slots) (hexec : p.tables.exec = Jvm.exec) {own : String} {index : Nat} {y : MethodName} {bytes : ByteArray} {maxL : Nat} {ret : Option FieldType} {hh : List (Nat × Nat × Nat × Nat)}
    (hown : s.vm.findClass own = some m.cls) (hlink : (Cond.methodLink own index y).before args s = true) (hstat : (Cond.static y).before args s = true) (hinit : (Cond.initialized y.cls).before args s = true)
    (hcode : (Cond.codeWith y bytes maxL ret hh).before args s = true) (hy : y.cls ≠ "java/lang/invoke/MethodHandle" ∧ y.cls ≠ "java/lang/invoke/VarHandle")
    {W9 : Nat} {Pre : Pt → Array Value → Prop} {Post : Pt → Array Value → Option Value → Pt → Prop} (hK : Back l R p e below s args y 3 W9 Pre Post)
    {g : JFrame} (hg : g.method = m) (hsize : g.locals.size = c.maxLocals) {argsL rest : List Value} (hlen : ∀ sig, parseMethodDescriptor y.desc = some sig → argsL.length = sig.parameters.length)
    (hstack : g.stack = argsL.reverse ++ rest) (hW : 2 * g.monitorRoom + (rest.map fun v => v.category).sum ≤ W9) (hdg : decode c.code g.pc = .ok (.invokestatic index, 3))
    (hpre : ∀ vm₁, s.WarmedH vm₁ → Pre ⟨T.setVm vm₁, locs, cells, slots⟩ argsL.toArray) :
    ∃ (v : Option Value) (vm₁ : Vm) (B : Pt), s.WarmedH vm₁ ∧ Stand p l e R s m args below meth c B.U B.locs B.cells B.slots ∧ Post ⟨T.setVm vm₁, locs, cells, slots⟩ argsL.toArray v B ∧
      ∀ target, Steps p.tables e below (B.U.setTop { g with pc := g.pc + 3, stack := v.toList ++ rest }) target → Steps p.tables e below (T.setTop g) target := by
  obtain ⟨mk, methM, cM, hnamed, hmethM, -, -, -, -, -, -, hsigM⟩ := Cond.codeWith_spec hcode
  have hstatic : methM.isStatic = true := Cond.static_spec hnamed hmethM hstat
  obtain ⟨kP, hkP, -⟩ := className_of_methodNamed hnamed
  have hinitP : kP.init = .initialized := Cond.initialized_spec (findClass_of_methodNamed hnamed) hkP hinit
  obtain ⟨vm₁, X₁, hstep₁⟩ := X.invokestatic hexec hown hlink hnamed hmethM hstatic hkP hinitP hy (g := g) hg (argsL := argsL) (rest := rest) (hlen _ hsigM) hstack hdg
  obtain ⟨v, B, X', hpost, hsteps⟩ := hK m meth c ⟨T.setVm vm₁, locs, cells, slots⟩ { g with stack := rest } (.invokestatic index) mk argsL.toArray X₁ hg hsize hdg hW (X₁.named hnamed) (hpre vm₁ X₁.warmed)
  exact ⟨v, vm₁, B, X₁.warmed, X', hpost, fun target h => hstep₁ _ fun acts => by rw [doInvoke_state]; exact hsteps.trans h⟩
theorem vx_runSW {y : MethodName} {bytes cc : ByteArray} {maxL nL mc ms n index : Nat} {ret : Option FieldType} {hh : List (Nat × Nat × Nat × Nat)} {ws : List Cond} {rm : Room} {Pc : Array Value → State → Prop} {Qc : Array Value → State → Outcome → State → Prop} {free : Addr → Prop} {Ts : List Cond} {own : String} {As rest : List Value} {g : JFrame}
    (S : CallFix p m c cc nL s args Ts own) (hM : Met l y ws rm Pc Qc mc ms free) (cw : vx_CSW R s args own index y bytes maxL ret hh ws rm mc ms n) (hp : PreS s H Pc As)
    (hg : g.method = m) (hn : As.length = n) (hsize : g.locals.size = nL) (hstack : g.stack = As.reverse ++ rest) (hW : 2 * g.monitorRoom + (rest.map fun v => v.category).sum ≤ 8) (hdg : decode cc g.pc = .ok (.invokestatic index, 3)) (hf : cells + mc ≤ R.cells ∧ slots + ms ≤ R.slots) :
    va_Run p l e R s m args below meth c H locs cells slots mc ms g rest (Qc As.toArray) (free) := by
  obtain ⟨⟨hrc, hrs, hfr, hlo, hws, hcw⟩, hcode, hini, hy, hlen, hl, hstt⟩ := cw
  have hK : Back l R p e below s args y 3 8 (PreOf R mc ms Pc) (PostOf Qc mc ms free) := va_backW (hh := hh) (bytes := bytes) (maxL := maxL) (ret := ret) hM hp.1 hrc hrs hfr hlo hws hcw (fun a' U hW => word_at hW (Or.inl (by first | rfl | simp [Cond.onTables, Cond.keeps, Cond.steady])) hini)
  obtain ⟨hx, hb, hml, ho, -⟩ := S
  intro T hT X
  obtain ⟨v, vm₁, ⟨U', l2, c2, s2⟩, hW₁, X', ⟨g', mk, t, L, e1, e2, hq, h1, hL, h2, h3⟩, st⟩ := vx_callSW X hx (hh := hh) (bytes := bytes) (maxL := maxL) (ret := ret) ho hl hstt hini hcode hy hK hg (hsize.trans hml.symm) (argsL := As) (rest := rest) (fun sig h => hn.trans (hlen sig h)) hstack hW (by rw [hb]; exact hdg)
    (fun vm₁ hW₁ => ⟨hf.1, hf.2, hp.2 (T.setVm vm₁) hT hW₁⟩)
  dsimp only [Pt.U, Pt.locs, Pt.cells, Pt.slots] at X' e1 e2 h1 h2 h3 st
  subst h1; subst h2; subst h3
  exact ⟨v, (T.setVm vm₁).calling g' mk As.toArray, t, U', L, hT, X', hL, e1, e2, hq, st⟩
/-- not caught here, past rows that name other classes: it goes on to the caller -/
theorem vx_outP {p : Program} {l : Launch} {e : Env} {R : Room} {s : State} {m : MethodId} {args : Array Value} {below : List Frame} {meth : Method} {c : Code} {H : Heap} {locs : List Loc} {cells slots : Nat} {free : Addr → Prop} {ls : Array Slot} {rest : List Value} {Qc : Array Value → State → Outcome → State → Prop} {XC : String → State → State → Prop}
    {pc : Nat} {own E : String} {ce : Cell} {q : Addr} {mc ms : Nat} (hown : s.vm.findClass own = some m.cls) (hlocks : meth.locks = false)
    (hpass : ∀ z ∈ c.exceptionTable.toList, covers z pc = false ∨ (z.catchType ≠ 0 ∧ ∃ nm : String, (Cond.classLink own z.catchType nm).before args s = true ∧ va_Nc E nm s)) (hcell : H[q]? = some ce) (hv : ce.vm = .none) (hcl : s.vm.findClass E = some ce.cls)
    (hx : ∀ t : State, t.heap = H → s.vm.Alike t.vm → XC E s t) (hf : ∀ z ∈ locs, free z.base) (hc : cells ≤ mc) (hs : slots ≤ ms) :
    vx_W p l e R s m args below meth c H locs cells slots (vx_MQ below Qc XC args s mc ms free) (F0 m pc ls rest) q := by
  intro T hT X
  have hpl : e.platform.magicAccessors = ({} : Platform).magicAccessors := by rw [X.admits.platform]
  obtain ⟨vm', hW', X', st⟩ := X.outThrough hlocks q (g := F0 m pc ls rest) rfl rfl rfl (cell := ce) (by rw [hT]; exact hcell) (by rw [hv]; rfl)
    (by obtain ⟨k9, h9, -⟩ := Vm.findClass_spec hcl; exact ⟨k9, h9⟩) (fun z hz => by
      rcases hpass z hz with h | ⟨hz0, nm, hl1, hn1⟩
      · exact Or.inl h
      · obtain ⟨c6, hc6, hcl6⟩ := Cond.classLink_spec hown hl1 e.platform hpl
        obtain ⟨a8, b8, h1, h2, h3⟩ := hn1
        cases Option.some.inj (h1.symm.trans hcl)
        cases Option.some.inj (h2.symm.trans hc6)
        exact Or.inr ⟨hz0, _, hcl6, h3⟩)
  obtain ⟨g₀, hfr⟩ := X'.frames_eq
  have hcell9 : ((T.setVm vm').setFrames (.throwing q :: below)).heap[q]? = some ce := by
    show T.heap[q]? = some ce
    rw [hT]; exact hcell
  have hend : Ended ((T.setVm vm').setFrames (.throwing q :: below)) below (.threw q) := State.frames_setFrames _ (State.cur_lt_of_frames hfr)
  refine ⟨(T.setVm vm').setFrames (.throwing q :: below), ?_, .threw q, X'.here.running, hend, Or.inr ⟨q, rfl, E, ce, locs, hx _ hT (X'.ends _).1.alike, hcell9, hv, hcl, (X'.ends _).1, (X'.ends _).2.mono hc hs, hf⟩⟩
  rw [X.pushThrowing_eq]
  exact st
/-- a thing of a world lies in the heap -/
theorem vx_lt {D : va_G} {cl : List vw_C} {ws : va_W} {H1 : Heap} (h : va_P D cl ws H1) {k : Nat} {q : Nat × va_E} (hk : ws[k]? = some q) : q.1 < H1.size := (h k q hk).lt
end VXS
/-! ===== END ===== -/
/-! ===== BEGIN methods with a table of their own: called by a name, returning or throwing ===== -/
section VXH
/-! vx_backW, vx_callVX, vx_callSX, vx_callVW, vx_runVW, vx_runVX, vx_runSX, vx_ofWH follow the same proofs as their sisters above (Free/Laws.lean, Shelf42/LK1.lean); vx_outP calls Shelf42/NT130.lean (outThrough). -/
section
variable {l : Launch} {R : Room} {p : Program} {e : Env} {below : List Frame} {s : State} {sargs : Array Value} {y : MethodName} {len W9 : Nat}
theorem vx_backW {ws : List Cond} {rm : Room} {Pc : Array Value → State → Prop} {Qc : Array Value → State → Outcome → State → Prop} {XC : String → State → State → Prop} {mc ms : Nat} {free : Addr → Prop} {bytes : ByteArray} {maxL : Nat} {ret : Option FieldType} {hh : List (Nat × Nat × Nat × Nat)}
    (hM : vx_Met l y ws rm Pc Qc XC mc ms free) (hblind : FrameBlind Pc) (hrc : rm.cells = mc) (hrs : rm.slots = ms)
    (hframes : rm.frames + 1 ≤ R.frames) (hlocals : W9 + (maxL + 11) + rm.locals ≤ R.locals)
    (hws : ∀ w ∈ ws, ∀ a' U, s.WarmedH U.vm → w.before a' U = true) (hcode : Cond.codeWith y bytes maxL ret hh ∈ ws) (hinit : ∀ a' U, s.WarmedH U.vm → (Cond.initialized y.cls).before a' U = true) :
    vx_Back l R p e below s sargs y len W9 (PreOf R mc ms Pc) (PostOf Qc mc ms free) (vx_Post XC mc ms free) := by
  intro m meth c A g ig mk a X hg hsize hdg hW hn hp
  have h1 : (headSpec ws rm).pre.before a A.U = true := atoms_intro fun w hw => hws w hw _ _ X.warmed
  have h2 : (Cond.codeWith y bytes maxL ret hh).before a A.U = true := hws _ hcode _ _ X.warmed
  have h3 : (Cond.initialized y.cls).before a A.U = true := hinit _ _ X.warmed
  have h4 : A.cells + (headSpec ws rm).room.cells ≤ R.cells := by rw [show (headSpec ws rm).room.cells = mc from hrc]; exact hp.1
  have h5 : A.slots + (headSpec ws rm).room.slots ≤ R.slots := by rw [show (headSpec ws rm).room.slots = ms from hrs]; exact hp.2.1
  have hPc : Pc a (A.U.calling g mk a) := hblind _ _ _ _ hp.2.2
  obtain ⟨U, Ls, c0, s0⟩ := A
  dsimp only [Pt.U, Pt.locs, Pt.cells, Pt.slots] at h1 h2 h3 h4 h5 X hn hPc ⊢
  obtain ⟨m9, methY, cY, hn9, hmY, hcY, -, hlY, -⟩ := Cond.codeWith_spec h2
  cases Option.some.inj (hn9.symm.trans hn)
  obtain ⟨kY, hkY, -⟩ := className_of_methodNamed hn
  have hinitY : kY.init = .initialized := Cond.initialized_spec (findClass_of_methodNamed hn) hkY h3
  have h : At U g.method c below := by rw [hg]; exact X.here
  have hlocals9 : W9 + (maxL + 11) + (headSpec ws rm).room.locals ≤ R.locals := hlocals
  have happ : (headSpec ws rm).appliesLoose y e.platform (U.calling g mk a) = true :=
    Spec.appliesLoose_calling (g := g) h hdg hn hkY hinitY
      (X.room_calling (g := g) (R' := (headSpec ws rm).room) hsize hmY hcY hframes (by rw [hlY]; omega) h4 h5) h1
  obtain ⟨mid, hmid⟩ := h.above
  have hfr : (U.setTop g).frames = (.java g :: mid) ++ below := by rw [State.frames_setTop' g h.top, hmid]; rfl
  obtain ⟨o, s₂, hsteps, -, hend, hq⟩ := Steps.callFree hM p X.admits X.cas X.clock (acts := []) hfr happ hPc trivial
  have hq' : vx_Q Qc XC mc ms free a (U.calling g mk a) o s₂ := hq
  rw [State.frames_setTop' g h.top] at hend
  obtain ⟨g₀, hg0⟩ := Option.isSome_iff_exists.mp h.top
  obtain ⟨r, hr⟩ := State.topJava?_eq_some.mp hg0
  have hr' : (({ U with heap := s₂.heap, slotsUsed := s₂.slotsUsed } : State).setVm s₂.vm).frames = .java g₀ :: r := hr
  rcases hq' with ⟨hqc, L, hfe, hL⟩ | ⟨q, rfl, E, ce, L, hx, hce, hcv, hcl, hW₂, hsm, hL⟩
  · obtain ⟨⟨v, rfl⟩, hW₂, e2, q2, q3, q4, q5, q6⟩ := id hfe
    have e3 : s₂ = ({ (U.calling g mk a).setFrames s₂.frames with heap := s₂.heap, slotsUsed := s₂.slotsUsed } : State).setVm s₂.vm := by
      have : s₂ = ({ s₂ with vm := (U.calling g mk a).vm } : State).setVm s₂.vm := rfl
      rw [e2] at this
      exact this
    obtain ⟨c₂, i₂, len₂, hc₂, hd₂, hf₂⟩ := hend
    have hW' : U.WarmedH s₂.vm := hW₂
    have hcc : c₂ = c := by
      have h1 : s₂.code? g.method = U.code? g.method := by
        rw [State.code?_eq, State.code?_eq, hW'.alike.method?]
      exact Option.some.inj (hc₂.symm.trans (h1.trans h.code))
    subst hcc
    have hlen : len₂ = len := by rw [hdg] at hd₂; cases hd₂; rfl
    subst hlen
    have hs₂ : s₂ = (({ U with heap := s₂.heap, slotsUsed := s₂.slotsUsed } : State).setVm s₂.vm).setTop { g with pc := g.pc + len₂, stack := v.toList ++ g.stack } := by
      refine e3.trans ?_
      rw [hf₂, State.calling_eq h.top, State.setFrames_setFrames, State.setTop_of_frames _ hr', hr]
      rfl
    have hsame : U.sameButNew ({ U with heap := s₂.heap, slotsUsed := s₂.slotsUsed } : State) L mc ms := by
      refine ⟨?_, q2, q3, q4, q5, q6⟩
      obtain ⟨t, ht, -⟩ := State.frames_cons hr
      show ({ U with heap := s₂.heap, slotsUsed := s₂.slotsUsed } : State) = { U.setFrames U.frames with heap := s₂.heap, slotsUsed := s₂.slotsUsed }
      rw [State.setFrames_self ht]
    subst hg
    refine Or.inl ⟨v, ⟨(({ U with heap := s₂.heap, slotsUsed := s₂.slotsUsed } : State).setVm s₂.vm), Ls ++ L, c0 + mc, s0 + ms⟩,
      ⟨X.admits, X.cas, X.clock, X.frames, X.room, X.hears, X.method, X.code, (X.here.setHeapUsed s₂.heap s₂.slotsUsed).setVm hW'.alike, X.tail, State.WarmedH.trans X.warmed hW', X.limits, X.bytes, X.same.trans (hsame.setVm s.vm)⟩,
      ⟨g, mk, s₂, L, rfl, rfl, hqc, rfl, hL, rfl, rfl⟩, ?_⟩
    show Steps p.tables e below _ ((({ U with heap := s₂.heap, slotsUsed := s₂.slotsUsed } : State).setVm s₂.vm).setTop { g with pc := g.pc + len₂, stack := v.toList ++ g.stack })
    rw [← hs₂]
    exact hsteps
  · obtain ⟨e2, q2, q3, q4, q5, q6⟩ := id hsm
    have e3 : s₂ = ({ (U.calling g mk a).setFrames s₂.frames with heap := s₂.heap, slotsUsed := s₂.slotsUsed } : State).setVm s₂.vm := by
      have : s₂ = ({ s₂ with vm := (U.calling g mk a).vm } : State).setVm s₂.vm := rfl
      rw [e2] at this
      exact this
    have hf₂ : s₂.frames = .throwing q :: .java g :: U.frames.tail := hend
    have hW' : U.WarmedH s₂.vm := hW₂
    have hs₂ : s₂ = ((({ U with heap := s₂.heap, slotsUsed := s₂.slotsUsed } : State).setVm s₂.vm).setTop g).pushFrame (.throwing q) := by
      refine e3.trans ?_
      rw [hf₂, State.calling_eq h.top, State.setFrames_setFrames, State.pushFrame, State.frames_setTop _ hr', State.setTop_of_frames _ hr', State.setFrames_setFrames, hr]
      rfl
    have hsame : U.sameButNew ({ U with heap := s₂.heap, slotsUsed := s₂.slotsUsed } : State) L mc ms := by
      refine ⟨?_, q2, q3, q4, q5, q6⟩
      obtain ⟨t, ht, -⟩ := State.frames_cons hr
      show ({ U with heap := s₂.heap, slotsUsed := s₂.slotsUsed } : State) = { U.setFrames U.frames with heap := s₂.heap, slotsUsed := s₂.slotsUsed }
      rw [State.setFrames_self ht]
    subst hg
    refine Or.inr ⟨q, ⟨(({ U with heap := s₂.heap, slotsUsed := s₂.slotsUsed } : State).setVm s₂.vm), Ls ++ L, c0 + mc, s0 + ms⟩,
      ⟨X.admits, X.cas, X.clock, X.frames, X.room, X.hears, X.method, X.code, (X.here.setHeapUsed s₂.heap s₂.slotsUsed).setVm hW'.alike, X.tail, State.WarmedH.trans X.warmed hW', X.limits, X.bytes, X.same.trans (hsame.setVm s.vm)⟩,
      ⟨g, mk, s₂, L, E, ce, rfl, rfl, hx, hce, hcv, hcl, rfl, hL, rfl, rfl⟩, ?_⟩
    show Steps p.tables e below _ (((({ U with heap := s₂.heap, slotsUsed := s₂.slotsUsed } : State).setVm s₂.vm).setTop g).pushFrame (.throwing q))
    rw [← hs₂]
    exact hsteps
end
variable {p : Program} {l : Launch} {e : Env} {R : Room} {s : State} {m : MethodId} {args : Array Value} {below : List Frame} {meth : Method} {c : Code} {T : State} {H : Heap} {locs : List Loc} {cells slots : Nat}
theorem vx_callVX (X : Stand p l e R s m args below meth c T locs cells slots) (hexec : p.tables.exec = Jvm.exec) {own C : String} {index : Nat} {y : MethodName} {bytes : ByteArray} {maxL : Nat} {ret : Option FieldType} {hh : List (Nat × Nat × Nat × Nat)}
    (hown : s.vm.findClass own = some m.cls) (hlink : (Cond.methodLink own index y).before args s = true) (hinst : (Cond.instanceMethod y).before args s = true) (hsel : (Cond.selects C y y).before args s = true)
    (hcode : (Cond.codeWith y bytes maxL ret hh).before args s = true) (hy : y.cls ≠ "java/lang/invoke/MethodHandle" ∧ y.cls ≠ "java/lang/invoke/VarHandle")
    {W9 : Nat} {Pre : Pt → Array Value → Prop} {Post : Pt → Array Value → Option Value → Pt → Prop} {PostX : Pt → Array Value → Addr → Pt → Prop} (hK : vx_Back l R p e below s args y 3 W9 Pre Post PostX)
    {b : Addr} {cellB : Cell} (hcell : T.heap[b]? = some cellB) (hobj : cellB.vm.isStatics = false) (hcls : s.vm.findClass C = some cellB.cls)
    {g : JFrame} (hg : g.method = m) (hsize : g.locals.size = c.maxLocals) {argsL rest : List Value} (hlen : ∀ sig, parseMethodDescriptor y.desc = some sig → argsL.length = sig.parameters.length)
    (hstack : g.stack = argsL.reverse ++ .ref b :: rest) (hW : 2 * g.monitorRoom + (rest.map fun v => v.category).sum ≤ W9) (hdg : decode c.code g.pc = .ok (.invokevirtual index, 3))
    (hpre : ∀ vm₁, s.WarmedH vm₁ → Pre ⟨T.setVm vm₁, locs, cells, slots⟩ (Value.ref b :: argsL).toArray) :
    (∃ (v : Option Value) (vm₁ : Vm) (B : Pt), s.WarmedH vm₁ ∧ Stand p l e R s m args below meth c B.U B.locs B.cells B.slots ∧ Post ⟨T.setVm vm₁, locs, cells, slots⟩ (Value.ref b :: argsL).toArray v B ∧
      ∀ target, Steps p.tables e below (B.U.setTop { g with pc := g.pc + 3, stack := v.toList ++ rest }) target → Steps p.tables e below (T.setTop g) target) ∨
    (∃ (q : Addr) (vm₁ : Vm) (B : Pt), s.WarmedH vm₁ ∧ Stand p l e R s m args below meth c B.U B.locs B.cells B.slots ∧ PostX ⟨T.setVm vm₁, locs, cells, slots⟩ (Value.ref b :: argsL).toArray q B ∧
      Steps p.tables e below (T.setTop g) ((B.U.setTop { g with stack := rest }).pushFrame (.throwing q))) := by
  obtain ⟨mk, methM, hnamed, hmethM, hstM, habM⟩ := Cond.instanceMethod_spec hinst
  obtain ⟨m8, methM', cM, hn8, hmethM', -, -, -, -, -, -, hsigM⟩ := Cond.codeWith_spec hcode
  cases Option.some.inj (hn8.symm.trans hnamed)
  cases hmethM.symm.trans hmethM'
  obtain ⟨c2, r2, m2, q1, q2, q3, q4, kP, hkP, hkPi⟩ := Cond.selects_spec hsel
  cases hcls.symm.trans q1
  cases (State.methodFound?_of_named hnamed hy).symm.trans q2
  cases hnamed.symm.trans q3
  have hselP : selectMethod e.platform s.vm cellB.cls mk = .method mk := by rw [Launch.admits_selectMethod X.admits]; exact q4
  obtain ⟨vm₁, X₁, hstep₁⟩ := X.invokevirtual hexec hown hlink hnamed hmethM hstM hkP hkPi hy (a := b) (cell := cellB) hcell
    (fun z h => by rw [h] at hobj; cases hobj) hselP hmethM habM hkP hkPi (g := g) hg (argsL := argsL) (rest := rest) (hlen _ hsigM) hstack hdg
  rcases hK m meth c ⟨T.setVm vm₁, locs, cells, slots⟩ { g with stack := rest } (.invokevirtual index) mk (Value.ref b :: argsL).toArray X₁ hg hsize hdg hW (X₁.named hnamed) (hpre vm₁ X₁.warmed) with ⟨v, B, X', hpost, hsteps⟩ | ⟨q, B, X', hpost, hsteps⟩
  · exact Or.inl ⟨v, vm₁, B, X₁.warmed, X', hpost, fun target h => hstep₁ _ fun acts => by rw [doInvoke_state]; exact hsteps.trans h⟩
  · exact Or.inr ⟨q, vm₁, B, X₁.warmed, X', hpost, hstep₁ _ fun acts => by rw [doInvoke_state]; exact hsteps⟩
theorem vx_callSX (X : Stand p l e R s m args below meth c T locs cells slots) (hexec : p.tables.exec = Jvm.exec) {own : String} {index : Nat} {y : MethodName} {bytes : ByteArray} {maxL : Nat} {ret : Option FieldType} {hh : List (Nat × Nat × Nat × Nat)}
    (hown : s.vm.findClass own = some m.cls) (hlink : (Cond.methodLink own index y).before args s = true) (hstat : (Cond.static y).before args s = true) (hinit : (Cond.initialized y.cls).before args s = true)
    (hcode : (Cond.codeWith y bytes maxL ret hh).before args s = true) (hy : y.cls ≠ "java/lang/invoke/MethodHandle" ∧ y.cls ≠ "java/lang/invoke/VarHandle")
    {W9 : Nat} {Pre : Pt → Array Value → Prop} {Post : Pt → Array Value → Option Value → Pt → Prop} {PostX : Pt → Array Value → Addr → Pt → Prop} (hK : vx_Back l R p e below s args y 3 W9 Pre Post PostX)
    {g : JFrame} (hg : g.method = m) (hsize : g.locals.size = c.maxLocals) {argsL rest : List Value} (hlen : ∀ sig, parseMethodDescriptor y.desc = some sig → argsL.length = sig.parameters.length)
    (hstack : g.stack = argsL.reverse ++ rest) (hW : 2 * g.monitorRoom + (rest.map fun v => v.category).sum ≤ W9) (hdg : decode c.code g.pc = .ok (.invokestatic index, 3))
    (hpre : ∀ vm₁, s.WarmedH vm₁ → Pre ⟨T.setVm vm₁, locs, cells, slots⟩ argsL.toArray) :
    (∃ (v : Option Value) (vm₁ : Vm) (B : Pt), s.WarmedH vm₁ ∧ Stand p l e R s m args below meth c B.U B.locs B.cells B.slots ∧ Post ⟨T.setVm vm₁, locs, cells, slots⟩ argsL.toArray v B ∧
      ∀ target, Steps p.tables e below (B.U.setTop { g with pc := g.pc + 3, stack := v.toList ++ rest }) target → Steps p.tables e below (T.setTop g) target) ∨
    (∃ (q : Addr) (vm₁ : Vm) (B : Pt), s.WarmedH vm₁ ∧ Stand p l e R s m args below meth c B.U B.locs B.cells B.slots ∧ PostX ⟨T.setVm vm₁, locs, cells, slots⟩ argsL.toArray q B ∧
      Steps p.tables e below (T.setTop g) ((B.U.setTop { g with stack := rest }).pushFrame (.throwing q))) := by
  obtain ⟨mk, methM, cM, hnamed, hmethM, -, -, -, -, -, -, hsigM⟩ := Cond.codeWith_spec hcode
  have hstatic : methM.isStatic = true := Cond.static_spec hnamed hmethM hstat
  obtain ⟨kP, hkP, -⟩ := className_of_methodNamed hnamed
  have hinitP : kP.init = .initialized := Cond.initialized_spec (findClass_of_methodNamed hnamed) hkP hinit
  obtain ⟨vm₁, X₁, hstep₁⟩ := X.invokestatic hexec hown hlink hnamed hmethM hstatic hkP hinitP hy (g := g) hg (argsL := argsL) (rest := rest) (hlen _ hsigM) hstack hdg
  rcases hK m meth c ⟨T.setVm vm₁, locs, cells, slots⟩ { g with stack := rest } (.invokestatic index) mk argsL.toArray X₁ hg hsize hdg hW (X₁.named hnamed) (hpre vm₁ X₁.warmed) with ⟨v, B, X', hpost, hsteps⟩ | ⟨q, B, X', hpost, hsteps⟩
  · exact Or.inl ⟨v, vm₁, B, X₁.warmed, X', hpost, fun target h => hstep₁ _ fun acts => by rw [doInvoke_state]; exact hsteps.trans h⟩
  · exact Or.inr ⟨q, vm₁, B, X₁.warmed, X', hpost, hstep₁ _ fun acts => by rw [doInvoke_state]; exact hsteps⟩
theorem vx_callVW (X : Stand p l e R s m args below meth c T locs cells slots) (hexec : p.tables.exec = Jvm.exec) {own C : String} {index : Nat} {y : MethodName} {bytes : ByteArray} {maxL : Nat} {ret : Option FieldType} {hh : List (Nat × Nat × Nat × Nat)}
    (hown : s.vm.findClass own = some m.cls) (hlink : (Cond.methodLink own index y).before args s = true) (hinst : (Cond.instanceMethod y).before args s = true) (hsel : (Cond.selects C y y).before args s = true)
    (hcode : (Cond.codeWith y bytes maxL ret hh).before args s = true) (hy : y.cls ≠ "java/lang/invoke/MethodHandle" ∧ y.cls ≠ "java/lang/invoke/VarHandle")
    {W9 : Nat} {Pre : Pt → Array Value → Prop} {Post : Pt → Array Value → Option Value → Pt → Prop} (hK : Back l R p e below s args y 3 W9 Pre Post)
    {b : Addr} {cellB : Cell} (hcell : T.heap[b]? = some cellB) (hobj : cellB.vm.isStatics = false) (hcls : s.vm.findClass C = some cellB.cls)
    {g : JFrame} (hg : g.method = m) (hsize : g.locals.size = c.maxLocals) {argsL rest : List Value} (hlen : ∀ sig, parseMethodDescriptor y.desc = some sig → argsL.length = sig.parameters.length)
    (hstack : g.stack = argsL.reverse ++ .ref b :: rest) (hW : 2 * g.monitorRoom + (rest.map fun v => v.category).sum ≤ W9) (hdg : decode c.code g.pc = .ok (.invokevirtual index, 3))
    (hpre : ∀ vm₁, s.WarmedH vm₁ → Pre ⟨T.setVm vm₁, locs, cells, slots⟩ (Value.ref b :: argsL).toArray) :
    ∃ (v : Option Value) (vm₁ : Vm) (B : Pt), s.WarmedH vm₁ ∧ Stand p l e R s m args below meth c B.U B.locs B.cells B.slots ∧ Post ⟨T.setVm vm₁, locs, cells, slots⟩ (Value.ref b :: argsL).toArray v B ∧
      ∀ target, Steps p.tables e below (B.U.setTop { g with pc := g.pc + 3, stack := v.toList ++ rest }) target → Steps p.tables e below (T.setTop g) target := by
  obtain ⟨mk, methM, hnamed, hmethM, hstM, habM⟩ := Cond.instanceMethod_spec hinst
  obtain ⟨m8, methM', cM, hn8, hmethM', -, -, -, -, -, -, hsigM⟩ := Cond.codeWith_spec hcode
  cases Option.some.inj (hn8.symm.trans hnamed)
  cases hmethM.symm.trans hmethM'
  obtain ⟨c2, r2, m2, q1, q2, q3, q4, kP, hkP, hkPi⟩ := Cond.selects_spec hsel
  cases hcls.symm.trans q1
  cases (State.methodFound?_of_named hnamed hy).symm.trans q2
  cases hnamed.symm.trans q3
  have hselP : selectMethod e.platform s.vm cellB.cls mk = .method mk := by rw [Launch.admits_selectMethod X.admits]; exact q4
  obtain ⟨vm₁, X₁, hstep₁⟩ := X.invokevirtual hexec hown hlink hnamed hmethM hstM hkP hkPi hy (a := b) (cell := cellB) hcell
    (fun z h => by rw [h] at hobj; cases hobj) hselP hmethM habM hkP hkPi (g := g) hg (argsL := argsL) (rest := rest) (hlen _ hsigM) hstack hdg
  obtain ⟨v, B, X', hpost, hsteps⟩ := hK m meth c ⟨T.setVm vm₁, locs, cells, slots⟩ { g with stack := rest } (.invokevirtual index) mk (Value.ref b :: argsL).toArray X₁ hg hsize hdg hW (X₁.named hnamed) (hpre vm₁ X₁.warmed)
  exact ⟨v, vm₁, B, X₁.warmed, X', hpost, fun target h => hstep₁ _ fun acts => by rw [doInvoke_state]; exact hsteps.trans h⟩
abbrev vx_CVW (R : Room) (s : State) (args : Array Value) (own C : String) (index : Nat) (y : MethodName) (bytes : ByteArray) (maxL : Nat) (ret : Option FieldType) (hh : List (Nat × Nat × Nat × Nat)) (ws : List Cond) (rm : Room) (mc ms n : Nat) : Prop :=
  (rm.cells = mc ∧ rm.slots = ms ∧ rm.frames + 1 ≤ R.frames ∧ 8 + (maxL + 11) + rm.locals ≤ R.locals ∧ (∀ w ∈ ws, ∀ (a' : Array Value) (U : State), s.WarmedH U.vm → w.before a' U = true) ∧ Cond.codeWith y bytes maxL ret hh ∈ ws) ∧
  (Cond.codeWith y bytes maxL ret hh).before args s = true ∧ (Cond.initialized y.cls).before args s = true ∧ (y.cls ≠ "java/lang/invoke/MethodHandle" ∧ y.cls ≠ "java/lang/invoke/VarHandle") ∧
  (∀ sig, parseMethodDescriptor y.desc = some sig → n = sig.parameters.length) ∧ (Cond.methodLink own index y).before args s = true ∧ (Cond.instanceMethod y).before args s = true ∧ (Cond.selects C y y).before args s = true
theorem vx_cwVW {own C : String} {index maxL mc ms : Nat} {y : MethodName} {bytes : ByteArray} {ret : Option FieldType} {hh : List (Nat × Nat × Nat × Nat)} {Ts ws ws' : List Cond} {rm : Room} (n : Nat) (ht : ∀ w ∈ Ts, w.before args s = true) (hT : GoodIn Ts (wsV own index C y ws)) (hw : ws = Cond.codeWith y bytes maxL ret hh :: ws') (hrc : rm.cells = mc) (hrs : rm.slots = ms)
    (hd : y.cls = C ∧ y.cls ≠ "java/lang/invoke/MethodHandle" ∧ y.cls ≠ "java/lang/invoke/VarHandle" ∧ (parseMethodDescriptor y.desc).map (fun d => d.parameters.length) = some n) (hR : rm.frames + 1 ≤ R.frames ∧ 8 + (maxL + 11) + rm.locals ≤ R.locals) :
    vx_CVW R s args own C index y bytes maxL ret hh ws rm mc ms n := by
  obtain ⟨hC, hd⟩ := hd
  subst hC
  have ok : ∀ w ∈ wsV own index y.cls y ws, w.before args s = true := fun w h => ht w (hT w h).1
  have hG : GoodIn Ts ws := fun w h => hT w (by unfold wsV; exact List.mem_append_right _ h)
  have hc : Cond.codeWith y bytes maxL ret hh ∈ ws := by rw [hw]; exact List.mem_cons_self
  refine ⟨⟨hrc, hrs, hR.1, hR.2, pay_in ht hG, hc⟩, ht _ (hG _ hc).1, ok _ (by simp [wsV]), ⟨hd.1, hd.2.1⟩, fun sig h => ?_, ok _ (by simp [wsV]), ok _ (by simp [wsV]), ok _ (by simp [wsV])⟩
  have h2 := hd.2.2
  rw [h] at h2
  exact (Option.some.inj h2).symm
theorem vx_runVW {y : MethodName} {bytes cc : ByteArray} {maxL nL mc ms n index : Nat} {ret : Option FieldType} {hh : List (Nat × Nat × Nat × Nat)} {ws : List Cond} {rm : Room} {Pc : Array Value → State → Prop} {Qc : Array Value → State → Outcome → State → Prop} {free : Addr → Prop} {Ts : List Cond} {own C : String} {b : Addr} {As rest : List Value} {g : JFrame}
    (S : CallFix p m c cc nL s args Ts own) (hM : Met l y ws rm Pc Qc mc ms free) (cw : vx_CVW R s args own C index y bytes maxL ret hh ws rm mc ms n) (hp : PreV s H C b Pc As)
    (hg : g.method = m) (hn : As.length = n) (hsize : g.locals.size = nL) (hstack : g.stack = As.reverse ++ .ref b :: rest) (hW : 2 * g.monitorRoom + (rest.map fun v => v.category).sum ≤ 8) (hdg : decode cc g.pc = .ok (.invokevirtual index, 3)) (hf : cells + mc ≤ R.cells ∧ slots + ms ≤ R.slots) :
    va_Run p l e R s m args below meth c H locs cells slots mc ms g rest (Qc (Value.ref b :: As).toArray) free := by
  obtain ⟨⟨hrc, hrs, hfr, hlo, hws, hcw⟩, hcode, hini, hy, hlen, hl, hin, hse⟩ := cw
  have hK : Back l R p e below s args y 3 8 (PreOf R mc ms Pc) (PostOf Qc mc ms free) := va_backW (hh := hh) (bytes := bytes) (maxL := maxL) (ret := ret) hM hp.1 hrc hrs hfr hlo hws hcw (fun a' U hW => word_at hW (Or.inl (by first | rfl | simp [Cond.onTables, Cond.keeps, Cond.steady])) hini)
  obtain ⟨hx, hb, hml, ho, -⟩ := S
  obtain ⟨-, ⟨cellB, hcB, hoB, hclB⟩, hPc⟩ := hp
  intro T hT X
  obtain ⟨v, vm₁, ⟨U', l2, c2, s2⟩, hW₁, X', ⟨g', mk, t, L, e1, e2, hq, h1, hL, h2, h3⟩, st⟩ := vx_callVW X hx (C := C) (hh := hh) (bytes := bytes) (maxL := maxL) (ret := ret) ho hl hin hse hcode hy hK (by rw [hT]; exact hcB) hoB hclB hg (hsize.trans hml.symm) (argsL := As) (rest := rest) (fun sig h => hn.trans (hlen sig h)) hstack hW (by rw [hb]; exact hdg)
    (fun vm₁ hW₁ => ⟨hf.1, hf.2, hPc (T.setVm vm₁) hT hW₁⟩)
  dsimp only [Pt.U, Pt.locs, Pt.cells, Pt.slots] at X' e1 e2 h1 h2 h3 st
  subst h1; subst h2; subst h3
  exact ⟨v, (T.setVm vm₁).calling g' mk (Value.ref b :: As).toArray, t, U', L, hT, X', hL, e1, e2, hq, st⟩
section
variable {y : MethodName} {bytes cc : ByteArray} {maxL nL mc ms n index : Nat} {ret : Option FieldType} {ws : List Cond} {rm : Room} {Pc : Array Value → State → Prop} {Qc : Array Value → State → Outcome → State → Prop} {XC : String → State → State → Prop} {free : Addr → Prop} {Ts : List Cond} {own C : String} {b : Addr} {As rest : List Value} {g : JFrame}
theorem vx_runVX {hh : List (Nat × Nat × Nat × Nat)} (S : CallFix p m c cc nL s args Ts own) (hM : vx_Met l y ws rm Pc Qc XC mc ms free) (cw : vx_CVW R s args own C index y bytes maxL ret hh ws rm mc ms n) (hp : PreV s H C b Pc As)
    (hg : g.method = m) (hn : As.length = n) (hsize : g.locals.size = nL) (hstack : g.stack = As.reverse ++ .ref b :: rest) (hW : 2 * g.monitorRoom + (rest.map fun v => v.category).sum ≤ 8) (hdg : decode cc g.pc = .ok (.invokevirtual index, 3)) (hf : cells + mc ≤ R.cells ∧ slots + ms ≤ R.slots) :
    vx_Run p l e R s m args below meth c H locs cells slots mc ms g rest (Qc (Value.ref b :: As).toArray) XC free := by
  obtain ⟨⟨hrc, hrs, hfr, hlo, hws, hcw⟩, hcode, hini, hy, hlen, hl, hin, hse⟩ := cw
  have hK : vx_Back l R p e below s args y 3 8 (PreOf R mc ms Pc) (PostOf Qc mc ms free) (vx_Post XC mc ms free) := vx_backW (hh := hh) (bytes := bytes) (maxL := maxL) (ret := ret) hM hp.1 hrc hrs hfr hlo hws hcw (fun a' U hW => word_at hW (Or.inl (by first | rfl | simp [Cond.onTables, Cond.keeps, Cond.steady])) hini)
  obtain ⟨hx, hb, hml, ho, -⟩ := S
  obtain ⟨-, ⟨cellB, hcB, hoB, hclB⟩, hPc⟩ := hp
  intro T hT X
  rcases vx_callVX X hx (C := C) (hh := hh) (bytes := bytes) (maxL := maxL) (ret := ret) ho hl hin hse hcode hy hK (by rw [hT]; exact hcB) hoB hclB hg (hsize.trans hml.symm) (argsL := As) (rest := rest) (fun sig h => hn.trans (hlen sig h)) hstack hW (by rw [hb]; exact hdg)
    (fun vm₁ hW₁ => ⟨hf.1, hf.2, hPc (T.setVm vm₁) hT hW₁⟩) with ⟨v, vm₁, ⟨U', l2, c2, s2⟩, hW₁, X', ⟨g', mk, t, L, e1, e2, hq, h1, hL, h2, h3⟩, st⟩ | ⟨q, vm₁, ⟨U', l2, c2, s2⟩, hW₁, X', ⟨g', mk, t, L, E, ce, e1, e2, hq, hce, hcv, hcl, h1, hL, h2, h3⟩, st⟩
  · dsimp only [Pt.U, Pt.locs, Pt.cells, Pt.slots] at X' e1 e2 h1 h2 h3 st
    subst h1; subst h2; subst h3
    exact Or.inl ⟨v, (T.setVm vm₁).calling g' mk (Value.ref b :: As).toArray, t, U', L, hT, X', hL, e1, e2, hq, st⟩
  · dsimp only [Pt.U, Pt.locs, Pt.cells, Pt.slots] at X' e1 e2 h1 h2 h3 st hcl
    subst h1; subst h2; subst h3
    exact Or.inr ⟨q, (T.setVm vm₁).calling g' mk (Value.ref b :: As).toArray, t, U', L, E, ce, hT, X', hL, e1, e2, hq, hce, hcv, vx_cls hW₁ hcl, st⟩
theorem vx_runSX {hh : List (Nat × Nat × Nat × Nat)} (S : CallFix p m c cc nL s args Ts own) (hM : vx_Met l y ws rm Pc Qc XC mc ms free) (cw : vx_CSW R s args own index y bytes maxL ret hh ws rm mc ms n) (hp : PreS s H Pc As)
    (hg : g.method = m) (hn : As.length = n) (hsize : g.locals.size = nL) (hstack : g.stack = As.reverse ++ rest) (hW : 2 * g.monitorRoom + (rest.map fun v => v.category).sum ≤ 8) (hdg : decode cc g.pc = .ok (.invokestatic index, 3)) (hf : cells + mc ≤ R.cells ∧ slots + ms ≤ R.slots) :
    vx_Run p l e R s m args below meth c H locs cells slots mc ms g rest (Qc As.toArray) XC free := by
  obtain ⟨⟨hrc, hrs, hfr, hlo, hws, hcw⟩, hcode, hini, hy, hlen, hl, hstt⟩ := cw
  have hK : vx_Back l R p e below s args y 3 8 (PreOf R mc ms Pc) (PostOf Qc mc ms free) (vx_Post XC mc ms free) := vx_backW (hh := hh) (bytes := bytes) (maxL := maxL) (ret := ret) hM hp.1 hrc hrs hfr hlo hws hcw (fun a' U hW => word_at hW (Or.inl (by first | rfl | simp [Cond.onTables, Cond.keeps, Cond.steady])) hini)
  obtain ⟨hx, hb, hml, ho, -⟩ := S
  intro T hT X
  rcases vx_callSX X hx (hh := hh) (bytes := bytes) (maxL := maxL) (ret := ret) ho hl hstt hini hcode hy hK hg (hsize.trans hml.symm) (argsL := As) (rest := rest) (fun sig h => hn.trans (hlen sig h)) hstack hW (by rw [hb]; exact hdg)
    (fun vm₁ hW₁ => ⟨hf.1, hf.2, hp.2 (T.setVm vm₁) hT hW₁⟩) with ⟨v, vm₁, ⟨U', l2, c2, s2⟩, hW₁, X', ⟨g', mk, t, L, e1, e2, hq, h1, hL, h2, h3⟩, st⟩ | ⟨q, vm₁, ⟨U', l2, c2, s2⟩, hW₁, X', ⟨g', mk, t, L, E, ce, e1, e2, hq, hce, hcv, hcl, h1, hL, h2, h3⟩, st⟩
  · dsimp only [Pt.U, Pt.locs, Pt.cells, Pt.slots] at X' e1 e2 h1 h2 h3 st
    subst h1; subst h2; subst h3
    exact Or.inl ⟨v, (T.setVm vm₁).calling g' mk As.toArray, t, U', L, hT, X', hL, e1, e2, hq, st⟩
  · dsimp only [Pt.U, Pt.locs, Pt.cells, Pt.slots] at X' e1 e2 h1 h2 h3 st hcl
    subst h1; subst h2; subst h3
    exact Or.inr ⟨q, (T.setVm vm₁).calling g' mk As.toArray, t, U', L, E, ce, hT, X', hL, e1, e2, hq, hce, hcv, vx_cls hW₁ hcl, st⟩
end
end VXH
theorem vx_ofWH {l : Launch} {y : MethodName} {ws ws' : List Cond} {rm : Room} {Pc : Array Value → State → Prop} {Qc : Array Value → State → Outcome → State → Prop} {XC : String → State → State → Prop} {mc ms : Nat} {free : Addr → Prop} {cc : ByteArray} {maxL : Nat} {ret : Option FieldType} {hh : List (Nat × Nat × Nat × Nat)}
    (hy : plainName y.cls = true) (hw : ws = Cond.codeWith y cc maxL ret hh :: ws')
    (body : ∀ p e s m args below meth c s₁, BodyLoose p l y (headSpec ws rm) cc maxL ret e s m args below meth c s₁ → c.maxLocals = maxL → Pc args s →
      W p l e (headSpec ws rm).room s m args below meth c s.heap [] 0 0 (vx_MQ below Qc XC args s mc ms free) (entryFrame m args maxL)) : vx_Met l y ws rm Pc Qc XC mc ms free := by
  refine MetFree.of_bodyS (code := cc) (maxLocals := maxL) (ret := ret) hy ?_ ?_
  · intro args s m h hn
    obtain ⟨m9, meth, c, hn9, h1, h2, h3, h4, -, h5, h6, -⟩ := Cond.codeWith_spec (atoms_spec (ws := ws) h _ (by rw [hw]; exact List.mem_cons_self))
    cases hn.symm.trans hn9
    exact ⟨meth, c, h1, h2, h3, h4, h5, h6⟩
  · intro p e s m args below meth c s₁ B hml hP _
    have hh0 : s₁.heap = s.heap := by rw [B.state]; rfl
    obtain ⟨t, a1, o, b1, b2, b3⟩ := body p e s m args below meth c s₁ B hml hP s₁ hh0 (Stand.of_body B)
    exact ⟨t, o, a1, b1, b2, b3⟩
/-! ===== END ===== -/
end
section
/-! polynomials over two elements, as numbers: bit k is that of x^k; their sum is ^^^, their product px_m; px_dv f a: f divides a -/
def px_m (a b : Nat) : Nat := if b = 0 then 0 else (2 * px_m a (b / 2)) ^^^ (if b % 2 = 1 then a else 0)
termination_by b
decreasing_by omega
theorem px_bin {P : Nat → Prop} (h0 : P 0) (h : ∀ b, P b → P (2 * b)) (h1 : ∀ b, P b → P (2 * b + 1)) : ∀ b, P b := by
  intro b
  induction b using Nat.strongRecOn with
  | _ b ih =>
    by_cases hb : b = 0
    · subst hb; exact h0
    · rcases Nat.mod_two_eq_zero_or_one b with e | e
      · have := h (b / 2) (ih (b / 2) (by omega))
        rwa [show 2 * (b / 2) = b by omega] at this
      · have := h1 (b / 2) (ih (b / 2) (by omega))
        rwa [show 2 * (b / 2) + 1 = b by omega] at this
theorem px_dbl (u v : Nat) : 2 * (u ^^^ v) = 2 * u ^^^ 2 * v := by
  have := @Nat.shiftLeft_xor_distrib 1 u v
  simpa [Nat.shiftLeft_eq, Nat.mul_comm] using this
theorem px_d1 (u : Nat) : 2 * u ^^^ 1 = 2 * u + 1 := by
  have h1 : (2 * u ^^^ 1) / 2 = u := by
    rw [Nat.xor_div_two, show 2 * u / 2 = u by omega]
    simp
  have h2 : (2 * u ^^^ 1) % 2 = 1 := by
    rw [Nat.xor_mod_two_eq_one]
    omega
  omega
theorem px_cc (a b : Nat) : a ^^^ b ^^^ b = a := by rw [Nat.xor_assoc, Nat.xor_self, Nat.xor_zero]
theorem px_eq0 {a b : Nat} (h : a ^^^ b = 0) : a = b := by
  have := px_cc a b
  rw [h, Nat.zero_xor] at this
  exact this.symm
theorem px_m_zero (a : Nat) : px_m a 0 = 0 := by rw [px_m]; simp
theorem px_m_dbl (a b : Nat) : px_m a (2 * b) = 2 * px_m a b := by
  by_cases hb : b = 0
  · subst hb; simp [px_m_zero]
  · rw [px_m, if_neg (by omega), show 2 * b / 2 = b by omega, if_neg (by omega)]
    simp
theorem px_m_odd (a b : Nat) : px_m a (2 * b + 1) = 2 * px_m a b ^^^ a := by
  rw [px_m, if_neg (by omega), show (2 * b + 1) / 2 = b by omega, if_pos (by omega)]
theorem px_m_zero_left (b : Nat) : px_m 0 b = 0 := by
  induction b using px_bin with
  | h0 => exact px_m_zero 0
  | h b ih => rw [px_m_dbl, ih]
  | h1 b ih => rw [px_m_odd, ih]; simp
theorem px_m_xor_left (a c b : Nat) : px_m (a ^^^ c) b = px_m a b ^^^ px_m c b := by
  induction b using px_bin with
  | h0 => simp [px_m_zero]
  | h b ih => rw [px_m_dbl, px_m_dbl, px_m_dbl, ih, px_dbl]
  | h1 b ih => rw [px_m_odd, px_m_odd, px_m_odd, ih, px_dbl]; ac_rfl
theorem px_m_dbl_left (a b : Nat) : px_m (2 * a) b = 2 * px_m a b := by
  induction b using px_bin with
  | h0 => simp [px_m_zero]
  | h b ih => rw [px_m_dbl, px_m_dbl, ih]
  | h1 b ih => rw [px_m_odd, px_m_odd, ih, px_dbl]
theorem px_m_one_left (b : Nat) : px_m 1 b = b := by
  induction b using px_bin with
  | h0 => exact px_m_zero 1
  | h b ih => rw [px_m_dbl, ih]
  | h1 b ih => rw [px_m_odd, ih, px_d1]
theorem px_m_one (a : Nat) : px_m a 1 = a := by
  have := px_m_odd a 0
  simpa [px_m_zero] using this
theorem px_m_odd_left (a b : Nat) : px_m (2 * a + 1) b = 2 * px_m a b ^^^ b := by
  rw [← px_d1, px_m_xor_left, px_m_dbl_left, px_m_one_left]
theorem px_m_comm (a b : Nat) : px_m a b = px_m b a := by
  induction b using px_bin with
  | h0 => rw [px_m_zero, px_m_zero_left]
  | h b ih => rw [px_m_dbl, px_m_dbl_left, ih]
  | h1 b ih => rw [px_m_odd, px_m_odd_left, ih]
theorem px_m_xor_right (a b c : Nat) : px_m a (b ^^^ c) = px_m a b ^^^ px_m a c := by
  rw [px_m_comm, px_m_xor_left, px_m_comm b a, px_m_comm c a]
theorem px_m_assoc (a b c : Nat) : px_m (px_m a b) c = px_m a (px_m b c) := by
  induction c using px_bin with
  | h0 => simp [px_m_zero]
  | h c ih => rw [px_m_dbl, px_m_dbl, px_m_dbl, ih]
  | h1 c ih => rw [px_m_odd, px_m_odd, px_m_xor_right, px_m_dbl, ih]
theorem px_m_left_comm (a b c : Nat) : px_m a (px_m b c) = px_m b (px_m a c) := by
  rw [← px_m_assoc, px_m_comm a b, px_m_assoc]
theorem px_m_two (a : Nat) : px_m a 2 = 2 * a := by
  have := px_m_dbl a 1
  rw [px_m_one] at this
  exact this
theorem px_m_pow2 (a k : Nat) : px_m a (2 ^ k) = a * 2 ^ k := by
  induction k with
  | zero => simpa using px_m_one a
  | succ k ih => rw [Nat.pow_succ, Nat.mul_comm (2 ^ k) 2, px_m_dbl, ih, Nat.mul_left_comm]
/-! degrees -/
theorem px_top {u v k : Nat} (h1 : 2 ^ k ≤ u) (h2 : u < 2 ^ (k + 1)) (h3 : v < 2 ^ k) : 2 ^ k ≤ u ^^^ v ∧ u ^^^ v < 2 ^ (k + 1) := by
  have hk : 2 ^ (k + 1) = 2 * 2 ^ k := by rw [Nat.pow_succ, Nat.mul_comm]
  refine ⟨?_, Nat.xor_lt_two_pow h2 (by omega)⟩
  apply Nat.ge_two_pow_of_testBit
  rw [Nat.testBit_xor, Nat.testBit_lt_two_pow h3, Nat.testBit_of_two_pow_le_and_two_pow_add_one_gt h1 h2]
  rfl
theorem px_tops {u v k : Nat} (h1 : 2 ^ k ≤ u) (h2 : u < 2 ^ (k + 1)) (h3 : 2 ^ k ≤ v) (h4 : v < 2 ^ (k + 1)) : u ^^^ v < 2 ^ k := by
  apply Nat.lt_pow_two_of_testBit
  intro i hi
  rw [Nat.testBit_xor]
  by_cases hik : i = k
  · subst hik
    rw [Nat.testBit_of_two_pow_le_and_two_pow_add_one_gt h1 h2, Nat.testBit_of_two_pow_le_and_two_pow_add_one_gt h3 h4]
    rfl
  · have hle : 2 ^ (k + 1) ≤ 2 ^ i := Nat.pow_le_pow_right (by decide) (by omega)
    rw [Nat.testBit_lt_two_pow (Nat.lt_of_lt_of_le h2 hle), Nat.testBit_lt_two_pow (Nat.lt_of_lt_of_le h4 hle)]
    rfl
theorem px_deg {a b i j : Nat} (ha : 2 ^ i ≤ a) (ha' : a < 2 ^ (i + 1)) (hb : 2 ^ j ≤ b) (hb' : b < 2 ^ (j + 1)) : 2 ^ (i + j) ≤ px_m a b ∧ px_m a b < 2 ^ (i + j + 1) := by
  induction j generalizing b with
  | zero =>
    have : b = 1 := by simp at hb hb'; omega
    subst this
    rw [px_m_one]
    exact ⟨ha, ha'⟩
  | succ j ih =>
    have e1 : 2 ^ (j + 1) = 2 * 2 ^ j := by rw [Nat.pow_succ, Nat.mul_comm]
    have e2 : 2 ^ (j + 1 + 1) = 2 * 2 ^ (j + 1) := by rw [Nat.pow_succ, Nat.mul_comm]
    have e3 : 2 ^ (i + (j + 1)) = 2 * 2 ^ (i + j) := by rw [← Nat.add_assoc, Nat.pow_succ, Nat.mul_comm]
    have e4 : 2 ^ (i + (j + 1) + 1) = 2 * 2 ^ (i + (j + 1)) := by rw [Nat.pow_succ, Nat.mul_comm]
    have e5 : 2 ^ (i + j + 1) = 2 * 2 ^ (i + j) := by rw [Nat.pow_succ, Nat.mul_comm]
    obtain ⟨q1, q2⟩ := ih (b := b / 2) (by omega) (by omega)
    rcases Nat.mod_two_eq_zero_or_one b with e | e
    · rw [show b = 2 * (b / 2) by omega, px_m_dbl]
      omega
    · rw [show b = 2 * (b / 2) + 1 by omega, px_m_odd]
      have hle : 2 ^ (i + 1) ≤ 2 ^ (i + (j + 1)) := Nat.pow_le_pow_right (by decide) (by omega)
      exact px_top (by omega) (by omega) (by omega)
theorem px_lg1 {a : Nat} (h : a ≠ 0) : 2 ^ a.log2 ≤ a := Nat.log2_self_le h
theorem px_lg2 (a : Nat) : a < 2 ^ (a.log2 + 1) := Nat.lt_log2_self
theorem px_lg {a i : Nat} (h1 : 2 ^ i ≤ a) (h2 : a < 2 ^ (i + 1)) : a.log2 = i :=
  (Nat.log2_eq_iff (by have := Nat.two_pow_pos i; omega)).2 ⟨h1, h2⟩
theorem px_ne0 {a b : Nat} (ha : a ≠ 0) (hb : b ≠ 0) : px_m a b ≠ 0 := by
  have := (px_deg (px_lg1 ha) (px_lg2 a) (px_lg1 hb) (px_lg2 b)).1
  have := Nat.two_pow_pos (a.log2 + b.log2)
  omega
theorem px_zero {a b : Nat} (h : px_m a b = 0) : a = 0 ∨ b = 0 := by
  by_cases ha : a = 0
  · exact Or.inl ha
  · by_cases hb : b = 0
    · exact Or.inr hb
    · exact absurd h (px_ne0 ha hb)
theorem px_log {a b : Nat} (ha : a ≠ 0) (hb : b ≠ 0) : (px_m a b).log2 = a.log2 + b.log2 :=
  px_lg (px_deg (px_lg1 ha) (px_lg2 a) (px_lg1 hb) (px_lg2 b)).1 (px_deg (px_lg1 ha) (px_lg2 a) (px_lg1 hb) (px_lg2 b)).2
theorem px_cancel {a b c : Nat} (ha : a ≠ 0) (h : px_m a b = px_m a c) : b = c := by
  have h1 : px_m a (b ^^^ c) = 0 := by rw [px_m_xor_right, h, Nat.xor_self]
  rcases px_zero h1 with e | e
  · exact absurd e ha
  · exact px_eq0 e
theorem px_div {b j : Nat} (hb : 2 ^ j ≤ b) (hb' : b < 2 ^ (j + 1)) : ∀ a : Nat, ∃ q r, a = px_m q b ^^^ r ∧ r < 2 ^ j := by
  intro a
  induction a using Nat.strongRecOn with
  | _ a ih =>
    by_cases h : a < 2 ^ j
    · exact ⟨0, a, by rw [px_m_zero_left, Nat.zero_xor], h⟩
    · have ha0 : a ≠ 0 := by have := Nat.two_pow_pos j; omega
      have hji : j ≤ a.log2 := (Nat.le_log2 ha0).2 (by omega)
      have hd := px_deg (a := 2 ^ (a.log2 - j)) (b := b) (i := a.log2 - j) (j := j) (Nat.le_refl _) (Nat.pow_lt_pow_right (by decide) (by omega)) hb hb'
      rw [show a.log2 - j + j = a.log2 by omega] at hd
      have hlt := px_tops (px_lg1 ha0) (px_lg2 a) hd.1 hd.2
      obtain ⟨q, r, e, hr⟩ := ih (a ^^^ px_m (2 ^ (a.log2 - j)) b) (Nat.lt_of_lt_of_le hlt (px_lg1 ha0))
      refine ⟨q ^^^ 2 ^ (a.log2 - j), r, ?_, hr⟩
      have e2 := px_cc a (px_m (2 ^ (a.log2 - j)) b)
      rw [e] at e2
      refine e2.symm.trans ?_
      rw [px_m_xor_left]
      ac_rfl
/-! divisors -/
def px_dv (f a : Nat) : Prop := ∃ q, a = px_m f q
theorem px_dv_refl (f : Nat) : px_dv f f := ⟨1, (px_m_one f).symm⟩
theorem px_dv_zero (f : Nat) : px_dv f 0 := ⟨0, (px_m_zero f).symm⟩
theorem px_dv_one (a : Nat) : px_dv 1 a := ⟨a, (px_m_one_left a).symm⟩
theorem px_dv_trans {f g a : Nat} (h1 : px_dv f g) (h2 : px_dv g a) : px_dv f a := by
  obtain ⟨q, rfl⟩ := h1
  obtain ⟨r, rfl⟩ := h2
  exact ⟨px_m q r, px_m_assoc f q r⟩
theorem px_dv_xor {f a b : Nat} (h1 : px_dv f a) (h2 : px_dv f b) : px_dv f (a ^^^ b) := by
  obtain ⟨q, rfl⟩ := h1
  obtain ⟨r, rfl⟩ := h2
  exact ⟨q ^^^ r, (px_m_xor_right f q r).symm⟩
theorem px_dv_ml {f a : Nat} (h : px_dv f a) (b : Nat) : px_dv f (px_m a b) := by
  obtain ⟨q, rfl⟩ := h
  exact ⟨px_m q b, px_m_assoc f q b⟩
theorem px_dv_mr {f a : Nat} (h : px_dv f a) (b : Nat) : px_dv f (px_m b a) := by
  rw [px_m_comm]
  exact px_dv_ml h b
theorem px_dv_m (f b : Nat) : px_dv f (px_m f b) := ⟨b, rfl⟩
theorem px_dv_m' (f b : Nat) : px_dv f (px_m b f) := ⟨b, px_m_comm b f⟩
theorem px_dv_of {f a b : Nat} (h : px_dv f (a ^^^ b)) (h2 : px_dv f b) : px_dv f a := by
  have := px_dv_xor h h2
  rwa [px_cc] at this
theorem px_dv_small {f a j : Nat} (h : px_dv f a) (ha : a < 2 ^ j) (hf : 2 ^ j ≤ f) : a = 0 := by
  obtain ⟨q, rfl⟩ := h
  by_cases hq : q = 0
  · subst hq; exact px_m_zero f
  · have hf0 : f ≠ 0 := by have := Nat.two_pow_pos j; omega
    have h1 := px_log hf0 hq
    have h2 : j ≤ f.log2 := (Nat.le_log2 hf0).2 hf
    have h3 := px_lg1 (px_ne0 hf0 hq)
    have h4 : 2 ^ j ≤ 2 ^ (px_m f q).log2 := Nat.pow_le_pow_right (by decide) (by omega)
    omega
theorem px_dv_le {f a : Nat} (h : px_dv f a) (ha : a ≠ 0) : f ≠ 0 ∧ f.log2 ≤ a.log2 := by
  obtain ⟨q, rfl⟩ := h
  have hf : f ≠ 0 := fun e => ha (by rw [e, px_m_zero_left])
  have hq : q ≠ 0 := fun e => ha (by rw [e, px_m_zero])
  refine ⟨hf, ?_⟩
  rw [px_log hf hq]
  omega
theorem px_dv_unit {f : Nat} (h : px_dv f 1) : f = 1 := by
  obtain ⟨hf, hl⟩ := px_dv_le h (by decide)
  have h1 : Nat.log2 1 = 0 := px_lg (i := 0) (by decide) (by decide)
  have h0 : f.log2 = 0 := by omega
  have h2 := px_lg2 f
  rw [h0] at h2
  simp at h2
  omega
theorem px_dv_anti {f g : Nat} (h1 : px_dv f g) (h2 : px_dv g f) : f = g := by
  obtain ⟨q, e⟩ := h1
  by_cases hf : f = 0
  · rw [e, hf, px_m_zero_left]
  · obtain ⟨r, e2⟩ := h2
    rw [e, px_m_assoc] at e2
    have e3 : px_m f 1 = px_m f (px_m q r) := by rw [px_m_one]; exact e2
    have e4 := px_cancel hf e3
    have hq : q = 1 := px_dv_unit ⟨r, e4⟩
    rw [e, hq, px_m_one]
/-! congruence: px_dv p (a ^^^ b) -/
def px_cg (p a b : Nat) : Prop := px_dv p (a ^^^ b)
theorem px_cg_refl (p a : Nat) : px_cg p a a := by unfold px_cg; rw [Nat.xor_self]; exact px_dv_zero p
theorem px_cg_of {p a b : Nat} (h : a = b) : px_cg p a b := h ▸ px_cg_refl p a
theorem px_cg_symm {p a b : Nat} (h : px_cg p a b) : px_cg p b a := by unfold px_cg at *; rwa [Nat.xor_comm]
theorem px_cg_trans {p a b c : Nat} (h : px_cg p a b) (h2 : px_cg p b c) : px_cg p a c := by
  have := px_dv_xor h h2
  unfold px_cg
  rwa [← Nat.xor_assoc, px_cc] at this
theorem px_cg_xor {p a b c d : Nat} (h : px_cg p a b) (h2 : px_cg p c d) : px_cg p (a ^^^ c) (b ^^^ d) := by
  have := px_dv_xor h h2
  unfold px_cg
  rwa [show a ^^^ c ^^^ (b ^^^ d) = a ^^^ b ^^^ (c ^^^ d) by ac_rfl]
theorem px_cg_m {p a b c d : Nat} (h : px_cg p a b) (h2 : px_cg p c d) : px_cg p (px_m a c) (px_m b d) := by
  have h3 : px_cg p (px_m a c) (px_m b c) := by unfold px_cg; rw [← px_m_xor_left]; exact px_dv_ml h c
  have h4 : px_cg p (px_m b c) (px_m b d) := by unfold px_cg; rw [← px_m_xor_right]; exact px_dv_mr h2 b
  exact px_cg_trans h3 h4
theorem px_cg_dv {p a b : Nat} (h : px_cg p a b) (h2 : px_dv p b) : px_dv p a := px_dv_of h h2
theorem px_cg_down {f p a b : Nat} (hf : px_dv f p) (h : px_cg p a b) : px_cg f a b := px_dv_trans hf h
theorem px_uniq {p n a b : Nat} (hp : 2 ^ n ≤ p) (ha : a < 2 ^ n) (hb : b < 2 ^ n) (h : px_cg p a b) : a = b :=
  px_eq0 (px_dv_small h (Nat.xor_lt_two_pow ha hb) hp)
/-! powers -/
def px_pw (a : Nat) : Nat → Nat
  | 0 => 1
  | n + 1 => px_m (px_pw a n) a
theorem px_pw_one (a : Nat) : px_pw a 1 = a := px_m_one_left a
theorem px_pw_add (a m n : Nat) : px_pw a (m + n) = px_m (px_pw a m) (px_pw a n) := by
  induction n with
  | zero => exact (px_m_one _).symm
  | succ n ih => rw [← Nat.add_assoc]; show px_m (px_pw a (m + n)) a = _; rw [ih, px_m_assoc]; rfl
theorem px_pw_mm (a b n : Nat) : px_pw (px_m a b) n = px_m (px_pw a n) (px_pw b n) := by
  induction n with
  | zero => exact (px_m_one 1).symm
  | succ n ih =>
    show px_m (px_pw (px_m a b) n) (px_m a b) = px_m (px_m (px_pw a n) a) (px_m (px_pw b n) b)
    rw [ih, px_m_assoc, px_m_assoc, px_m_left_comm (px_pw b n) a b]
theorem px_pw_one_left (n : Nat) : px_pw 1 n = 1 := by
  induction n with
  | zero => rfl
  | succ n ih => show px_m (px_pw 1 n) 1 = 1; rw [px_m_one, ih]
theorem px_pw_mul (a m n : Nat) : px_pw a (m * n) = px_pw (px_pw a m) n := by
  induction n with
  | zero => rfl
  | succ n ih => rw [Nat.mul_succ, px_pw_add, ih]; rfl
theorem px_pw_dbl (a n : Nat) : px_pw a (2 * n) = px_m (px_pw a n) (px_pw a n) := by
  rw [show 2 * n = n + n by omega, px_pw_add]
theorem px_sq (a b : Nat) : px_m (a ^^^ b) (a ^^^ b) = px_m a a ^^^ px_m b b := by
  rw [px_m_xor_left, px_m_xor_right, px_m_xor_right, px_m_comm b a]
  generalize px_m a b = z
  rw [show px_m a a ^^^ z ^^^ (z ^^^ px_m b b) = px_m a a ^^^ px_m b b ^^^ z ^^^ z by ac_rfl, px_cc]
theorem px_frob (a b k : Nat) : px_pw (a ^^^ b) (2 ^ k) = px_pw a (2 ^ k) ^^^ px_pw b (2 ^ k) := by
  induction k with
  | zero => simp only [Nat.pow_zero, px_pw_one]
  | succ k ih => rw [Nat.pow_succ, Nat.mul_comm, px_pw_dbl, px_pw_dbl, px_pw_dbl, ih, px_sq]
theorem px_cg_pw {p a b : Nat} (h : px_cg p a b) (n : Nat) : px_cg p (px_pw a n) (px_pw b n) := by
  induction n with
  | zero => exact px_cg_refl p 1
  | succ n ih => exact px_cg_m ih h
theorem px_pw_two (k : Nat) : px_pw 2 k = 2 ^ k := by
  induction k with
  | zero => rfl
  | succ k ih => show px_m (px_pw 2 k) 2 = _; rw [px_m_two, ih, Nat.pow_succ, Nat.mul_comm]
end
section
/-! common divisors, irreducible ones, and what they divide -/
def px_G (g a b : Nat) : Prop := px_dv g a ∧ px_dv g b ∧ ∃ u v, g = px_m u a ^^^ px_m v b
theorem px_G_ex : ∀ b a : Nat, ∃ g, px_G g a b := by
  intro b
  induction b using Nat.strongRecOn with
  | _ b ih =>
    intro a
    by_cases hb : b = 0
    · subst hb
      exact ⟨a, px_dv_refl a, px_dv_zero a, 1, 0, by rw [px_m_one_left, px_m_zero, Nat.xor_zero]⟩
    · obtain ⟨q, r, e, hr⟩ := px_div (px_lg1 hb) (px_lg2 b) a
      obtain ⟨g, h1, h2, u, v, hg⟩ := ih r (Nat.lt_of_lt_of_le hr (px_lg1 hb)) b
      refine ⟨g, ?_, h1, v, u ^^^ px_m v q, ?_⟩
      · rw [e]; exact px_dv_xor (px_dv_mr h1 q) h2
      · have er : r = a ^^^ px_m q b := by
          rw [e, Nat.xor_comm (px_m q b) r, px_cc]
        rw [hg, er, px_m_xor_right, px_m_xor_left, ← px_m_assoc]
        ac_rfl
theorem px_G_dv {g a b d : Nat} (h : px_G g a b) (h1 : px_dv d a) (h2 : px_dv d b) : px_dv d g := by
  obtain ⟨-, -, u, v, e⟩ := h
  rw [e]
  exact px_dv_xor (px_dv_mr h1 u) (px_dv_mr h2 v)
theorem px_G_self (a : Nat) : px_G a a 0 := ⟨px_dv_refl a, px_dv_zero a, 1, 0, by rw [px_m_one_left, px_m_zero, Nat.xor_zero]⟩
/-- one turn of Euclid -/
theorem px_G_turn {g a b q r : Nat} (e : a = px_m q b ^^^ r) (h : px_G g b r) : px_G g a b := by
  obtain ⟨h1, h2, u, v, hg⟩ := h
  refine ⟨?_, h1, v, u ^^^ px_m v q, ?_⟩
  · rw [e]; exact px_dv_xor (px_dv_mr h1 q) h2
  · have er : r = a ^^^ px_m q b := by
      rw [e, Nat.xor_comm (px_m q b) r, px_cc]
    rw [hg, er, px_m_xor_right, px_m_xor_left, ← px_m_assoc]
    ac_rfl
def px_ir (f : Nat) : Prop := 2 ≤ f ∧ ∀ a b, f = px_m a b → a = 1 ∨ b = 1
theorem px_ir_ne {f : Nat} (h : px_ir f) : f ≠ 0 := by have := h.1; omega
theorem px_ir_dv {f g : Nat} (h : px_ir f) (hg : px_dv g f) : g = 1 ∨ g = f := by
  obtain ⟨q, e⟩ := hg
  rcases h.2 _ _ e with h1 | h1
  · exact Or.inl h1
  · right; rw [e, h1, px_m_one]
theorem px_euclid {f a b : Nat} (h : px_ir f) (hd : px_dv f (px_m a b)) : px_dv f a ∨ px_dv f b := by
  obtain ⟨g, h1, h2, u, v, hg⟩ := px_G_ex a f
  rcases px_ir_dv h h1 with e | e
  · right
    have e2 : b = px_m (px_m u f) b ^^^ px_m (px_m v a) b := by
      rw [← px_m_xor_left, ← hg, e, px_m_one_left]
    rw [e2]
    refine px_dv_xor (px_dv_ml (px_dv_m' f u) b) ?_
    rw [px_m_assoc]
    exact px_dv_mr hd v
  · left; rw [← e]; exact h2
theorem px_lt_of_log {a b : Nat} (hb : b ≠ 0) (h : a.log2 < b.log2) : a < b := by
  have h1 := px_lg2 a
  have h2 := px_lg1 hb
  have h3 : 2 ^ (a.log2 + 1) ≤ 2 ^ b.log2 := Nat.pow_le_pow_right (by decide) h
  omega
theorem px_log_pos {a : Nat} (h : 2 ≤ a) : 1 ≤ a.log2 := (Nat.le_log2 (by omega)).2 (by simpa using h)
theorem px_two_le {a : Nat} (h : a ≠ 0) (h1 : a ≠ 1) : 2 ≤ a := by omega
/-- a product of two that are no 1: both of lesser degrees -/
theorem px_fac_lt {a b : Nat} (h : px_m a b ≠ 0) (ha : a ≠ 1) (hb : b ≠ 1) : a.log2 < (px_m a b).log2 ∧ b.log2 < (px_m a b).log2 ∧ 2 ≤ a ∧ 2 ≤ b := by
  have ha0 : a ≠ 0 := fun e => h (by rw [e, px_m_zero_left])
  have hb0 : b ≠ 0 := fun e => h (by rw [e, px_m_zero])
  have h1 := px_log ha0 hb0
  have h2 := px_log_pos (px_two_le ha0 ha)
  have h3 := px_log_pos (px_two_le hb0 hb)
  exact ⟨by omega, by omega, px_two_le ha0 ha, px_two_le hb0 hb⟩
theorem px_ir_ex : ∀ a : Nat, 2 ≤ a → ∃ f, px_ir f ∧ px_dv f a := by
  intro a
  induction a using Nat.strongRecOn with
  | _ a ih =>
    intro ha
    by_cases hi : px_ir a
    · exact ⟨a, hi, px_dv_refl a⟩
    · have : ∃ b c, a = px_m b c ∧ b ≠ 1 ∧ c ≠ 1 := by
        apply Classical.byContradiction
        intro hn
        apply hi
        refine ⟨ha, fun b c e => ?_⟩
        by_cases h1 : b = 1
        · exact Or.inl h1
        · by_cases h2 : c = 1
          · exact Or.inr h2
          · exact absurd ⟨b, c, e, h1, h2⟩ hn
      obtain ⟨b, c, e, h1, h2⟩ := this
      obtain ⟨q1, -, q3, -⟩ := px_fac_lt (a := b) (b := c) (by omega) h1 h2
      rw [← e] at q1
      obtain ⟨f, hf, hd⟩ := ih b (px_lt_of_log (by omega) q1) q3
      exact ⟨f, hf, px_dv_trans hd ⟨c, e⟩⟩
/-- if all irreducible divisors of p divide g, p divides a power of g -/
theorem px_rad : ∀ (n p g : Nat), p ≠ 0 → p.log2 ≤ n → (∀ f, px_ir f → px_dv f p → px_dv f g) → px_dv p (px_pw g n) := by
  intro n
  induction n with
  | zero =>
    intro p g hp hn hall
    have h := px_lg2 p
    rw [show p.log2 = 0 by omega] at h
    rw [show p = 1 by simp at h; omega]
    exact px_dv_one _
  | succ n ih =>
    intro p g hp hn hall
    by_cases h1 : p = 1
    · rw [h1]; exact px_dv_one _
    · obtain ⟨f, hf, q, e⟩ := px_ir_ex p (px_two_le hp h1)
      have hq : q ≠ 0 := fun e2 => hp (by rw [e, e2, px_m_zero])
      have hl := px_log (px_ir_ne hf) hq
      rw [← e] at hl
      have := px_log_pos hf.1
      have hq2 := ih q g hq (by omega) (fun f' hf' hd => hall f' hf' (px_dv_trans hd ⟨f, by rw [e, px_m_comm]⟩))
      obtain ⟨u, eu⟩ := hq2
      obtain ⟨v, ev⟩ := hall f hf ⟨q, e⟩
      refine ⟨px_m u v, ?_⟩
      show px_m (px_pw g n) g = _
      rw [eu, e]
      conv => lhs; rw [ev]
      rw [px_m_assoc, px_m_assoc, px_m_left_comm f q, px_m_left_comm f u]
/-! the product of all residues but 0: x^(2^d - 1) leaves 1 -/
def px_pd : List Nat → Nat
  | [] => 1
  | a :: l => px_m a (px_pd l)
theorem px_pd_perm {l1 l2 : List Nat} (h : l1.Perm l2) : px_pd l1 = px_pd l2 := by
  induction h with
  | nil => rfl
  | cons a _ ih => show px_m a _ = px_m a _; rw [ih]
  | swap a b l => show px_m b (px_m a (px_pd l)) = px_m a (px_m b (px_pd l)); exact px_m_left_comm _ _ _
  | trans _ _ ih1 ih2 => exact ih1.trans ih2
theorem px_perm_of : ∀ (l1 l2 : List Nat), l1.Nodup → (∀ a ∈ l1, a ∈ l2) → l2.length ≤ l1.length → l1.Perm l2 := by
  intro l1
  induction l1 with
  | nil =>
    intro l2 _ _ h
    have e : l2 = [] := List.eq_nil_of_length_eq_zero (Nat.le_zero.mp h)
    subst e
    exact List.Perm.refl _
  | cons a t ih =>
    intro l2 hn hs hl
    obtain ⟨ha, ht⟩ := List.nodup_cons.mp hn
    have hm : a ∈ l2 := hs a List.mem_cons_self
    have h2 := List.length_erase_of_mem hm
    refine ((ih (l2.erase a) ht (fun b hb => ?_) ?_).cons a).trans (List.perm_cons_erase hm).symm
    · exact (List.mem_erase_of_ne (fun e : b = a => ha (by rw [← e]; exact hb))).mpr (hs b (List.mem_cons_of_mem _ hb))
    · simp only [List.length_cons] at hl
      omega
def px_st (f d r : Nat) : Nat := if 2 * r < 2 ^ d then 2 * r else 2 * r ^^^ f
theorem px_st_lt {f d r : Nat} (hf : 2 ^ d ≤ f) (hf' : f < 2 ^ (d + 1)) (hr : r < 2 ^ d) : px_st f d r < 2 ^ d := by
  unfold px_st
  split
  · assumption
  · exact px_tops (by omega) (by rw [Nat.pow_succ]; omega) hf hf'
theorem px_st_cg (f d r : Nat) : px_cg f (px_st f d r) (px_m 2 r) := by
  rw [px_m_comm, px_m_two]
  unfold px_st
  split
  · exact px_cg_refl _ _
  · unfold px_cg
    rw [Nat.xor_comm (2 * r) f, px_cc]
    exact px_dv_refl f
theorem px_pd_st (f d : Nat) : ∀ l : List Nat, px_cg f (px_pd (l.map (px_st f d))) (px_m (px_pw 2 l.length) (px_pd l)) := by
  intro l
  induction l with
  | nil => exact px_cg_of (px_m_one 1).symm
  | cons a t ih =>
    show px_cg f (px_m (px_st f d a) (px_pd (t.map (px_st f d)))) (px_m (px_m (px_pw 2 t.length) 2) (px_m a (px_pd t)))
    refine px_cg_trans (px_cg_m (px_st_cg f d a) ih) (px_cg_of ?_)
    rw [px_m_assoc, px_m_assoc, px_m_left_comm a (px_pw 2 t.length), px_m_left_comm 2 (px_pw 2 t.length)]
theorem px_pd_dv {f : Nat} (hf : px_ir f) : ∀ l : List Nat, (∀ a ∈ l, ¬ px_dv f a) → ¬ px_dv f (px_pd l) := by
  intro l
  induction l with
  | nil => intro _ h; have := px_dv_unit h; have := hf.1; omega
  | cons a t ih =>
    intro hl h
    rcases px_euclid hf h with h1 | h1
    · exact hl a List.mem_cons_self h1
    · exact ih (fun b hb => hl b (List.mem_cons_of_mem _ hb)) h1
theorem px_odd_dv2 {f : Nat} (hf : 2 ≤ f) (ho : f % 2 = 1) : ¬ px_dv f 2 := by
  rintro ⟨q, e⟩
  by_cases hq : q = 0
  · rw [hq, px_m_zero] at e; omega
  · have hl := px_log (a := f) (b := q) (by omega) hq
    rw [← e] at hl
    have h1 := px_log_pos hf
    have h2 : Nat.log2 2 = 1 := px_lg (i := 1) (by decide) (by decide)
    have hq0 : q.log2 = 0 := by omega
    have := px_lg2 q
    rw [hq0] at this
    have : q = 1 := by simp at this; omega
    rw [this, px_m_one] at e
    omega
theorem px_fermat {f d : Nat} (hf : px_ir f) (ho : f % 2 = 1) (h1 : 2 ^ d ≤ f) (h2 : f < 2 ^ (d + 1)) : px_dv f (2 ^ (2 ^ d - 1) ^^^ 1) := by
  have hS : ∀ a ∈ List.range' 1 (2 ^ d - 1), ¬ px_dv f a := by
    intro a ha hd
    rw [List.mem_range'_1] at ha
    have := px_dv_small hd (j := d) (by omega) h1
    omega
  have hlen : (List.range' 1 (2 ^ d - 1)).length = 2 ^ d - 1 := List.length_range'
  have hnd : ((List.range' 1 (2 ^ d - 1)).map (px_st f d)).Nodup := by
    unfold List.Nodup
    rw [List.pairwise_map]
    refine List.Pairwise.imp_of_mem ?_ (List.nodup_range' (s := 1) (n := 2 ^ d - 1))
    intro a b ha hb hab e
    rw [List.mem_range'_1] at ha hb
    apply hab
    have hc : px_cg f (px_m 2 a) (px_m 2 b) := by
      refine px_cg_trans (px_cg_symm (px_st_cg f d a)) ?_
      rw [e]
      exact px_st_cg f d b
    unfold px_cg at hc
    rw [← px_m_xor_right] at hc
    rcases px_euclid hf hc with h3 | h3
    · exact absurd h3 (px_odd_dv2 hf.1 ho)
    · exact px_uniq h1 (by omega) (by omega) h3
  have hsub : ∀ a ∈ (List.range' 1 (2 ^ d - 1)).map (px_st f d), a ∈ List.range' 1 (2 ^ d - 1) := by
    intro a ha
    obtain ⟨r, hr, rfl⟩ := List.mem_map.mp ha
    have hr' := hr
    rw [List.mem_range'_1] at hr ⊢
    have hlt := px_st_lt h1 h2 (r := r) (by omega)
    have hne : px_st f d r ≠ 0 := by
      intro e
      have hc := px_st_cg f d r
      rw [e] at hc
      unfold px_cg at hc
      rw [Nat.zero_xor] at hc
      rcases px_euclid hf hc with h3 | h3
      · exact px_odd_dv2 hf.1 ho h3
      · exact hS r hr' h3
    omega
  have hperm := px_perm_of _ _ hnd hsub (by rw [List.length_map]; exact Nat.le_refl _)
  have hc := px_pd_st f d (List.range' 1 (2 ^ d - 1))
  rw [px_pd_perm hperm, hlen, px_pw_two] at hc
  unfold px_cg at hc
  have e : px_pd (List.range' 1 (2 ^ d - 1)) ^^^ px_m (2 ^ (2 ^ d - 1)) (px_pd (List.range' 1 (2 ^ d - 1))) = px_m (2 ^ (2 ^ d - 1) ^^^ 1) (px_pd (List.range' 1 (2 ^ d - 1))) := by
    rw [px_m_xor_left, px_m_one_left, Nat.xor_comm]
  rw [e] at hc
  rcases px_euclid hf hc with h3 | h3
  · exact h3
  · exact absurd h3 (px_pd_dv hf _ hS)
theorem px_fermat2 {f d : Nat} (hf : px_ir f) (ho : f % 2 = 1) (h1 : 2 ^ d ≤ f) (h2 : f < 2 ^ (d + 1)) : px_dv f (2 ^ 2 ^ d ^^^ 2) := by
  have h := px_dv_ml (px_fermat hf ho h1 h2) 2
  rw [px_m_xor_left, px_m_one_left, px_m_two] at h
  have e : 2 * 2 ^ (2 ^ d - 1) = 2 ^ 2 ^ d := by
    have := Nat.two_pow_pos d
    rw [Nat.mul_comm, ← Nat.pow_succ, show Nat.succ (2 ^ d - 1) = 2 ^ d by omega]
  rwa [e] at h
/-! roots: a polynomial of degree D has no more than D roots among the residues modulo an irreducible one -/
def px_ev : List Nat → Nat → Nat
  | [], _ => 1
  | c :: l, y => px_m y (px_ev l y) ^^^ c
def px_qu (a : Nat) : List Nat → List Nat
  | [] => []
  | [_] => []
  | _ :: c :: l => px_ev (c :: l) a :: px_qu a (c :: l)
theorem px_qu_len (a : Nat) : ∀ l : List Nat, (px_qu a l).length = l.length - 1
  | [] => rfl
  | [_] => rfl
  | _ :: c :: l => by
    show (px_qu a (c :: l)).length + 1 = _
    rw [px_qu_len a (c :: l)]
    simp
theorem px_qu_ok (a y : Nat) : ∀ (l : List Nat), l ≠ [] → px_ev l y ^^^ px_ev l a = px_m (y ^^^ a) (px_ev (px_qu a l) y)
  | [], h => absurd rfl h
  | [c], _ => by
    show px_m y 1 ^^^ c ^^^ (px_m a 1 ^^^ c) = px_m (y ^^^ a) 1
    rw [px_m_one, px_m_one, px_m_one, show y ^^^ c ^^^ (a ^^^ c) = y ^^^ a ^^^ c ^^^ c by ac_rfl, px_cc]
  | c :: d :: l, _ => by
    have ih := px_qu_ok a y (d :: l) (by simp)
    show px_m y (px_ev (d :: l) y) ^^^ c ^^^ (px_m a (px_ev (d :: l) a) ^^^ c) = px_m (y ^^^ a) (px_m y (px_ev (px_qu a (d :: l)) y) ^^^ px_ev (d :: l) a)
    generalize px_ev (d :: l) y = Ey at *
    generalize px_ev (d :: l) a = Ea at *
    rw [px_m_xor_right, px_m_left_comm, ← ih, px_m_xor_right, px_m_xor_left]
    rw [show px_m y Ey ^^^ c ^^^ (px_m a Ea ^^^ c) = px_m y Ey ^^^ px_m a Ea ^^^ c ^^^ c by ac_rfl, px_cc]
    rw [show px_m y Ey ^^^ px_m y Ea ^^^ (px_m y Ea ^^^ px_m a Ea) = px_m y Ey ^^^ px_m a Ea ^^^ px_m y Ea ^^^ px_m y Ea by ac_rfl, px_cc]
theorem px_roots {p n : Nat} (hp : px_ir p) (hn : 2 ^ n ≤ p) : ∀ (k : Nat) (l R : List Nat), l.length = k → R.Nodup → (∀ a ∈ R, a < 2 ^ n ∧ px_dv p (px_ev l a)) → R.length ≤ k := by
  intro k
  induction k with
  | zero =>
    intro l R hl hR h
    rw [List.eq_nil_of_length_eq_zero hl] at h
    cases R with
    | nil => exact Nat.le_refl _
    | cons a R =>
      have := px_dv_unit (h a List.mem_cons_self).2
      have := hp.1
      omega
  | succ k ih =>
    intro l R hl hR h
    cases R with
    | nil => exact Nat.zero_le _
    | cons a R =>
      obtain ⟨ha, hR'⟩ := List.nodup_cons.mp hR
      have h0 := h a List.mem_cons_self
      have := ih (px_qu a l) R (by rw [px_qu_len, hl]; rfl) hR' (fun b hb => by
        have hb' := h b (List.mem_cons_of_mem _ hb)
        refine ⟨hb'.1, ?_⟩
        have hd := px_dv_xor hb'.2 h0.2
        rw [px_qu_ok a b l (fun e => by rw [e] at hl; cases hl)] at hd
        rcases px_euclid hp hd with h1 | h1
        · exact absurd (px_uniq hn hb'.1 h0.1 h1) (fun e => ha (e ▸ hb))
        · exact h1)
      simp only [List.length_cons]
      omega
theorem px_ev_zeros (y : Nat) : ∀ k, px_ev (List.replicate k 0) y = px_pw y k
  | 0 => rfl
  | k + 1 => by
    show px_m y (px_ev (List.replicate k 0) y) ^^^ 0 = px_m (px_pw y k) y
    rw [px_ev_zeros y k, Nat.xor_zero, px_m_comm]
/-- for every residue y: y^(2^d) leaves y, if x^(2^d) leaves x -/
theorem px_all {p d : Nat} (h : px_cg p (2 ^ 2 ^ d) 2) : ∀ y : Nat, px_cg p (px_pw y (2 ^ d)) y := by
  intro y
  induction y using px_bin with
  | h0 =>
    have hz : ∀ k, px_pw 0 (k + 1) = 0 := fun k => by show px_m (px_pw 0 k) 0 = 0; exact px_m_zero _
    have := Nat.two_pow_pos d
    rw [show 2 ^ d = 2 ^ d - 1 + 1 by omega, hz]
    exact px_cg_refl p 0
  | h y ih =>
    rw [← px_m_two, px_pw_mm, px_pw_two]
    exact px_cg_m ih h
  | h1 y ih =>
    rw [← px_d1, px_frob, px_pw_one_left, ← px_m_two, px_pw_mm, px_pw_two]
    exact px_cg_xor (px_cg_m ih h) (px_cg_refl p 1)
theorem px_big {p n d : Nat} (hp : px_ir p) (hn : 2 ^ n ≤ p) (hd : 1 ≤ d) (h : px_dv p (2 ^ 2 ^ d ^^^ 2)) : n ≤ d := by
  have h2 : 2 ^ 1 ≤ 2 ^ d := Nat.pow_le_pow_right (by decide) hd
  have hlen : (0 :: 1 :: List.replicate (2 ^ d - 2) 0).length = 2 ^ d := by
    simp only [List.length_cons, List.length_replicate]
    omega
  have hr := px_roots hp hn (2 ^ d) (0 :: 1 :: List.replicate (2 ^ d - 2) 0) (List.range (2 ^ n)) hlen List.nodup_range (fun a ha => by
    refine ⟨List.mem_range.mp ha, ?_⟩
    show px_dv p (px_m a (px_m a (px_ev (List.replicate (2 ^ d - 2) 0) a) ^^^ 1) ^^^ 0)
    rw [Nat.xor_zero, px_m_xor_right, px_m_one, px_ev_zeros]
    have e : px_m a (px_m a (px_pw a (2 ^ d - 2))) = px_pw a (2 ^ d) := by
      rw [show px_pw a (2 ^ d) = px_pw a (2 ^ d - 2 + 1 + 1) by rw [show 2 ^ d - 2 + 1 + 1 = 2 ^ d by omega]]
      show _ = px_m (px_m (px_pw a (2 ^ d - 2)) a) a
      rw [px_m_comm (px_pw a (2 ^ d - 2)) a, px_m_comm _ a]
    rw [e]
    exact px_all h a)
  rw [List.length_range] at hr
  exact (Nat.pow_le_pow_iff_right (by decide)).mp hr
end
section
/-! orders: px_o p k: x^k leaves 1 -/
def px_o (p k : Nat) : Prop := px_dv p (2 ^ k ^^^ 1)
theorem px_2add (a b : Nat) : 2 ^ (a + b) = px_m (2 ^ a) (2 ^ b) := by rw [← px_pw_two, ← px_pw_two, ← px_pw_two, px_pw_add]
theorem px_o_0 (p : Nat) : px_o p 0 := by unfold px_o; rw [Nat.pow_zero, Nat.xor_self]; exact px_dv_zero p
theorem px_o_add {p a b : Nat} (ha : px_o p a) (hb : px_o p b) : px_o p (a + b) := by
  have h : px_cg p (px_m (2 ^ a) (2 ^ b)) (px_m 1 1) := px_cg_m ha hb
  rw [px_m_one, ← px_2add] at h
  exact h
theorem px_o_sub {p a b : Nat} (h : px_o p (a + b)) (ha : px_o p a) : px_o p b := by
  have h1 : px_cg p (px_m (2 ^ a) (2 ^ b)) (px_m 1 (2 ^ b)) := px_cg_m ha (px_cg_refl p _)
  rw [px_m_one_left, ← px_2add] at h1
  exact px_cg_trans (px_cg_symm h1) h
theorem px_o_mul {p a : Nat} (ha : px_o p a) (k : Nat) : px_o p (a * k) := by
  induction k with
  | zero => exact px_o_0 p
  | succ k ih => rw [Nat.mul_succ]; exact px_o_add ih ha
theorem px_o_dvd {p a b : Nat} (ha : px_o p a) (h : a ∣ b) : px_o p b := by
  obtain ⟨k, rfl⟩ := h
  exact px_o_mul ha k
def px_ord (p k : Nat) : Prop := 0 < k ∧ px_o p k ∧ ∀ j, 0 < j → j < k → ¬ px_o p j
theorem px_ord_dvd {p k m : Nat} (h : px_ord p k) (hm : px_o p m) : k ∣ m := by
  have e := Nat.div_add_mod m k
  have h1 : px_o p (m % k) := by
    rw [← e] at hm
    exact px_o_sub hm (px_o_mul h.2.1 _)
  have h2 := Nat.mod_lt m h.1
  by_cases h0 : m % k = 0
  · exact Nat.dvd_of_mod_eq_zero h0
  · exact absurd h1 (h.2.2 _ (by omega) h2)
theorem px_ord_ex {p m : Nat} (h0 : 0 < m) (hm : px_o p m) : ∃ k, px_ord p k := by
  obtain ⟨k, ⟨h1, h2⟩, h3⟩ := pk_least (fun k => 0 < k ∧ px_o p k) ⟨m, h0, hm⟩
  exact ⟨k, h1, h2, fun j hj hjk hp => h3 j hjk ⟨hj, hp⟩⟩
theorem px_ord_uniq {p k j : Nat} (h1 : px_ord p k) (h2 : px_ord p j) : k = j := Nat.dvd_antisymm (px_ord_dvd h1 h2.2.1) (px_ord_dvd h2 h1.2.1)
/-! primes -/
def np (q : Nat) : Prop := 2 ≤ q ∧ ∀ d, d ∣ q → d = 1 ∨ d = q
theorem np_ex : ∀ n : Nat, 2 ≤ n → ∃ q, np q ∧ q ∣ n := by
  intro n
  induction n using Nat.strongRecOn with
  | _ n ih =>
    intro hn
    by_cases hp : np n
    · exact ⟨n, hp, Nat.dvd_refl n⟩
    · have : ∃ d, d ∣ n ∧ d ≠ 1 ∧ d ≠ n := by
        apply Classical.byContradiction
        intro hc
        apply hp
        refine ⟨hn, fun d hd => ?_⟩
        by_cases h1 : d = 1
        · exact Or.inl h1
        · by_cases h2 : d = n
          · exact Or.inr h2
          · exact absurd ⟨d, hd, h1, h2⟩ hc
      obtain ⟨d, hd, h1, h2⟩ := this
      have hle := Nat.le_of_dvd (by omega) hd
      have hd0 : d ≠ 0 := fun e => by rw [e] at hd; have := Nat.eq_zero_of_zero_dvd hd; omega
      obtain ⟨q, hq, hqd⟩ := ih d (by omega) (by omega)
      exact ⟨q, hq, Nat.dvd_trans hqd hd⟩
theorem np_euclid {q a b : Nat} (hq : np q) (h : q ∣ a * b) : q ∣ a ∨ q ∣ b := by
  rcases hq.2 (Nat.gcd q a) (Nat.gcd_dvd_left q a) with e | e
  · right
    have hc : Nat.Coprime q a := e
    exact hc.dvd_of_dvd_mul_left h
  · left
    rw [← e]
    exact Nat.gcd_dvd_right q a
theorem np_eq {q r : Nat} (hq : np q) (hr : np r) (h : q ∣ r) : q = r := by
  rcases hr.2 q h with e | e
  · have := hq.1; omega
  · exact e
def np_pr : List Nat → Nat
  | [] => 1
  | a :: l => a * np_pr l
theorem np_list {q : Nat} (hq : np q) : ∀ l : List Nat, q ∣ np_pr l → ∃ a ∈ l, q ∣ a
  | [], h => by
    have h1 : np_pr [] = 1 := rfl
    rw [h1] at h
    have := Nat.le_of_dvd (by decide) h
    have := hq.1
    omega
  | a :: l, h => by
    rcases np_euclid hq h with h1 | h1
    · exact ⟨a, List.mem_cons_self, h1⟩
    · obtain ⟨b, hb, hd⟩ := np_list hq l h1
      exact ⟨b, List.mem_cons_of_mem _ hb, hd⟩
def np_chk (q N : Nat) : Nat → Bool
  | 0 => true
  | f + 1 => (q % (N - f) != 0) && np_chk q N f
theorem np_chk_ok (q N : Nat) : ∀ f, np_chk q N f = true → ∀ d, N - f < d → d ≤ N → q % d ≠ 0 := by
  intro f
  induction f with
  | zero => intro _ d h1 h2; omega
  | succ f ih =>
    intro h d h1 h2
    simp only [np_chk, Bool.and_eq_true, bne_iff_ne, ne_eq] at h
    by_cases e : d = N - f
    · rw [e]; exact h.1
    · exact ih h.2 d (by omega) h2
theorem np_of {q N : Nat} (h2 : 2 ≤ q) (hN : q < (N + 1) * (N + 1)) (h1 : 1 ≤ N) (h : np_chk q N (N - 1) = true) : np q := by
  refine ⟨h2, fun d hd => ?_⟩
  obtain ⟨k, e⟩ := hd
  by_cases hd1 : d = 1
  · exact Or.inl hd1
  · by_cases hk1 : k = 1
    · right; rw [e, hk1, Nat.mul_one]
    · exfalso
      have hd0 : d ≠ 0 := fun z => by rw [z, Nat.zero_mul] at e; omega
      have hk0 : k ≠ 0 := fun z => by rw [z, Nat.mul_zero] at e; omega
      by_cases hle : d ≤ N
      · exact np_chk_ok q N _ h d (by omega) hle (by rw [e]; exact Nat.mul_mod_right d k)
      · by_cases hle2 : k ≤ N
        · exact np_chk_ok q N _ h k (by omega) hle2 (by rw [e]; exact Nat.mul_mod_left d k)
        · have := Nat.mul_le_mul (show N + 1 ≤ d by omega) (show N + 1 ≤ k by omega)
          omega
/-- an order, told by the primes of a multiple -/
theorem px_ord_crit {p m : Nat} (h0 : 0 < m) (hm : px_o p m) (h : ∀ q, np q → q ∣ m → ¬ px_o p (m / q)) : px_ord p m := by
  obtain ⟨k, hk⟩ := px_ord_ex h0 hm
  obtain ⟨t, e⟩ := px_ord_dvd hk hm
  by_cases ht : t = 1
  · rw [e, ht, Nat.mul_one]; exact hk
  · exfalso
    have ht0 : t ≠ 0 := fun z => by rw [z, Nat.mul_zero] at e; omega
    obtain ⟨q, hq, s, es⟩ := np_ex t (by omega)
    have hq0 := hq.1
    have e2 : m = q * (k * s) := by rw [e, es, Nat.mul_left_comm]
    refine h q hq ⟨k * s, e2⟩ ?_
    rw [e2, Nat.mul_div_cancel_left _ (by omega)]
    exact px_o_mul hk.2.1 s
theorem px_ord_crit' {p m : Nat} (h : px_ord p m) : ∀ q, np q → q ∣ m → ¬ px_o p (m / q) := by
  intro q hq hd
  have h0 := h.1
  have := hq.1
  refine h.2.2 _ (Nat.div_pos (Nat.le_of_dvd h0 hd) (by omega)) (Nat.div_lt_self h0 (by omega))
/-! the program's way: needless primes are divided out, one after the other -/
def ow_1 (o : Nat → Bool) (q : Nat) : Nat → Nat → Nat
  | 0, m => m
  | f + 1, m => if m % q = 0 then (if o (m / q) = true then ow_1 o q f (m / q) else m) else m
def ow_A (o : Nat → Bool) : List Nat → Nat → Nat
  | [], m => m
  | q :: l, m => ow_A o l (ow_1 o q 64 m)
theorem ow_1_ok {p : Nat} {o : Nat → Bool} (ho : ∀ e, o e = true ↔ px_o p e) {q : Nat} (hq : 2 ≤ q) : ∀ (f m : Nat), 0 < m → m < 2 ^ f → px_o p m → 0 < ow_1 o q f m ∧ px_o p (ow_1 o q f m) ∧ ow_1 o q f m ∣ m ∧ ¬ (q ∣ ow_1 o q f m ∧ px_o p (ow_1 o q f m / q)) := by
  intro f
  induction f with
  | zero => intro m h0 h1; simp at h1; omega
  | succ f ih =>
    intro m h0 h1 hm
    by_cases hd : m % q = 0
    · by_cases hx : o (m / q) = true
      · have e : ow_1 o q (f + 1) m = ow_1 o q f (m / q) := by simp only [ow_1, hd, hx, if_true]
        rw [e]
        have hle : q ≤ m := Nat.le_of_dvd h0 (Nat.dvd_of_mod_eq_zero hd)
        have hlt : m / q < 2 ^ f := by
          rw [Nat.div_lt_iff_lt_mul (by omega)]
          have : 2 ^ f * 2 ≤ 2 ^ f * q := Nat.mul_le_mul_left _ hq
          rw [Nat.pow_succ] at h1
          omega
        obtain ⟨q1, q2, q3, q4⟩ := ih (m / q) (Nat.div_pos hle (by omega)) hlt ((ho _).mp hx)
        exact ⟨q1, q2, Nat.dvd_trans q3 (Nat.div_dvd_of_dvd (Nat.dvd_of_mod_eq_zero hd)), q4⟩
      · have e : ow_1 o q (f + 1) m = m := by simp only [ow_1, hd, hx, if_true]; rfl
        rw [e]
        exact ⟨h0, hm, Nat.dvd_refl m, fun z => hx ((ho _).mpr z.2)⟩
    · have e : ow_1 o q (f + 1) m = m := by simp only [ow_1, hd, if_false]
      rw [e]
      exact ⟨h0, hm, Nat.dvd_refl m, fun z => hd (Nat.mod_eq_zero_of_dvd z.1)⟩
theorem ow_A_ok {p : Nat} {o : Nat → Bool} (ho : ∀ e, o e = true ↔ px_o p e) : ∀ (l : List Nat) (m : Nat), (∀ q ∈ l, 2 ≤ q) → 0 < m → m < 2 ^ 64 → px_o p m → 0 < ow_A o l m ∧ px_o p (ow_A o l m) ∧ ow_A o l m ∣ m ∧ ∀ q ∈ l, ¬ (q ∣ ow_A o l m ∧ px_o p (ow_A o l m / q)) := by
  intro l
  induction l with
  | nil => intro m _ h0 _ hm; exact ⟨h0, hm, Nat.dvd_refl m, fun q hq => absurd hq List.not_mem_nil⟩
  | cons a l ih =>
    intro m hl h0 h1 hm
    have ha : 2 ≤ a := hl a List.mem_cons_self
    obtain ⟨q1, q2, q3, q4⟩ := ow_1_ok ho ha 64 m h0 h1 hm
    have hle := Nat.le_of_dvd h0 q3
    obtain ⟨r1, r2, r3, r4⟩ := ih (ow_1 o a 64 m) (fun q hq => hl q (List.mem_cons_of_mem _ hq)) q1 (by omega) q2
    refine ⟨r1, r2, Nat.dvd_trans r3 q3, fun q hq => ?_⟩
    show ¬ (q ∣ ow_A o l (ow_1 o a 64 m) ∧ px_o p (ow_A o l (ow_1 o a 64 m) / q))
    rcases List.mem_cons.mp hq with e | e
    · subst e
      intro z
      refine q4 ⟨Nat.dvd_trans z.1 r3, px_o_dvd z.2 ?_⟩
      obtain ⟨k, ek⟩ := r3
      obtain ⟨j, ej⟩ := z.1
      have e1 : ow_A o l (ow_1 o q 64 m) / q = j := by rw [ej, Nat.mul_div_cancel_left _ (by omega)]
      have e2 : ow_1 o q 64 m = q * (j * k) := by rw [← Nat.mul_assoc, ← ej]; exact ek
      have e3 : ow_1 o q 64 m / q = j * k := by rw [e2, Nat.mul_div_cancel_left _ (by omega)]
      rw [e1, e3]
      exact ⟨k, rfl⟩
    · exact r4 q e
theorem ow_ord {p : Nat} {o : Nat → Bool} (ho : ∀ e, o e = true ↔ px_o p e) {l : List Nat} {m : Nat} (hl : ∀ q ∈ l, 2 ≤ q) (h0 : 0 < m) (h1 : m < 2 ^ 64) (hm : px_o p m) (hall : ∀ q, np q → q ∣ m → q ∈ l) : px_ord p (ow_A o l m) := by
  obtain ⟨r1, r2, r3, r4⟩ := ow_A_ok ho l m hl h0 h1 hm
  exact px_ord_crit r1 r2 (fun q hq hd hx => r4 q (hall q hq (Nat.dvd_trans hd r3)) ⟨hd, hx⟩)
/-! the other way: trial division up to the root -/
def td_1 (q : Nat) : Nat → Nat → Nat
  | 0, r => r
  | f + 1, r => if r % q = 0 then td_1 q f (r / q) else r
def td_A (o : Nat → Bool) (all : Nat) : Nat → Nat → Nat → Bool → Nat × Bool
  | 0, _, r, b => (r, b)
  | f + 1, q, r, b => if q * q ≤ all then td_A o all f (q + 1) (td_1 q 64 r) (if r % q = 0 then (b && !(o (all / q))) else b) else (r, b)
theorem td_1_ok {q : Nat} (hq : 2 ≤ q) : ∀ (f r : Nat), 0 < r → r < 2 ^ f → 0 < td_1 q f r ∧ td_1 q f r ∣ r ∧ ¬ q ∣ td_1 q f r ∧ ∀ t, np t → t ∣ r → t ∣ q ∨ t ∣ td_1 q f r := by
  intro f
  induction f with
  | zero => intro r h0 h1; simp at h1; omega
  | succ f ih =>
    intro r h0 h1
    by_cases hd : r % q = 0
    · have e : td_1 q (f + 1) r = td_1 q f (r / q) := by simp only [td_1, hd, if_true]
      rw [e]
      have hdv := Nat.dvd_of_mod_eq_zero hd
      have hle : q ≤ r := Nat.le_of_dvd h0 hdv
      have hlt : r / q < 2 ^ f := by
        rw [Nat.div_lt_iff_lt_mul (by omega)]
        have : 2 ^ f * 2 ≤ 2 ^ f * q := Nat.mul_le_mul_left _ hq
        rw [Nat.pow_succ] at h1
        omega
      obtain ⟨q1, q2, q3, q4⟩ := ih (r / q) (Nat.div_pos hle (by omega)) hlt
      refine ⟨q1, Nat.dvd_trans q2 (Nat.div_dvd_of_dvd hdv), q3, fun t ht htr => ?_⟩
      rw [← Nat.mul_div_cancel' hdv] at htr
      rcases np_euclid ht htr with h2 | h2
      · exact Or.inl h2
      · exact q4 t ht h2
    · have e : td_1 q (f + 1) r = r := by simp only [td_1, hd, if_false]
      rw [e]
      exact ⟨h0, Nat.dvd_refl r, fun z => hd (Nat.mod_eq_zero_of_dvd z), fun t _ h => Or.inr h⟩
/-- what holds at q: rest divides all; its primes are q or more; a prime of all that is q or more divides rest; b tells the primes below q -/
def td_I (o : Nat → Bool) (all q r : Nat) (b : Bool) : Prop :=
  0 < r ∧ r ∣ all ∧ (∀ t, np t → t ∣ r → q ≤ t) ∧ (∀ t, np t → t ∣ all → q ≤ t → t ∣ r) ∧ (b = true ↔ ∀ t, np t → t ∣ all → t < q → o (all / t) = false)
theorem td_turn {o : Nat → Bool} {all q r : Nat} {b : Bool} (hall : 0 < all) (hlt : all < 2 ^ 64) (hq : 2 ≤ q) (h : td_I o all q r b) : td_I o all (q + 1) (td_1 q 64 r) (if r % q = 0 then (b && !(o (all / q))) else b) := by
  obtain ⟨h1, h2, h3, h4, h5⟩ := h
  have hle := Nat.le_of_dvd hall h2
  obtain ⟨q1, q2, q3, q4⟩ := td_1_ok hq 64 r h1 (by omega)
  refine ⟨q1, Nat.dvd_trans q2 h2, fun t ht htr => ?_, fun t ht hta hle2 => ?_, ?_⟩
  · have := h3 t ht (Nat.dvd_trans htr q2)
    by_cases e : t = q
    · subst e; exact absurd htr q3
    · omega
  · rcases q4 t ht (h4 t ht hta (by omega)) with h6 | h6
    · have := Nat.le_of_dvd (by omega) h6
      omega
    · exact h6
  · by_cases hd : r % q = 0
    · have hdv := Nat.dvd_of_mod_eq_zero hd
      have hpq : np q := by
        obtain ⟨t, ht, htq⟩ := np_ex q hq
        have := h3 t ht (Nat.dvd_trans htq hdv)
        have := Nat.le_of_dvd (by omega) htq
        have : t = q := by omega
        rwa [← this]
      rw [if_pos hd, Bool.and_eq_true, h5]
      constructor
      · rintro ⟨a1, a2⟩ t ht hta hlt2
        by_cases e : t = q
        · subst e; simpa using a2
        · exact a1 t ht hta (by omega)
      · intro a
        refine ⟨fun t ht hta hlt2 => a t ht hta (by omega), ?_⟩
        have := a q hpq (Nat.dvd_trans hdv h2) (by omega)
        simp [this]
    · rw [if_neg hd, h5]
      constructor
      · intro a t ht hta hlt2
        by_cases e : t = q
        · subst e
          exact absurd (Nat.mod_eq_zero_of_dvd (h4 t ht hta (Nat.le_refl _))) hd
        · exact a t ht hta (by omega)
      · intro a t ht hta hlt2
        exact a t ht hta (by omega)
theorem td_A_ok {o : Nat → Bool} {all : Nat} (hall : 0 < all) (hlt : all < 2 ^ 64) : ∀ (f q r : Nat) (b : Bool), 2 ≤ q → all < (q + f) * (q + f) → td_I o all q r b → ∃ q', 2 ≤ q' ∧ all < q' * q' ∧ td_I o all q' (td_A o all f q r b).1 (td_A o all f q r b).2 := by
  intro f
  induction f with
  | zero => intro q r b hq hlt2 h; exact ⟨q, hq, hlt2, h⟩
  | succ f ih =>
    intro q r b hq hlt2 h
    by_cases hc : q * q ≤ all
    · have e : td_A o all (f + 1) q r b = td_A o all f (q + 1) (td_1 q 64 r) (if r % q = 0 then (b && !(o (all / q))) else b) := by simp only [td_A, hc, if_true]
      rw [e]
      exact ih (q + 1) _ _ (by omega) (by rw [show q + 1 + f = q + (f + 1) by omega]; exact hlt2) (td_turn hall hlt hq h)
    · have e : td_A o all (f + 1) q r b = (r, b) := by simp only [td_A, hc, if_false]
      rw [e]
      exact ⟨q, hq, by omega, h⟩
theorem td_end {o : Nat → Bool} {all q r : Nat} {b : Bool} (hall : 0 < all) (h : td_I o all q r b) (hq : all < q * q) : (b = true ∧ (r = 1 ∨ (r = all ∧ all = 1) ∨ o (all / r) = false)) ↔ ∀ t, np t → t ∣ all → o (all / t) = false := by
  obtain ⟨h1, h2, h3, h4, h5⟩ := h
  have hr1 : r = 1 ∨ np r := by
    by_cases e : r = 1
    · exact Or.inl e
    · right
      refine ⟨by omega, fun d hd => ?_⟩
      by_cases hd1 : d = 1
      · exact Or.inl hd1
      · right
        obtain ⟨k, ek⟩ := hd
        by_cases hk1 : k = 1
        · rw [ek, hk1, Nat.mul_one]
        · exfalso
          have hd0 : d ≠ 0 := fun z => by rw [z, Nat.zero_mul] at ek; omega
          have hk0 : k ≠ 0 := fun z => by rw [z, Nat.mul_zero] at ek; omega
          obtain ⟨t, ht, htd⟩ := np_ex d (by omega)
          obtain ⟨u, hu, huk⟩ := np_ex k (by omega)
          have a1 := h3 t ht (Nat.dvd_trans htd ⟨k, ek⟩)
          have a2 := h3 u hu (Nat.dvd_trans huk ⟨d, by rw [ek, Nat.mul_comm]⟩)
          have a3 := Nat.le_of_dvd (by omega) htd
          have a4 := Nat.le_of_dvd (by omega) huk
          have a5 := Nat.mul_le_mul (show q ≤ d by omega) (show q ≤ k by omega)
          have a6 := Nat.le_of_dvd hall h2
          omega
  constructor
  · rintro ⟨hb, hc⟩ t ht hta
    by_cases hlt : t < q
    · exact h5.mp hb t ht hta hlt
    · have htr := h4 t ht hta (by omega)
      have := ht.1
      have := Nat.le_of_dvd h1 htr
      rcases hr1 with e | e
      · omega
      · have et := np_eq ht e htr
        subst et
        rcases hc with c | c | c
        · omega
        · omega
        · exact c
  · intro a
    refine ⟨h5.mpr (fun t ht hta _ => a t ht hta), ?_⟩
    rcases hr1 with e | e
    · exact Or.inl e
    · exact Or.inr (Or.inr (a r e h2))
theorem td_prim {p : Nat} {o : Nat → Bool} (ho : ∀ e, o e = true ↔ px_o p e) {all : Nat} (hall : 0 < all) (hx : px_o p all) : (∀ t, np t → t ∣ all → o (all / t) = false) ↔ px_ord p all := by
  constructor
  · intro a
    refine px_ord_crit hall hx (fun q hq hd hc => ?_)
    have := a q hq hd
    rw [(ho _).mpr hc] at this
    cases this
  · intro h t ht hta
    have := px_ord_crit' h t ht hta
    cases hv : o (all / t)
    · rfl
    · exact absurd ((ho _).mp hv) this
theorem td_start {o : Nat → Bool} {all : Nat} (hall : 0 < all) : td_I o all 2 all true :=
  ⟨hall, Nat.dvd_refl all, fun _ ht _ => ht.1, fun _ _ h _ => h, ⟨fun _ t ht _ hlt => by have := ht.1; omega, fun _ => rfl⟩⟩
/-! the program's table -/
def pr_T : List Nat := [2, 3, 5, 7, 11, 13, 17, 19, 23, 29, 31, 41, 43, 47, 73, 89, 113, 127, 151, 233, 241, 257, 331, 337, 601, 683, 1103, 1801, 2089, 2731, 8191, 65537, 131071, 178481, 262657, 524287, 2147483647]
def pr_F : List (List Nat) := [[], [], [3], [7], [3, 5], [31], [3, 3, 7], [127], [3, 5, 17], [7, 73], [3, 11, 31], [23, 89], [3, 3, 5, 7, 13], [8191], [3, 43, 127], [7, 31, 151], [3, 5, 17, 257], [131071], [3, 3, 3, 7, 19, 73], [524287], [3, 5, 5, 11, 31, 41], [7, 7, 127, 337], [3, 23, 89, 683], [47, 178481], [3, 3, 5, 7, 13, 17, 241], [31, 601, 1801], [3, 2731, 8191], [7, 73, 262657], [3, 5, 29, 43, 113, 127], [233, 1103, 2089], [3, 3, 7, 11, 31, 151, 331], [2147483647], [3, 5, 17, 257, 65537]]
theorem pr_F_ok : ∀ n, n < 33 → 1 ≤ n → np_pr (pr_F.getD n []) = 2 ^ n - 1 := by decide +kernel
theorem pr_F_in : ∀ n, n < 33 → ∀ q ∈ pr_F.getD n [], q ∈ pr_T := by decide +kernel
theorem pr_T_2 : ∀ q ∈ pr_T, 2 ≤ q := by decide +kernel
theorem pr_p0 : np 2 := np_of (N := 1) (by decide) (by decide) (by decide) (by decide +kernel)
theorem pr_p1 : np 3 := np_of (N := 1) (by decide) (by decide) (by decide) (by decide +kernel)
theorem pr_p2 : np 5 := np_of (N := 2) (by decide) (by decide) (by decide) (by decide +kernel)
theorem pr_p3 : np 7 := np_of (N := 2) (by decide) (by decide) (by decide) (by decide +kernel)
theorem pr_p4 : np 11 := np_of (N := 3) (by decide) (by decide) (by decide) (by decide +kernel)
theorem pr_p5 : np 13 := np_of (N := 3) (by decide) (by decide) (by decide) (by decide +kernel)
theorem pr_p6 : np 17 := np_of (N := 4) (by decide) (by decide) (by decide) (by decide +kernel)
theorem pr_p7 : np 19 := np_of (N := 4) (by decide) (by decide) (by decide) (by decide +kernel)
theorem pr_p8 : np 23 := np_of (N := 4) (by decide) (by decide) (by decide) (by decide +kernel)
theorem pr_p9 : np 29 := np_of (N := 5) (by decide) (by decide) (by decide) (by decide +kernel)
theorem pr_p10 : np 31 := np_of (N := 5) (by decide) (by decide) (by decide) (by decide +kernel)
theorem pr_p11 : np 41 := np_of (N := 6) (by decide) (by decide) (by decide) (by decide +kernel)
theorem pr_p12 : np 43 := np_of (N := 6) (by decide) (by decide) (by decide) (by decide +kernel)
theorem pr_p13 : np 47 := np_of (N := 6) (by decide) (by decide) (by decide) (by decide +kernel)
theorem pr_p14 : np 73 := np_of (N := 8) (by decide) (by decide) (by decide) (by decide +kernel)
theorem pr_p15 : np 89 := np_of (N := 9) (by decide) (by decide) (by decide) (by decide +kernel)
theorem pr_p16 : np 113 := np_of (N := 10) (by decide) (by decide) (by decide) (by decide +kernel)
theorem pr_p17 : np 127 := np_of (N := 11) (by decide) (by decide) (by decide) (by decide +kernel)
theorem pr_p18 : np 151 := np_of (N := 12) (by decide) (by decide) (by decide) (by decide +kernel)
theorem pr_p19 : np 233 := np_of (N := 15) (by decide) (by decide) (by decide) (by decide +kernel)
theorem pr_p20 : np 241 := np_of (N := 15) (by decide) (by decide) (by decide) (by decide +kernel)
theorem pr_p21 : np 257 := np_of (N := 16) (by decide) (by decide) (by decide) (by decide +kernel)
theorem pr_p22 : np 331 := np_of (N := 18) (by decide) (by decide) (by decide) (by decide +kernel)
theorem pr_p23 : np 337 := np_of (N := 18) (by decide) (by decide) (by decide) (by decide +kernel)
theorem pr_p24 : np 601 := np_of (N := 24) (by decide) (by decide) (by decide) (by decide +kernel)
theorem pr_p25 : np 683 := np_of (N := 26) (by decide) (by decide) (by decide) (by decide +kernel)
theorem pr_p26 : np 1103 := np_of (N := 33) (by decide) (by decide) (by decide) (by decide +kernel)
theorem pr_p27 : np 1801 := np_of (N := 42) (by decide) (by decide) (by decide) (by decide +kernel)
theorem pr_p28 : np 2089 := np_of (N := 45) (by decide) (by decide) (by decide) (by decide +kernel)
theorem pr_p29 : np 2731 := np_of (N := 52) (by decide) (by decide) (by decide) (by decide +kernel)
theorem pr_p30 : np 8191 := np_of (N := 90) (by decide) (by decide) (by decide) (by decide +kernel)
theorem pr_p31 : np 65537 := np_of (N := 256) (by decide) (by decide) (by decide) (by decide +kernel)
theorem pr_p32 : np 131071 := np_of (N := 362) (by decide) (by decide) (by decide) (by decide +kernel)
theorem pr_p33 : np 178481 := np_of (N := 422) (by decide) (by decide) (by decide) (by decide +kernel)
theorem pr_p34 : np 262657 := np_of (N := 512) (by decide) (by decide) (by decide) (by decide +kernel)
theorem pr_p35 : np 524287 := np_of (N := 724) (by decide) (by decide) (by decide) (by decide +kernel)
theorem pr_p36 : np 2147483647 := np_of (N := 46340) (by decide) (by decide) (by decide) (by decide +kernel)
theorem pr_T_np : ∀ q ∈ pr_T, np q := List.forall_mem_cons.mpr ⟨pr_p0, List.forall_mem_cons.mpr ⟨pr_p1, List.forall_mem_cons.mpr ⟨pr_p2, List.forall_mem_cons.mpr ⟨pr_p3, List.forall_mem_cons.mpr ⟨pr_p4, List.forall_mem_cons.mpr ⟨pr_p5, List.forall_mem_cons.mpr ⟨pr_p6, List.forall_mem_cons.mpr ⟨pr_p7, List.forall_mem_cons.mpr ⟨pr_p8, List.forall_mem_cons.mpr ⟨pr_p9, List.forall_mem_cons.mpr ⟨pr_p10, List.forall_mem_cons.mpr ⟨pr_p11, List.forall_mem_cons.mpr ⟨pr_p12, List.forall_mem_cons.mpr ⟨pr_p13, List.forall_mem_cons.mpr ⟨pr_p14, List.forall_mem_cons.mpr ⟨pr_p15, List.forall_mem_cons.mpr ⟨pr_p16, List.forall_mem_cons.mpr ⟨pr_p17, List.forall_mem_cons.mpr ⟨pr_p18, List.forall_mem_cons.mpr ⟨pr_p19, List.forall_mem_cons.mpr ⟨pr_p20, List.forall_mem_cons.mpr ⟨pr_p21, List.forall_mem_cons.mpr ⟨pr_p22, List.forall_mem_cons.mpr ⟨pr_p23, List.forall_mem_cons.mpr ⟨pr_p24, List.forall_mem_cons.mpr ⟨pr_p25, List.forall_mem_cons.mpr ⟨pr_p26, List.forall_mem_cons.mpr ⟨pr_p27, List.forall_mem_cons.mpr ⟨pr_p28, List.forall_mem_cons.mpr ⟨pr_p29, List.forall_mem_cons.mpr ⟨pr_p30, List.forall_mem_cons.mpr ⟨pr_p31, List.forall_mem_cons.mpr ⟨pr_p32, List.forall_mem_cons.mpr ⟨pr_p33, List.forall_mem_cons.mpr ⟨pr_p34, List.forall_mem_cons.mpr ⟨pr_p35, List.forall_mem_cons.mpr ⟨pr_p36, fun _ h => absurd h List.not_mem_nil⟩⟩⟩⟩⟩⟩⟩⟩⟩⟩⟩⟩⟩⟩⟩⟩⟩⟩⟩⟩⟩⟩⟩⟩⟩⟩⟩⟩⟩⟩⟩⟩⟩⟩⟩⟩⟩
theorem pr_all {n : Nat} (h1 : 1 ≤ n) (h2 : n ≤ 32) {q : Nat} (hq : np q) (hd : q ∣ 2 ^ n - 1) : q ∈ pr_T := by
  rw [← pr_F_ok n (by omega) h1] at hd
  obtain ⟨a, ha, hqa⟩ := np_list hq _ hd
  have h3 := pr_F_in n (by omega) a ha
  rw [np_eq hq (pr_T_np a h3) hqa]
  exact h3
end
section
/-! irreducible or not, by common divisors with x^(2^d) + x, and by trial -/
theorem px_par (a b : Nat) : px_m a b % 2 = 1 ↔ a % 2 = 1 ∧ b % 2 = 1 := by
  rcases Nat.mod_two_eq_zero_or_one b with e | e
  · rw [show b = 2 * (b / 2) by omega, px_m_dbl]
    omega
  · rw [show b = 2 * (b / 2) + 1 by omega, px_m_odd, Nat.xor_mod_two_eq_one]
    omega
theorem px_dv_odd {f p : Nat} (h : px_dv f p) (hp : p % 2 = 1) : f % 2 = 1 := by
  obtain ⟨q, rfl⟩ := h
  exact ((px_par f q).mp hp).1
theorem px_ir_split {p : Nat} (hp : 2 ≤ p) (h : ¬ px_ir p) : ∃ a, px_dv a p ∧ 2 ≤ a ∧ 2 * a.log2 ≤ p.log2 := by
  have : ∃ b c, p = px_m b c ∧ b ≠ 1 ∧ c ≠ 1 := by
    apply Classical.byContradiction
    intro hn
    apply h
    refine ⟨hp, fun b c e => ?_⟩
    by_cases h1 : b = 1
    · exact Or.inl h1
    · by_cases h2 : c = 1
      · exact Or.inr h2
      · exact absurd ⟨b, c, e, h1, h2⟩ hn
  obtain ⟨b, c, e, h1, h2⟩ := this
  obtain ⟨-, -, q3, q4⟩ := px_fac_lt (a := b) (b := c) (by omega) h1 h2
  have hl := px_log (a := b) (b := c) (by omega) (by omega)
  rw [← e] at hl
  by_cases hbc : b.log2 ≤ c.log2
  · exact ⟨b, ⟨c, e⟩, q3, by omega⟩
  · exact ⟨c, ⟨b, by rw [e, px_m_comm]⟩, q4, by omega⟩
theorem ir_yes {p n d w g : Nat} (hp : px_ir p) (hn : 2 ^ n ≤ p) (h1 : 1 ≤ d) (h2 : d < n) (hw : px_cg p w (2 ^ 2 ^ d ^^^ 2)) (hg : px_G g p w) : g = 1 := by
  rcases px_ir_dv hp hg.1 with e | e
  · exact e
  · exfalso
    have hd : px_dv p w := by rw [← e]; exact e ▸ hg.2.1
    have := px_big hp hn h1 (px_cg_dv (px_cg_symm hw) hd)
    omega
theorem ir_no {p n : Nat} (hp : 2 ≤ p) (ho : p % 2 = 1) (hn : 2 ^ n ≤ p) (hn' : p < 2 ^ (n + 1)) (h : ¬ px_ir p) : ∃ d, 1 ≤ d ∧ 2 * d ≤ n ∧ ∀ w g, px_cg p w (2 ^ 2 ^ d ^^^ 2) → px_G g p w → g ≠ 1 := by
  obtain ⟨a, ha, h2, hl⟩ := px_ir_split hp h
  rw [px_lg hn hn'] at hl
  obtain ⟨f, hf, hfa⟩ := px_ir_ex a h2
  have hfp := px_dv_trans hfa ha
  have hle := (px_dv_le hfa (by omega)).2
  refine ⟨f.log2, px_log_pos hf.1, by omega, fun w g hw hg e => ?_⟩
  have h3 := px_fermat2 hf (px_dv_odd hfp ho) (px_lg1 (px_ir_ne hf)) (px_lg2 f)
  have h4 : px_dv f w := px_cg_dv (px_cg_down hfp hw) h3
  have h5 := px_G_dv hg hfp h4
  rw [e] at h5
  have := px_dv_unit h5
  have := hf.1
  omega
theorem ir_trial {p n : Nat} (hp : 2 ≤ p) (ho : p % 2 = 1) (hn : 2 ^ n ≤ p) (hn' : p < 2 ^ (n + 1)) : ¬ px_ir p ↔ ∃ k b, 1 ≤ k ∧ 2 * k ≤ n ∧ 2 ^ k ≤ b ∧ b < 2 ^ (k + 1) ∧ b % 2 = 1 ∧ px_dv b p := by
  constructor
  · intro h
    obtain ⟨a, ha, h2, hl⟩ := px_ir_split hp h
    rw [px_lg hn hn'] at hl
    exact ⟨a.log2, a, px_log_pos h2, hl, px_lg1 (by omega), px_lg2 a, px_dv_odd ha ho, ha⟩
  · rintro ⟨k, b, h1, h2, h3, h4, -, q, e⟩ hi
    have hb := px_lg h3 h4
    have h5 : 2 ^ 1 ≤ 2 ^ k := Nat.pow_le_pow_right (by decide) h1
    rcases hi.2 b q e with z | z
    · omega
    · rw [z, px_m_one] at e
      rw [← e, px_lg hn hn'] at hb
      omega
/-! a multiple of the order -/
/-- what is left of a when all that it shares with g is divided out -/
def wo_S (a g b : Nat) : Prop := b ≠ 0 ∧ (∃ t, a = px_m (px_m b g) t) ∧ (∀ f, px_ir f → px_dv f a → px_dv f b ∨ px_dv f g) ∧ ∀ f, px_ir f → px_dv f b → ¬ px_dv f g
def mo_I (p n d M rest : Nat) : Prop :=
  px_dv rest p ∧ rest ≠ 0 ∧ (∀ f, px_ir f → px_dv f rest → d < f.log2) ∧ (∀ f, px_ir f → px_dv f p → px_dv f rest ∨ px_o f M) ∧ 0 < M ∧ (∀ q, np q → q ∣ M → q ∈ pr_T) ∧ M * 2 ^ rest.log2 ≤ 2 ^ n
theorem mo_start {p n : Nat} (h1 : 2 ^ n ≤ p) (h2 : p < 2 ^ (n + 1)) : mo_I p n 0 1 p := by
  have hp : p ≠ 0 := by have := Nat.two_pow_pos n; omega
  refine ⟨px_dv_refl p, hp, fun f hf _ => px_log_pos hf.1, fun f _ h => Or.inl h, by decide, fun q hq h => ?_, ?_⟩
  · have := Nat.le_of_dvd (by decide) h
    have := hq.1
    omega
  · rw [px_lg h1 h2, Nat.one_mul]
    exact Nat.le_refl _
theorem mo_same {p n d M rest w g : Nat} (ho : p % 2 = 1) (h : mo_I p n d M rest) (hw : px_cg p w (2 ^ 2 ^ (d + 1) ^^^ 2)) (hg : px_G g rest w) (e : g = 1) : mo_I p n (d + 1) M rest := by
  obtain ⟨q1, q2, q3, q4, q5, q6, q7⟩ := h
  refine ⟨q1, q2, fun f hf hd => ?_, q4, q5, q6, q7⟩
  have h1 := q3 f hf hd
  by_cases e2 : f.log2 = d + 1
  · exfalso
    have hfp := px_dv_trans hd q1
    have h3 := px_fermat2 hf (px_dv_odd hfp ho) (px_lg1 (px_ir_ne hf)) (px_lg2 f)
    rw [e2] at h3
    have h4 : px_dv f w := px_cg_dv (px_cg_down hfp hw) h3
    have h5 := px_G_dv hg hd h4
    rw [e] at h5
    have := px_dv_unit h5
    have := hf.1
    omega
  · omega
theorem mo_turn {p n d M rest w g rest' : Nat} (ho : p % 2 = 1) (hd : d + 1 ≤ 32) (h : mo_I p n d M rest) (hw : px_cg p w (2 ^ 2 ^ (d + 1) ^^^ 2)) (hg : px_G g rest w) (e : g ≠ 1) (hr : wo_S rest g rest') : mo_I p n (d + 1) (M * (2 ^ (d + 1) - 1)) rest' := by
  obtain ⟨q1, q2, q3, q4, q5, q6, q7⟩ := h
  obtain ⟨r1, ⟨t, r2⟩, r3, r4⟩ := hr
  have hrr : px_dv rest' rest := by rw [r2, px_m_assoc]; exact px_dv_m _ _
  have hg0 : g ≠ 0 := fun z => q2 (by rw [r2, z, px_m_zero, px_m_zero_left])
  have ht0 : t ≠ 0 := fun z => q2 (by rw [r2, z, px_m_zero])
  have hpos : 2 ^ 1 ≤ 2 ^ (d + 1) := Nat.pow_le_pow_right (by decide) (by omega)
  obtain ⟨f0, hf0, hd0⟩ := px_ir_ex g (px_two_le hg0 e)
  have hgl : d + 1 ≤ g.log2 := by
    have := q3 f0 hf0 (px_dv_trans hd0 hg.1)
    have := (px_dv_le hd0 hg0).2
    omega
  have hgo : ∀ f, px_ir f → px_dv f p → px_dv f g → px_o f (2 ^ (d + 1) - 1) := by
    intro f hf hfp hfg
    have h1 : px_dv f (2 ^ 2 ^ (d + 1) ^^^ 2) := px_cg_dv (px_cg_symm (px_cg_down hfp hw)) (px_dv_trans hfg hg.2.1)
    have e2 : 2 ^ 2 ^ (d + 1) ^^^ 2 = px_m (2 ^ (2 ^ (d + 1) - 1) ^^^ 1) 2 := by
      rw [px_m_xor_left, px_m_one_left, px_m_two, Nat.mul_comm, ← Nat.pow_succ, show Nat.succ (2 ^ (d + 1) - 1) = 2 ^ (d + 1) by omega]
    rw [e2] at h1
    rcases px_euclid hf h1 with h2 | h2
    · exact h2
    · exact absurd h2 (px_odd_dv2 hf.1 (px_dv_odd hfp ho))
  refine ⟨px_dv_trans hrr q1, r1, fun f hf hfr => ?_, fun f hf hfp => ?_, ?_, fun q hq hqd => ?_, ?_⟩
  · have h1 := q3 f hf (px_dv_trans hfr hrr)
    by_cases e2 : f.log2 = d + 1
    · exfalso
      have hfp := px_dv_trans hfr (px_dv_trans hrr q1)
      have h3 := px_fermat2 hf (px_dv_odd hfp ho) (px_lg1 (px_ir_ne hf)) (px_lg2 f)
      rw [e2] at h3
      exact r4 f hf hfr (px_G_dv hg (px_dv_trans hfr hrr) (px_cg_dv (px_cg_down hfp hw) h3))
    · omega
  · rcases q4 f hf hfp with h1 | h1
    · rcases r3 f hf h1 with h2 | h2
      · exact Or.inl h2
      · right
        rw [Nat.mul_comm]
        exact px_o_mul (hgo f hf hfp h2) M
    · right
      exact px_o_mul h1 _
  · exact Nat.mul_pos q5 (by omega)
  · rcases np_euclid hq hqd with h1 | h1
    · exact q6 q hq h1
    · exact pr_all (by omega) hd hq h1
  · have hl : rest.log2 = rest'.log2 + g.log2 + t.log2 := by
      rw [r2, px_log (px_ne0 r1 hg0) ht0, px_log r1 hg0]
    have h1 : 2 ^ (d + 1) * 2 ^ rest'.log2 ≤ 2 ^ rest.log2 := by
      rw [← Nat.pow_add]
      exact Nat.pow_le_pow_right (by decide) (by omega)
    have h2 : (2 ^ (d + 1) - 1) * 2 ^ rest'.log2 ≤ 2 ^ (d + 1) * 2 ^ rest'.log2 := Nat.mul_le_mul_right _ (by omega)
    rw [Nat.mul_assoc]
    exact Nat.le_trans (Nat.mul_le_mul_left M (Nat.le_trans h2 h1)) q7
theorem mo_end {p n M rest : Nat} (h1 : 2 ^ n ≤ p) (h2 : p < 2 ^ (n + 1)) (hn : n ≤ 32) (h : mo_I p n n M rest) : 0 < 32 * M ∧ 32 * M ≤ 32 * 2 ^ n ∧ px_o p (32 * M) ∧ ∀ q, np q → q ∣ 32 * M → q ∈ pr_T := by
  obtain ⟨q1, q2, q3, q4, q5, q6, q7⟩ := h
  have hp : p ≠ 0 := by have := Nat.two_pow_pos n; omega
  have hlp := px_lg h1 h2
  have hno : ∀ f, px_ir f → ¬ px_dv f rest := fun f hf hd => by
    have := q3 f hf hd
    have := (px_dv_le (px_dv_trans hd q1) hp).2
    omega
  have hall : ∀ f, px_ir f → px_dv f p → px_dv f (2 ^ M ^^^ 1) := fun f hf hfp => by
    rcases q4 f hf hfp with z | z
    · exact absurd z (hno f hf)
    · exact z
  refine ⟨by omega, ?_, ?_, fun q hq hqd => ?_⟩
  · have h3 := Nat.two_pow_pos rest.log2
    have h4 : M * 1 ≤ M * 2 ^ rest.log2 := Nat.mul_le_mul_left M h3
    omega
  · have h3 := px_rad 32 p (2 ^ M ^^^ 1) hp (by omega) hall
    rw [show (32 : Nat) = 2 ^ 5 by decide, px_frob, px_pw_one_left, ← px_pw_two M, ← px_pw_mul, px_pw_two] at h3
    unfold px_o
    rw [show 32 * M = M * 2 ^ 5 by omega]
    exact h3
  · rcases np_euclid hq hqd with h3 | h3
    · have h4 : q ∣ np_pr [2, 2, 2, 2, 2] := h3
      obtain ⟨a, ha, hqa⟩ := np_list hq _ h4
      have ha2 : a = 2 := by simpa using ha
      rw [ha2] at hqa
      rw [np_eq hq (pr_T_np 2 (by decide)) hqa]
      decide
    · exact q6 q hq h3
end
section
/-! residues: px_r p a is what a leaves when divided by p -/
def md (p n : Nat) : Prop := 1 ≤ n ∧ n ≤ 32 ∧ 2 ^ n ≤ p ∧ p < 2 ^ (n + 1) ∧ p % 2 = 1
theorem md_ne {p n : Nat} (h : md p n) : p ≠ 0 := by
  have := h.2.2.1
  have := Nat.two_pow_pos n
  omega
theorem px_r_ex (p a : Nat) (hp : p ≠ 0) : ∃ r, r < 2 ^ p.log2 ∧ px_cg p r a := by
  obtain ⟨q, r, e, hr⟩ := px_div (px_lg1 hp) (px_lg2 p) a
  refine ⟨r, hr, ?_⟩
  unfold px_cg
  rw [e, Nat.xor_comm (px_m q p) r, ← Nat.xor_assoc, Nat.xor_self, Nat.zero_xor]
  exact px_dv_m' p q
noncomputable def px_r (p a : Nat) : Nat := if h : p ≠ 0 then Classical.choose (px_r_ex p a h) else 0
theorem px_r_spec {p : Nat} (hp : p ≠ 0) (a : Nat) : px_r p a < 2 ^ p.log2 ∧ px_cg p (px_r p a) a := by
  unfold px_r
  rw [dif_pos hp]
  exact Classical.choose_spec (px_r_ex p a hp)
theorem px_r_lt {p n : Nat} (h : md p n) (a : Nat) : px_r p a < 2 ^ n := by
  have := (px_r_spec (md_ne h) a).1
  rwa [px_lg h.2.2.1 h.2.2.2.1] at this
theorem px_r_cg {p n : Nat} (h : md p n) (a : Nat) : px_cg p (px_r p a) a := (px_r_spec (md_ne h) a).2
theorem px_r_of {p n : Nat} (h : md p n) {r a : Nat} (hr : r < 2 ^ n) (hc : px_cg p r a) : px_r p a = r :=
  px_uniq h.2.2.1 (px_r_lt h a) hr (px_cg_trans (px_r_cg h a) (px_cg_symm hc))
theorem px_r_iff {p n : Nat} (h : md p n) (a b : Nat) : px_r p a = px_r p b ↔ px_cg p a b :=
  ⟨fun e => px_cg_trans (px_cg_symm (px_r_cg h a)) (e ▸ px_r_cg h b), fun c => px_r_of h (px_r_lt h b) (px_cg_trans (px_r_cg h b) (px_cg_symm c))⟩
theorem px_r_self {p n : Nat} (h : md p n) {a : Nat} (ha : a < 2 ^ n) : px_r p a = a := px_r_of h ha (px_cg_refl p a)
theorem px_r_r {p n : Nat} (h : md p n) (a : Nat) : px_r p (px_r p a) = px_r p a := px_r_self h (px_r_lt h a)
theorem px_r_xor {p n : Nat} (h : md p n) (a b : Nat) : px_r p (a ^^^ b) = px_r p a ^^^ px_r p b :=
  px_r_of h (Nat.xor_lt_two_pow (px_r_lt h a) (px_r_lt h b)) (px_cg_xor (px_r_cg h a) (px_r_cg h b))
theorem px_r_ml {p n : Nat} (h : md p n) (a b : Nat) : px_r p (px_m (px_r p a) b) = px_r p (px_m a b) :=
  (px_r_iff h _ _).2 (px_cg_m (px_r_cg h a) (px_cg_refl p b))
theorem px_r_mr {p n : Nat} (h : md p n) (a b : Nat) : px_r p (px_m a (px_r p b)) = px_r p (px_m a b) :=
  (px_r_iff h _ _).2 (px_cg_m (px_cg_refl p a) (px_r_cg h b))
theorem px_r_pw {p n : Nat} (h : md p n) (a k : Nat) : px_r p (px_pw (px_r p a) k) = px_r p (px_pw a k) :=
  (px_r_iff h _ _).2 (px_cg_pw (px_r_cg h a) k)
theorem px_r_2 {p n : Nat} (h : md p n) (a : Nat) : px_r p (2 * px_r p a) = px_r p (2 * a) := by
  rw [← px_m_two, ← px_m_two, px_r_ml h]
theorem md_odd1 {p n : Nat} (h : md p n) : px_r p 1 = 1 := px_r_self h (by
  have : 2 ^ 1 ≤ 2 ^ n := Nat.pow_le_pow_right (by decide) h.1
  omega)
/-- a step of the register -/
theorem st_eq {p n : Nat} (h : md p n) {a : Nat} (ha : a < 2 ^ n) : (if 2 * a / 2 ^ n % 2 = 1 then 2 * a ^^^ p else 2 * a) = px_r p (2 * a) := by
  have h3 := h.2.2.1
  have h4 := h.2.2.2.1
  by_cases hc : 2 * a < 2 ^ n
  · have e : 2 * a / 2 ^ n = 0 := Nat.div_eq_of_lt hc
    rw [e, if_neg (by decide), px_r_self h hc]
  · have e : 2 * a / 2 ^ n = 1 := by
      rw [Nat.div_eq_iff (Nat.two_pow_pos n)]
      omega
    rw [e, if_pos (by decide)]
    refine (px_r_of h (px_tops (by omega) (by rw [Nat.pow_succ]; omega) h3 h4) ?_).symm
    unfold px_cg
    rw [Nat.xor_comm (2 * a) p, px_cc]
    exact px_dv_refl p
/-- one turn of a product, from the highest bit down -/
theorem pd_turn {p n : Nat} (h : md p n) (a b k : Nat) (ha : a < 2 ^ n) : (if b / 2 ^ k % 2 = 1 then px_r p (2 * px_r p (px_m a (b / 2 ^ (k + 1)))) ^^^ a else px_r p (2 * px_r p (px_m a (b / 2 ^ (k + 1))))) = px_r p (px_m a (b / 2 ^ k)) := by
  have e : b / 2 ^ (k + 1) = b / 2 ^ k / 2 := by rw [Nat.pow_succ, Nat.div_div_eq_div_mul]
  rw [e, px_r_2 h]
  generalize b / 2 ^ k = c
  split
  · rename_i hc
    conv => rhs; rw [show c = 2 * (c / 2) + 1 by omega, px_m_odd, px_r_xor h, px_r_self h ha]
  · rename_i hc
    conv => rhs; rw [show c = 2 * (c / 2) by omega, px_m_dbl]
theorem pd_top {p n : Nat} (h : md p n) (a b : Nat) (hb : b < 2 ^ n) : px_r p (px_m a (b / 2 ^ n)) = 0 := by
  rw [Nat.div_eq_of_lt hb, px_m_zero, px_r_self h (Nat.two_pow_pos n)]
/-- powers from the lowest bit up: what is there, and the square -/
theorem pw_low (a e k : Nat) : px_pw a (e % 2 ^ (k + 1)) = if e / 2 ^ k % 2 = 1 then px_m (px_pw a (e % 2 ^ k)) (px_pw a (2 ^ k)) else px_pw a (e % 2 ^ k) := by
  have e1 : e % 2 ^ (k + 1) = e % 2 ^ k + 2 ^ k * (e / 2 ^ k % 2) := by rw [Nat.pow_succ, Nat.mod_mul]
  rw [e1]
  split
  · rename_i hc
    rw [hc, Nat.mul_one, px_pw_add]
  · rename_i hc
    rw [show e / 2 ^ k % 2 = 0 by omega, Nat.mul_zero, Nat.add_zero]
theorem pw_turn {p n : Nat} (h : md p n) (a e k : Nat) : (if e / 2 ^ k % 2 = 1 then px_r p (px_m (px_r p (px_pw a (e % 2 ^ k))) (px_r p (px_pw a (2 ^ k)))) else px_r p (px_pw a (e % 2 ^ k))) = px_r p (px_pw a (e % 2 ^ (k + 1))) := by
  rw [pw_low]
  split
  · rw [px_r_ml h, px_r_mr h]
  · rfl
theorem pw_sq {p n : Nat} (h : md p n) (a k : Nat) : px_r p (px_m (px_r p (px_pw a (2 ^ k))) (px_r p (px_pw a (2 ^ k)))) = px_r p (px_pw a (2 ^ (k + 1))) := by
  rw [px_r_ml h, px_r_mr h, Nat.pow_succ, Nat.mul_comm (2 ^ k) 2, px_pw_dbl]
/-- powers from the highest bit down -/
theorem pw_high {p n : Nat} (h : md p n) (a e k : Nat) (ha : a < 2 ^ n) : (if e / 2 ^ k % 2 = 1 then px_r p (px_m (px_r p (px_m (px_r p (px_pw a (e / 2 ^ (k + 1)))) (px_r p (px_pw a (e / 2 ^ (k + 1)))))) a) else px_r p (px_m (px_r p (px_pw a (e / 2 ^ (k + 1)))) (px_r p (px_pw a (e / 2 ^ (k + 1)))))) = px_r p (px_pw a (e / 2 ^ k)) := by
  have e1 : e / 2 ^ (k + 1) = e / 2 ^ k / 2 := by rw [Nat.pow_succ, Nat.div_div_eq_div_mul]
  have e2 : ∀ z, px_r p (px_m (px_r p (px_pw a z)) (px_r p (px_pw a z))) = px_r p (px_pw a (2 * z)) := fun z => by rw [px_r_ml h, px_r_mr h, ← px_pw_dbl]
  rw [e1, e2]
  generalize e / 2 ^ k = c
  split
  · rename_i hc
    rw [px_r_ml h]
    conv => rhs; rw [show c = 2 * (c / 2) + 1 by omega]
    rfl
  · rename_i hc
    conv => rhs; rw [show c = 2 * (c / 2) by omega]
/-- one turn of long division: the bit k of v is taken away -/
theorem dv_turn {b j v k : Nat} (hb : 2 ^ j ≤ b) (hb' : b < 2 ^ (j + 1)) (hjk : j ≤ k) (hv : v < 2 ^ (k + 1)) : (if v / 2 ^ k % 2 = 1 then v ^^^ b * 2 ^ (k - j) else v) < 2 ^ k ∧ px_cg b (if v / 2 ^ k % 2 = 1 then v ^^^ b * 2 ^ (k - j) else v) v := by
  split
  · rename_i hc
    have hvk : 2 ^ k ≤ v := by
      apply Classical.byContradiction
      intro hn
      rw [Nat.div_eq_of_lt (by omega)] at hc
      omega
    have hd := px_deg (a := b) (b := 2 ^ (k - j)) (i := j) (j := k - j) hb hb' (Nat.le_refl _) (Nat.pow_lt_pow_right (by decide) (by omega))
    rw [px_m_pow2, show j + (k - j) = k by omega] at hd
    refine ⟨px_tops hvk hv hd.1 hd.2, ?_⟩
    unfold px_cg
    rw [Nat.xor_comm v, px_cc, ← px_m_pow2]
    exact px_dv_m b _
  · rename_i hc
    refine ⟨?_, px_cg_refl b v⟩
    apply Classical.byContradiction
    intro hn
    have e : v / 2 ^ k = 1 := by
      rw [Nat.div_eq_iff (Nat.two_pow_pos k)]
      rw [Nat.pow_succ] at hv
      omega
    rw [e] at hc
    exact hc rfl
theorem shl_lt {b j k : Nat} (hb' : b < 2 ^ (j + 1)) (hjk : j ≤ k) (hk : k < 64) : b * 2 ^ (k - j) < 2 ^ 64 := by
  have h1 : b * 2 ^ (k - j) < 2 ^ (j + 1) * 2 ^ (k - j) := Nat.mul_lt_mul_of_pos_right hb' (Nat.two_pow_pos _)
  rw [← Nat.pow_add] at h1
  have h2 : 2 ^ (j + 1 + (k - j)) ≤ 2 ^ 64 := Nat.pow_le_pow_right (by decide) (by omega)
  omega
/-! parity, and how many bits are set -/
def pc_n (v : Nat) : Nat → Nat
  | 0 => 0
  | k + 1 => pc_n v k + v / 2 ^ k % 2
theorem pc_small {v k : Nat} (h : v < 2 ^ k) : ∀ j, k ≤ j → pc_n v j = pc_n v k := by
  intro j
  induction j with
  | zero => intro hj; rw [show k = 0 by omega]
  | succ j ih =>
    intro hj
    by_cases e : k = j + 1
    · rw [e]
    · have h2 : v / 2 ^ j = 0 := Nat.div_eq_of_lt (Nat.lt_of_lt_of_le h (Nat.pow_le_pow_right (by decide) (by omega)))
      show pc_n v j + v / 2 ^ j % 2 = _
      rw [h2, ih (by omega)]
      rfl
end
section
/-! circuits: lines as truth values, with a fault or none -/
def gb (k : Nat) (a b : Bool) : Bool := if k = 0 then a && b else if k = 1 then a || b else if k = 2 then a ^^ b else if k = 3 then !(a && b) else if k = 4 then !(a || b) else !a
/-- a line's value, from those before it -/
def ci_v (cc : Nat) (kd lf rg : Nat → Nat) (pt : Nat) (f : Nat → Bool) (k : Nat) : Bool := if k < cc then pt.testBit k else gb (kd (k - cc)) (f (lf (k - cc))) (f (rg (k - cc)))
def ci_s (st : Option Nat) (k : Nat) (b : Bool) : Bool := match st with
  | none => b
  | some s => if s / 2 = k then s % 2 == 1 else b
/-- the lines below k -/
def ci_t (cc : Nat) (kd lf rg : Nat → Nat) (pt : Nat) (st : Option Nat) : Nat → Nat → Bool
  | 0 => fun _ => false
  | k + 1 => fun j => if j = k then ci_s st k (ci_v cc kd lf rg pt (ci_t cc kd lf rg pt st k) k) else ci_t cc kd lf rg pt st k j
/-- the answer -/
def ci_a (ol : Nat → Nat) (f : Nat → Bool) : Nat → Nat
  | 0 => 0
  | i + 1 => ci_a ol f i + (if f (ol i) = true then 2 ^ i else 0)
theorem ci_a_lt (ol : Nat → Nat) (f : Nat → Bool) : ∀ i, ci_a ol f i < 2 ^ i
  | 0 => Nat.zero_lt_one
  | i + 1 => by
    have := ci_a_lt ol f i
    show ci_a ol f i + _ < 2 ^ (i + 1)
    rw [Nat.pow_succ]
    split <;> omega
theorem ci_a_congr {ol ol' : Nat → Nat} {f f' : Nat → Bool} : ∀ i, (∀ j, j < i → f (ol j) = f' (ol' j)) → ci_a ol f i = ci_a ol' f' i
  | 0, _ => rfl
  | i + 1, h => by
    show ci_a ol f i + _ = ci_a ol' f' i + _
    rw [ci_a_congr i (fun j hj => h j (by omega)), h i (by omega)]
theorem ci_a_bit (ol : Nat → Nat) (f : Nat → Bool) : ∀ (i j : Nat), (ci_a ol f i).testBit j = (decide (j < i) && f (ol j)) := by
  intro i
  induction i with
  | zero => intro j; simp [ci_a]
  | succ i ih =>
    intro j
    have hlt := ci_a_lt ol f i
    show (ci_a ol f i + _).testBit j = _
    cases hf : f (ol i)
    · rw [if_neg (by decide), Nat.add_zero, ih]
      by_cases e : j = i
      · subst e; simp [hf]
      · rw [show decide (j < i) = decide (j < i + 1) by rw [decide_eq_decide]; omega]
    · rw [if_pos rfl, Nat.add_comm]
      rcases Nat.lt_trichotomy j i with h | h | h
      · rw [Nat.testBit_two_pow_add_gt h, ih]
        simp [h, show j < i + 1 by omega]
      · subst h
        rw [Nat.testBit_two_pow_add_eq, Nat.testBit_lt_two_pow hlt]
        simp [hf]
      · have h2 : 2 ^ (i + 1) ≤ 2 ^ j := Nat.pow_le_pow_right (by decide) h
        rw [Nat.testBit_lt_two_pow (by rw [Nat.pow_succ] at h2; omega)]
        simp [show ¬ j < i + 1 by omega]
/-- the lines hold what they should: V is what a table holds, S which fault a bit stands for -/
def ci_R (cc : Nat) (kd lf rg : Nat → Nat) (pt : Nat) (S : Nat → Option Nat) (k : Nat) (V : Nat → Nat) : Prop :=
  ∀ j, j < k → V j < 2 ^ 64 ∧ ∀ f, f < 64 → (V j).testBit f = ci_t cc kd lf rg pt (S f) k j
theorem ci_R_0 (cc : Nat) (kd lf rg : Nat → Nat) (pt : Nat) (S : Nat → Option Nat) (V : Nat → Nat) : ci_R cc kd lf rg pt S 0 V := fun j hj => absurd hj (Nat.not_lt_zero j)
theorem ci_R_up {cc : Nat} {kd lf rg : Nat → Nat} {pt : Nat} {S : Nat → Option Nat} {k : Nat} {V V' : Nat → Nat} (h : ci_R cc kd lf rg pt S k V) (hk : ∀ j, j < k → V' j = V j) (h1 : V' k < 2 ^ 64)
    (h2 : ∀ f, f < 64 → (V' k).testBit f = ci_s (S f) k (ci_v cc kd lf rg pt (ci_t cc kd lf rg pt (S f) k) k)) : ci_R cc kd lf rg pt S (k + 1) V' := by
  intro j hj
  by_cases e : j = k
  · subst e
    refine ⟨h1, fun f hf => ?_⟩
    rw [h2 f hf]
    show _ = (if j = j then _ else _)
    rw [if_pos rfl]
  · rw [hk j (by omega)]
    refine ⟨(h j (by omega)).1, fun f hf => ?_⟩
    rw [(h j (by omega)).2 f hf]
    show _ = (if j = k then _ else _)
    rw [if_neg e]
/-- the bits of a gate's value -/
def ci_g (k a b : Nat) : Nat := if k = 0 then a &&& b else if k = 1 then a ||| b else if k = 2 then a ^^^ b else if k = 3 then (a &&& b) ^^^ (2 ^ 64 - 1) else if k = 4 then (a ||| b) ^^^ (2 ^ 64 - 1) else a ^^^ (2 ^ 64 - 1)
theorem ci_g_lt {k a b : Nat} (ha : a < 2 ^ 64) (hb : b < 2 ^ 64) : ci_g k a b < 2 ^ 64 := by
  have h1 := Nat.and_lt_two_pow a hb
  have h2 := Nat.or_lt_two_pow ha hb
  have h3 : 2 ^ 64 - 1 < 2 ^ 64 := by decide
  unfold ci_g
  split
  · exact h1
  split
  · exact h2
  split
  · exact Nat.xor_lt_two_pow ha hb
  split
  · exact Nat.xor_lt_two_pow h1 h3
  split
  · exact Nat.xor_lt_two_pow h2 h3
  · exact Nat.xor_lt_two_pow ha h3
theorem ci_g_bit {k a b f : Nat} (hf : f < 64) : (ci_g k a b).testBit f = gb k (a.testBit f) (b.testBit f) := by
  have hm : (2 ^ 64 - 1).testBit f = true := by rw [Nat.testBit_two_pow_sub_one]; simpa using hf
  unfold ci_g gb
  split
  · rw [Nat.testBit_and]
  split
  · rw [Nat.testBit_or]
  split
  · rw [Nat.testBit_xor]
  split
  · rw [Nat.testBit_xor, Nat.testBit_and, hm]; simp
  split
  · rw [Nat.testBit_xor, Nat.testBit_or, hm]; simp
  · rw [Nat.testBit_xor, hm]; simp
/-- a line's bits, stuck where they should be -/
def ci_k (v k : Nat) : Nat := (v &&& (2 ^ (2 * k) ^^^ (2 ^ 64 - 1))) ||| 2 ^ (2 * k + 1)
theorem ci_k_lt {v k : Nat} (hv : v < 2 ^ 64) (hk : k < 32) : ci_k v k < 2 ^ 64 := by
  unfold ci_k
  exact Nat.or_lt_two_pow (Nat.lt_of_le_of_lt Nat.and_le_left hv) (Nat.pow_lt_pow_right (by decide) (by omega))
theorem ci_k_bit {v k f : Nat} (hf : f < 64) : (ci_k v k).testBit f = ci_s (some f) k (v.testBit f) := by
  have hm : (2 ^ 64 - 1).testBit f = true := by rw [Nat.testBit_two_pow_sub_one]; simpa using hf
  unfold ci_k ci_s
  rw [Nat.testBit_or, Nat.testBit_and, Nat.testBit_xor, hm, Nat.testBit_two_pow, Nat.testBit_two_pow]
  show _ = if f / 2 = k then (f % 2 == 1) else v.testBit f
  by_cases h1 : f = 2 * k
  · subst h1
    rw [if_pos (by omega), show 2 * k % 2 = 0 by omega]
    simp
  · by_cases h2 : f = 2 * k + 1
    · subst h2
      rw [if_pos (by omega), show (2 * k + 1) % 2 = 1 by omega]
      simp
    · rw [if_neg (by omega)]
      simp [show ¬ 2 * k = f by omega, show ¬ 2 * k + 1 = f by omega]
/-- one bit, in all 64 places -/
def ci_p (b : Bool) : Nat := if b = true then 2 ^ 64 - 1 else 0
theorem ci_p_lt (b : Bool) : ci_p b < 2 ^ 64 := by cases b <;> decide
theorem ci_p_bit (b : Bool) {f : Nat} (hf : f < 64) : (ci_p b).testBit f = b := by
  cases b
  · simp [ci_p]
  · show (2 ^ 64 - 1).testBit f = true
    rw [Nat.testBit_two_pow_sub_one]
    simpa using hf
/-- what a turn of the class's loop writes -/
def ci_w (cc : Nat) (kd lf rg : Nat → Nat) (pt : Nat) (V : Nat → Nat) (k : Nat) : Nat := if k < cc then ci_p (pt.testBit k) else ci_g (kd (k - cc)) (V (lf (k - cc))) (V (rg (k - cc)))
theorem ci_w_lt {cc : Nat} {kd lf rg : Nat → Nat} {pt : Nat} {S : Nat → Option Nat} {k : Nat} {V : Nat → Nat} (h : ci_R cc kd lf rg pt S k V) (hg : cc ≤ k → lf (k - cc) < k ∧ rg (k - cc) < k) : ci_w cc kd lf rg pt V k < 2 ^ 64 := by
  unfold ci_w
  split
  · exact ci_p_lt _
  · rename_i hc
    obtain ⟨h1, h2⟩ := hg (by omega)
    exact ci_g_lt (h _ h1).1 (h _ h2).1
theorem ci_w_bit {cc : Nat} {kd lf rg : Nat → Nat} {pt : Nat} {S : Nat → Option Nat} {k : Nat} {V : Nat → Nat} (h : ci_R cc kd lf rg pt S k V) (hg : cc ≤ k → lf (k - cc) < k ∧ rg (k - cc) < k) {f : Nat} (hf : f < 64) :
    (ci_w cc kd lf rg pt V k).testBit f = ci_v cc kd lf rg pt (ci_t cc kd lf rg pt (S f) k) k := by
  unfold ci_w ci_v
  split
  · exact ci_p_bit _ hf
  · rename_i hc
    obtain ⟨h1, h2⟩ := hg (by omega)
    rw [ci_g_bit hf, (h _ h1).2 f hf, (h _ h2).2 f hf]
theorem ci_turnN {cc : Nat} {kd lf rg : Nat → Nat} {pt : Nat} {k : Nat} {V V' : Nat → Nat} (h : ci_R cc kd lf rg pt (fun _ => none) k V) (hg : cc ≤ k → lf (k - cc) < k ∧ rg (k - cc) < k) (hk : ∀ j, j < k → V' j = V j)
    (h1 : V' k = ci_w cc kd lf rg pt V k) : ci_R cc kd lf rg pt (fun _ => none) (k + 1) V' :=
  ci_R_up h hk (by rw [h1]; exact ci_w_lt h hg) (fun f hf => by rw [h1, ci_w_bit h hg hf]; rfl)
theorem ci_turnF {cc : Nat} {kd lf rg : Nat → Nat} {pt : Nat} {k : Nat} {V V' : Nat → Nat} (h : ci_R cc kd lf rg pt some k V) (hg : cc ≤ k → lf (k - cc) < k ∧ rg (k - cc) < k) (hk : ∀ j, j < k → V' j = V j) (hk32 : k < 32)
    (h1 : V' k = ci_k (ci_w cc kd lf rg pt V k) k) : ci_R cc kd lf rg pt some (k + 1) V' :=
  ci_R_up h hk (by rw [h1]; exact ci_k_lt (ci_w_lt h hg) hk32) (fun f hf => by rw [h1, ci_k_bit hf, ci_w_bit h hg hf])
/-! patterns -/
def pt_n (mk : Nat → Nat) (v : Nat) : Nat → Nat
  | 0 => 0
  | c + 1 => pt_n mk v c + pc_n (v &&& mk c) 64 % 2 * 2 ^ c
theorem pt_lt (mk : Nat → Nat) (v : Nat) : ∀ c, pt_n mk v c < 2 ^ c
  | 0 => Nat.zero_lt_one
  | c + 1 => by
    have := pt_lt mk v c
    show pt_n mk v c + pc_n (v &&& mk c) 64 % 2 * 2 ^ c < 2 ^ (c + 1)
    rw [Nat.pow_succ]
    rcases Nat.mod_two_eq_zero_or_one (pc_n (v &&& mk c) 64) with e | e <;> rw [e] <;> omega
theorem pt_congr {mk mk' : Nat → Nat} (v : Nat) : ∀ c, (∀ j, j < c → mk j = mk' j) → pt_n mk v c = pt_n mk' v c
  | 0, _ => rfl
  | c + 1, h => by
    show pt_n mk v c + _ = pt_n mk' v c + _
    rw [pt_congr v c (fun j hj => h j (by omega)), h c (by omega)]
end
section
/-! sessions: registers, signatures, and all faults at once -/
noncomputable def rg_t (p reg : Nat) : Nat → Nat
  | 0 => reg
  | t + 1 => px_r p (2 * rg_t p reg t)
theorem rg_lt {p n reg : Nat} (h : md p n) (hr : reg < 2 ^ n) : ∀ t, rg_t p reg t < 2 ^ n
  | 0 => hr
  | _ + 1 => px_r_lt h _
noncomputable def sg (p : Nat) (A : Nat → Nat) : Nat → Nat
  | 0 => 0
  | t + 1 => px_r p (2 * sg p A t) ^^^ px_r p (A t)
theorem sg_lt {p n : Nat} (h : md p n) (A : Nat → Nat) : ∀ t, sg p A t < 2 ^ n
  | 0 => Nat.two_pow_pos n
  | _ + 1 => Nat.xor_lt_two_pow (px_r_lt h _) (px_r_lt h _)
theorem sg_congr (p : Nat) {A B : Nat → Nat} : ∀ t, (∀ j, j < t → A j = B j) → sg p A t = sg p B t
  | 0, _ => rfl
  | t + 1, h => by
    show px_r p (2 * sg p A t) ^^^ px_r p (A t) = _
    rw [sg_congr p t (fun j hj => h j (by omega)), h t (by omega)]
    rfl
theorem sg_lin {p n : Nat} (h : md p n) (A B : Nat → Nat) : ∀ t, sg p A t ^^^ sg p B t = sg p (fun j => A j ^^^ B j) t
  | 0 => by show (0 : Nat) ^^^ 0 = 0; rfl
  | t + 1 => by
    show px_r p (2 * sg p A t) ^^^ px_r p (A t) ^^^ (px_r p (2 * sg p B t) ^^^ px_r p (B t)) = px_r p (2 * sg p (fun j => A j ^^^ B j) t) ^^^ px_r p (A t ^^^ B t)
    rw [← sg_lin h A B t, px_dbl, px_r_xor h, px_r_xor h]
    ac_rfl
theorem sg_zero {p n : Nat} (h : md p n) {A : Nat → Nat} : ∀ t, (∀ j, j < t → A j = 0) → sg p A t = 0
  | 0, _ => rfl
  | t + 1, hz => by
    show px_r p (2 * sg p A t) ^^^ px_r p (A t) = 0
    rw [sg_zero h t (fun j hj => hz j (by omega)), hz t (by omega)]
    have : px_r p 0 = 0 := px_r_self h (Nat.two_pow_pos n)
    rw [Nat.mul_zero, this]
    rfl
theorem sg_step {p n : Nat} (h : md p n) (A : Nat → Nat) (t : Nat) : px_r p (2 * sg p A t ^^^ A t) = sg p A (t + 1) := px_r_xor h _ _
/-- 33 rows of 64 bits: bit f of row k is bit k of D f -/
def dr (r : Nat → Nat) (D : Nat → Nat) : Prop := (∀ k, k < 33 → r k < 2 ^ 64) ∧ ∀ f, f < 64 → D f < 2 ^ 33 ∧ ∀ k, k < 33 → (r k).testBit f = (D f).testBit k
theorem dr_0 {r : Nat → Nat} (h : ∀ k, k < 33 → r k = 0) : dr r (fun _ => 0) := by
  refine ⟨fun k hk => by rw [h k hk]; decide, fun f _ => ⟨Nat.two_pow_pos 33, fun k hk => ?_⟩⟩
  rw [h k hk]
  simp
theorem dr_x {r r' : Nat → Nat} {D : Nat → Nat} (h : dr r D) (hD : ∀ f, f < 64 → D f < 2 ^ 32) (h0 : r' 0 = 0) (hs : ∀ k, k < 32 → r' (k + 1) = r k) : dr r' (fun f => 2 * D f) := by
  refine ⟨fun k hk => ?_, fun f hf => ⟨by have := hD f hf; show 2 * D f < _; omega, fun k hk => ?_⟩⟩
  · cases k with
    | zero => rw [h0]; decide
    | succ k => rw [hs k (by omega)]; exact h.1 k (by omega)
  · show _ = (2 * D f).testBit k
    cases k with
    | zero => rw [h0]; simp [Nat.testBit_zero]
    | succ k =>
      rw [hs k (by omega), (h.2 f hf).2 k (by omega), Nat.testBit_succ, Nat.mul_div_cancel_left _ (by decide)]
/-- row i gets the bits w -/
theorem dr_add {r r' : Nat → Nat} {D : Nat → Nat} {i w : Nat} (h : dr r D) (hi : i < 33) (hw : w < 2 ^ 64) (h1 : r' i = r i ^^^ w) (h2 : ∀ k, k < 33 → k ≠ i → r' k = r k) : dr r' (fun f => if w.testBit f = true then D f ^^^ 2 ^ i else D f) := by
  refine ⟨fun k hk => ?_, fun f hf => ?_⟩
  · by_cases e : k = i
    · subst e; rw [h1]; exact Nat.xor_lt_two_pow (h.1 k hk) hw
    · rw [h2 k hk e]; exact h.1 k hk
  · have hd := h.2 f hf
    show (if w.testBit f = true then D f ^^^ 2 ^ i else D f) < _ ∧ ∀ k, k < 33 → _ = (if w.testBit f = true then D f ^^^ 2 ^ i else D f).testBit k
    refine ⟨?_, fun k hk => ?_⟩
    · split
      · exact Nat.xor_lt_two_pow hd.1 (Nat.pow_lt_pow_right (by decide) hi)
      · exact hd.1
    · by_cases e : k = i
      · subst e
        rw [h1, Nat.testBit_xor, hd.2 k hk]
        split
        · rename_i hb
          rw [hb, Nat.testBit_xor, Nat.testBit_two_pow_self]
        · rename_i hb
          simp only [Bool.not_eq_true] at hb
          rw [hb]
          simp
      · rw [h2 k hk e, hd.2 k hk]
        split
        · rw [Nat.testBit_xor, Nat.testBit_two_pow_of_ne (fun z => e z.symm)]
          simp
        · rfl
theorem dr_congr {r : Nat → Nat} {D D' : Nat → Nat} (h : dr r D) (he : ∀ f, f < 64 → D' f = D f) : dr r D' := ⟨h.1, fun f hf => by rw [he f hf]; exact h.2 f hf⟩
/-- p times x^s below bit 33, down to its bit j -/
def dr_p (p s : Nat) : Nat → Nat
  | 0 => 0
  | j + 1 => dr_p p s j ^^^ (if p.testBit j = true ∧ j + s < 33 then 2 ^ (j + s) else 0)
theorem dr_p_bit (p s : Nat) : ∀ j k, (dr_p p s j).testBit k = (decide (s ≤ k) && decide (k < 33) && decide (k - s < j) && p.testBit (k - s)) := by
  intro j
  induction j with
  | zero => intro k; simp [dr_p]
  | succ j ih =>
    intro k
    show (dr_p p s j ^^^ _).testBit k = _
    rw [Nat.testBit_xor, ih]
    by_cases hk : k = j + s
    · subst hk
      rw [show j + s - s = j by omega]
      by_cases hc : p.testBit j = true ∧ j + s < 33
      · rw [if_pos hc, Nat.testBit_two_pow_self, hc.1]
        simp [hc.2]
      · rw [if_neg hc]
        simp only [Nat.zero_testBit]
        by_cases hb : p.testBit j = true
        · have : ¬ j + s < 33 := fun z => hc ⟨hb, z⟩
          simp [this]
        · simp only [Bool.not_eq_true] at hb
          simp [hb]
    · have e2 : (if p.testBit j = true ∧ j + s < 33 then 2 ^ (j + s) else 0).testBit k = false := by
        split
        · exact Nat.testBit_two_pow_of_ne (fun z => hk z.symm)
        · exact Nat.zero_testBit k
      rw [e2]
      by_cases hs : s ≤ k
      · rw [show decide (k - s < j + 1) = decide (k - s < j) by rw [decide_eq_decide]; omega]
        simp
      · simp [hs]
theorem dr_p_all {p n s j : Nat} (hp : p < 2 ^ (n + 1)) (hs : n + s ≤ 32) (hj : n < j) : dr_p p s j = p * 2 ^ s := by
  apply Nat.eq_of_testBit_eq
  intro k
  rw [dr_p_bit, Nat.testBit_mul_two_pow]
  by_cases h1 : s ≤ k
  · by_cases h2 : p.testBit (k - s) = true
    · have h3 : k - s ≤ n := by
        apply Classical.byContradiction
        intro hn
        rw [Nat.testBit_lt_two_pow (Nat.lt_of_lt_of_le hp (Nat.pow_le_pow_right (by decide) (by omega)))] at h2
        cases h2
      simp [h1, h2, show k < 33 by omega, show k - s < j by omega]
    · simp only [Bool.not_eq_true] at h2
      simp [h2]
  · simp [h1]
/-! taking p times x^s away from those faults' rows that 'top' names -/
theorem dr_sub {r r' D : Nat → Nat} {top p s j : Nat} (h : dr r (fun f => if top.testBit f = true then D f ^^^ dr_p p s j else D f)) (hj : j + s < 33) (ht : top < 2 ^ 64) (hb : p.testBit j = true) (h1 : r' (j + s) = r (j + s) ^^^ top) (h2 : ∀ k, k < 33 → k ≠ j + s → r' k = r k) :
    dr r' (fun f => if top.testBit f = true then D f ^^^ dr_p p s (j + 1) else D f) := by
  refine dr_congr (dr_add h hj ht h1 h2) (fun f hf => ?_)
  show (if top.testBit f = true then D f ^^^ dr_p p s (j + 1) else D f) = if top.testBit f = true then (if top.testBit f = true then D f ^^^ dr_p p s j else D f) ^^^ 2 ^ (j + s) else (if top.testBit f = true then D f ^^^ dr_p p s j else D f)
  have e : dr_p p s (j + 1) = dr_p p s j ^^^ 2 ^ (j + s) := by
    show dr_p p s j ^^^ _ = _
    rw [if_pos ⟨hb, hj⟩]
  cases top.testBit f
  · rfl
  · simp only [if_true]
    rw [e, Nat.xor_assoc]
theorem dr_skip {p s j : Nat} (hb : ¬ p.testBit j = true) : dr_p p s (j + 1) = dr_p p s j := by
  show dr_p p s j ^^^ _ = _
  rw [if_neg (fun z => hb z.1), Nat.xor_zero]
theorem tb_div (v k : Nat) : (v.testBit k = true) ↔ v / 2 ^ k % 2 = 1 := by
  rw [Nat.testBit_eq_decide_div_mod_eq]
  simp
theorem dr_red {r r' D : Nat → Nat} {p n k : Nat} (hm : md p n) (h : dr r D) (hk : n ≤ k) (hk2 : k < 33) (hD : ∀ f, f < 64 → D f < 2 ^ (k + 1)) (h' : dr r' (fun f => if (r k).testBit f = true then D f ^^^ p * 2 ^ (k - n) else D f)) :
    ∃ D', dr r' D' ∧ ∀ f, f < 64 → D' f < 2 ^ k ∧ px_cg p (D' f) (D f) := by
  refine ⟨_, h', fun f hf => ?_⟩
  have h1 := dv_turn hm.2.2.1 hm.2.2.2.1 hk (hD f hf)
  have e : ((r k).testBit f = true) = (D f / 2 ^ k % 2 = 1) := by rw [(h.2 f hf).2 k hk2, tb_div]
  show (if (r k).testBit f = true then D f ^^^ p * 2 ^ (k - n) else D f) < 2 ^ k ∧ px_cg p (if (r k).testBit f = true then D f ^^^ p * 2 ^ (k - n) else D f) (D f)
  simp only [e]
  exact h1
/-- the sum of some rows' bits: which faults differ at all -/
def dr_or (r : Nat → Nat) : Nat → Nat
  | 0 => 0
  | k + 1 => dr_or r k ||| r k
theorem dr_or_lt {r : Nat → Nat} : ∀ k, (∀ j, j < k → r j < 2 ^ 64) → dr_or r k < 2 ^ 64
  | 0, _ => Nat.two_pow_pos 64
  | k + 1, h => Nat.or_lt_two_pow (dr_or_lt k (fun j hj => h j (by omega))) (h k (by omega))
theorem dr_or_bit (r : Nat → Nat) (f : Nat) : ∀ k, (dr_or r k).testBit f = true ↔ ∃ j, j < k ∧ (r j).testBit f = true := by
  intro k
  induction k with
  | zero => simp [dr_or]
  | succ k ih =>
    show (dr_or r k ||| r k).testBit f = true ↔ _
    rw [Nat.testBit_or, Bool.or_eq_true, ih]
    constructor
    · rintro (⟨j, h1, h2⟩ | h)
      · exact ⟨j, by omega, h2⟩
      · exact ⟨k, by omega, h⟩
    · rintro ⟨j, h1, h2⟩
      by_cases e : j = k
      · subst e; exact Or.inr h2
      · exact Or.inl ⟨j, by omega, h2⟩
theorem dr_found {r D : Nat → Nat} (h : dr r D) {f : Nat} (hf : f < 64) : (dr_or r 33).testBit f = true ↔ D f ≠ 0 := by
  rw [dr_or_bit]
  constructor
  · rintro ⟨j, h1, h2⟩ e
    rw [(h.2 f hf).2 j h1, e] at h2
    simp at h2
  · intro hne
    apply Classical.byContradiction
    intro hn
    apply hne
    apply Nat.eq_of_testBit_eq
    intro i
    rw [Nat.zero_testBit]
    by_cases hi : i < 33
    · rw [← (h.2 f hf).2 i hi]
      cases hb : (r i).testBit f
      · rfl
      · exact absurd ⟨i, hi, hb⟩ hn
    · exact Nat.testBit_lt_two_pow (Nat.lt_of_lt_of_le (h.2 f hf).1 (Nat.pow_le_pow_right (by decide) (by omega)))
/-! counting -/
def cn_t (P : Nat → Bool) : Nat → Nat
  | 0 => 0
  | k + 1 => cn_t P k + (if P k = true then 1 else 0)
theorem cn_congr {P P' : Nat → Bool} : ∀ k, (∀ j, j < k → P j = P' j) → cn_t P k = cn_t P' k
  | 0, _ => rfl
  | k + 1, h => by
    show cn_t P k + _ = cn_t P' k + _
    rw [cn_congr k (fun j hj => h j (by omega)), h k (by omega)]
theorem cn_pc (v : Nat) : ∀ k, pc_n v k = cn_t (fun f => v.testBit f) k
  | 0 => rfl
  | k + 1 => by
    show pc_n v k + v / 2 ^ k % 2 = cn_t (fun f => v.testBit f) k + (if v.testBit k = true then 1 else 0)
    rw [cn_pc v k]
    by_cases h : v.testBit k = true
    · rw [if_pos h, (tb_div v k).mp h]
    · rw [if_neg h]
      have : ¬ v / 2 ^ k % 2 = 1 := fun z => h ((tb_div v k).mpr z)
      omega
theorem cn_big {P : Nat → Bool} {k : Nat} (h : ∀ j, k ≤ j → P j = false) : ∀ j, k ≤ j → cn_t P j = cn_t P k := by
  intro j
  induction j with
  | zero => intro hj; rw [show k = 0 by omega]
  | succ j ih =>
    intro hj
    by_cases e : k = j + 1
    · rw [e]
    · show cn_t P j + _ = _
      rw [ih (by omega), h j (by omega)]
      rfl
/-! the answers with faults beyond the last line are those without -/
theorem ci_beyond {cc : Nat} {kd lf rg : Nat → Nat} {pt f : Nat} : ∀ k, k ≤ f / 2 → ∀ j, ci_t cc kd lf rg pt (some f) k j = ci_t cc kd lf rg pt none k j := by
  intro k
  induction k with
  | zero => intro _ _; rfl
  | succ k ih =>
    intro hk j
    have e : ci_t cc kd lf rg pt (some f) k = ci_t cc kd lf rg pt none k := funext (ih (by omega))
    show (if j = k then ci_s (some f) k (ci_v cc kd lf rg pt (ci_t cc kd lf rg pt (some f) k) k) else ci_t cc kd lf rg pt (some f) k j) = (if j = k then ci_s none k (ci_v cc kd lf rg pt (ci_t cc kd lf rg pt none k) k) else ci_t cc kd lf rg pt none k j)
    rw [e]
    have e2 : ∀ b, ci_s (some f) k b = ci_s none k b := fun b => by
      show (if f / 2 = k then (f % 2 == 1) else b) = b
      rw [if_neg (by omega)]
    rw [e2]
/-- the sum of two answers, output by output -/
theorem ci_a_x (ol : Nat → Nat) (F N : Nat → Bool) (i : Nat) : ci_a ol F (i + 1) ^^^ ci_a ol N (i + 1) = if (F (ol i) ^^ N (ol i)) = true then (ci_a ol F i ^^^ ci_a ol N i) ^^^ 2 ^ i else ci_a ol F i ^^^ ci_a ol N i := by
  have e : ∀ G : Nat → Bool, ci_a ol G (i + 1) = ci_a ol G i ^^^ (if G (ol i) = true then 2 ^ i else 0) := by
    intro G
    have hlt := ci_a_lt ol G i
    show ci_a ol G i + _ = _
    split
    · apply Nat.eq_of_testBit_eq
      intro j
      rw [Nat.add_comm, Nat.testBit_xor, Nat.testBit_two_pow]
      rcases Nat.lt_trichotomy j i with h | h | h
      · rw [Nat.testBit_two_pow_add_gt h]
        simp [show ¬ i = j by omega]
      · subst h
        rw [Nat.testBit_two_pow_add_eq]
        simp
      · have h2 : 2 ^ (i + 1) ≤ 2 ^ j := Nat.pow_le_pow_right (by decide) h
        rw [Nat.pow_succ] at h2
        rw [Nat.testBit_lt_two_pow (by omega), Nat.testBit_lt_two_pow (show ci_a ol G i < 2 ^ j by omega)]
        simp [show ¬ i = j by omega]
    · rw [Nat.xor_zero, Nat.add_zero]
  rw [e F, e N]
  generalize ci_a ol F i = a
  generalize ci_a ol N i = b
  cases F (ol i) <;> cases N (ol i) <;> simp
  · ac_rfl
  · ac_rfl
  · rw [show a ^^^ 2 ^ i ^^^ (b ^^^ 2 ^ i) = a ^^^ b ^^^ 2 ^ i ^^^ 2 ^ i by ac_rfl, px_cc]
theorem ci_a_ne (ol : Nat → Nat) (F N : Nat → Bool) (oc : Nat) : ci_a ol F oc ≠ ci_a ol N oc ↔ ∃ i, i < oc ∧ (F (ol i) ^^ N (ol i)) = true := by
  constructor
  · intro hne
    apply Classical.byContradiction
    intro hn
    apply hne
    apply ci_a_congr
    intro j hj
    cases hb : (F (ol j) ^^ N (ol j))
    · revert hb
      cases F (ol j) <;> cases N (ol j) <;> simp
    · exact absurd ⟨j, hj, hb⟩ hn
  · rintro ⟨i, hi, hb⟩ e
    have h1 := ci_a_bit ol F oc i
    have h2 := ci_a_bit ol N oc i
    rw [e, h2] at h1
    simp only [hi, decide_true, Bool.true_and] at h1
    rw [h1] at hb
    simp at hb
end
section
/-! Euclid's way, and quotients -/
noncomputable def eu : Nat → Nat → Nat → Nat
  | 0, a, _ => a
  | k + 1, a, b => if b = 0 then a else eu k b (px_r b a)
theorem px_r_div {b : Nat} (hb : b ≠ 0) (a : Nat) : ∃ q, a = px_m q b ^^^ px_r b a := by
  obtain ⟨q, e⟩ := (px_r_spec hb a).2
  refine ⟨q, ?_⟩
  rw [px_m_comm, ← e, Nat.xor_comm (px_r b a) a, px_cc]
theorem eu_ok : ∀ (k a b : Nat), b < 2 ^ k → px_G (eu (k + 1) a b) a b := by
  intro k
  induction k with
  | zero =>
    intro a b hb
    have : b = 0 := by simpa using hb
    subst this
    exact px_G_self a
  | succ k ih =>
    intro a b hb
    by_cases h0 : b = 0
    · subst h0
      exact px_G_self a
    · have e : eu (k + 1 + 1) a b = eu (k + 1) b (px_r b a) := by
        show (if b = 0 then a else eu (k + 1) b (px_r b a)) = _
        rw [if_neg h0]
      rw [e]
      have hl : b.log2 ≤ k := by
        have := (Nat.log2_lt h0).2 hb
        omega
      have hr := (px_r_spec h0 a).1
      have h2 : 2 ^ b.log2 ≤ 2 ^ k := Nat.pow_le_pow_right (by decide) hl
      obtain ⟨q, eq⟩ := px_r_div h0 a
      exact px_G_turn eq (ih b (px_r b a) (by omega))
theorem px_dv_lt {f a k : Nat} (h : px_dv f a) (ha : a ≠ 0) (hk : a < 2 ^ k) : f < 2 ^ k := by
  obtain ⟨hf, hl⟩ := px_dv_le h ha
  have h1 := px_lg2 f
  have h2 : a.log2 < k := (Nat.log2_lt ha).2 hk
  have h3 : 2 ^ (f.log2 + 1) ≤ 2 ^ k := Nat.pow_le_pow_right (by decide) (by omega)
  omega
theorem qt_ex (a b : Nat) (hb : b ≠ 0) : ∃ q, ∃ r, a = px_m q b ^^^ r ∧ r < 2 ^ b.log2 := px_div (px_lg1 hb) (px_lg2 b) a
noncomputable def qt (a b : Nat) : Nat := if h : b ≠ 0 then Classical.choose (qt_ex a b h) else 0
theorem qt_of {a b q r : Nat} (hb : b ≠ 0) (e : a = px_m q b ^^^ r) (hr : r < 2 ^ b.log2) : qt a b = q := by
  unfold qt
  rw [dif_pos hb]
  obtain ⟨r', e', hr'⟩ := Classical.choose_spec (qt_ex a b hb)
  generalize Classical.choose (qt_ex a b hb) = q' at *
  have h1 : px_m (q' ^^^ q) b = r' ^^^ r := by
    rw [px_m_xor_left]
    have h2 : px_m q' b = a ^^^ r' := by rw [e', px_cc]
    have h3 : px_m q b = a ^^^ r := by rw [e, px_cc]
    rw [h2, h3, show a ^^^ r' ^^^ (a ^^^ r) = r' ^^^ r ^^^ a ^^^ a by ac_rfl, px_cc]
  have h4 : px_dv b (r' ^^^ r) := ⟨q' ^^^ q, by rw [← h1, px_m_comm]⟩
  have h5 := px_dv_small h4 (Nat.xor_lt_two_pow hr' hr) (px_lg1 hb)
  rw [h5] at h1
  rcases px_zero h1 with z | z
  · exact px_eq0 z
  · exact absurd z hb
theorem qt_dv {a b : Nat} (hb : b ≠ 0) (h : px_dv b a) : a = px_m (qt a b) b := by
  obtain ⟨q, e⟩ := h
  have e2 : a = px_m q b ^^^ 0 := by rw [e, Nat.xor_zero, px_m_comm]
  rw [qt_of hb e2 (Nat.two_pow_pos _), e, px_m_comm]
/-! what is left when all that is shared is divided out -/
noncomputable def wo : Nat → Nat → Nat → Nat
  | 0, r, _ => r
  | k + 1, r, sh => if sh = 1 then r else wo k (qt r sh) (eu 65 (qt r sh) sh)
theorem wo_ok : ∀ (k r sh : Nat), r ≠ 0 → r < 2 ^ 64 → r.log2 < k → px_dv sh r → wo k r sh ≠ 0 ∧ px_dv (wo k r sh) r ∧ (∀ f, px_ir f → px_dv f r → px_dv f (wo k r sh) ∨ px_dv f sh) ∧ (∀ f, px_ir f → px_dv f (wo k r sh) → ¬ px_dv f sh) ∧ (sh ≠ 1 → ∃ t, r = px_m (px_m (wo k r sh) sh) t) := by
  intro k
  induction k with
  | zero => intro r sh _ _ h; omega
  | succ k ih =>
    intro r sh hr hlt hl hd
    by_cases h1 : sh = 1
    · have e : wo (k + 1) r sh = r := by
        show (if sh = 1 then r else _) = r
        rw [if_pos h1]
      rw [e]
      refine ⟨hr, px_dv_refl r, fun f _ h => Or.inl h, fun f hf _ h => ?_, fun h => absurd h1 h⟩
      rw [h1] at h
      have := px_dv_unit h
      have := hf.1
      omega
    · have e : wo (k + 1) r sh = wo k (qt r sh) (eu 65 (qt r sh) sh) := by
        show (if sh = 1 then r else _) = _
        rw [if_neg h1]
      rw [e]
      obtain ⟨hs0, -⟩ := px_dv_le hd hr
      have eq := qt_dv hs0 hd
      have hq0 : qt r sh ≠ 0 := fun z => hr (by rw [eq, z, px_m_zero_left])
      have hlog := px_log hq0 hs0
      rw [← eq] at hlog
      have := px_log_pos (px_two_le hs0 h1)
      have hqr : px_dv (qt r sh) r := ⟨sh, eq⟩
      have hG : px_G (eu 65 (qt r sh) sh) (qt r sh) sh := eu_ok 64 _ _ (px_dv_lt hd hr hlt)
      obtain ⟨q1, q2, q3, q4, -⟩ := ih (qt r sh) (eu 65 (qt r sh) sh) hq0 (px_dv_lt hqr hr hlt) (by omega) hG.1
      refine ⟨q1, px_dv_trans q2 hqr, fun f hf h => ?_, fun f hf h h2 => ?_, fun _ => ?_⟩
      · rw [eq] at h
        rcases px_euclid hf h with h3 | h3
        · rcases q3 f hf h3 with h4 | h4
          · exact Or.inl h4
          · exact Or.inr (px_dv_trans h4 hG.2.1)
        · exact Or.inr h3
      · exact q4 f hf h (px_G_dv hG (px_dv_trans h q2) h2)
      · obtain ⟨t, et⟩ := q2
        refine ⟨t, ?_⟩
        conv => lhs; rw [eq]
        generalize wo k (qt r sh) (eu 65 (qt r sh) sh) = z at *
        rw [et, px_m_assoc, px_m_assoc, px_m_comm t sh]
theorem px_G_same {g a : Nat} (h : px_dv g a) {d : Nat} (hd : px_G d a g) : d = g := px_dv_anti hd.2.1 (px_G_dv hd h (px_dv_refl g))
theorem wo_S_of {a g : Nat} (ha : a ≠ 0) (hlt : a < 2 ^ 64) (h : px_dv g a) (h1 : g ≠ 1) : wo_S a g (wo 64 a g) := by
  have hl : a.log2 < 64 := (Nat.log2_lt ha).2 hlt
  obtain ⟨q1, q2, q3, q4, q5⟩ := wo_ok 64 a g ha hlt hl h
  exact ⟨q1, q5 h1, q3, q4⟩
/-- x^(2^d), as the programs reckon it -/
theorem fr_next {p n : Nat} (h : md p n) (d : Nat) : px_r p (px_m (px_r p (2 ^ 2 ^ d)) (px_r p (2 ^ 2 ^ d))) = px_r p (2 ^ 2 ^ (d + 1)) := by
  rw [px_r_ml h, px_r_mr h, ← px_2add, Nat.pow_succ (n := 2) (m := d), Nat.mul_two]
theorem fr_w {p n : Nat} (h : md p n) (d : Nat) : px_cg p (px_r p (2 ^ 2 ^ d) ^^^ px_r p 2) (2 ^ 2 ^ d ^^^ 2) := px_cg_xor (px_r_cg h _) (px_r_cg h _)
/-- x^k is told by the residue of 2 -/
theorem xp_eq {p n : Nat} (h : md p n) (k : Nat) : px_r p (px_pw (px_r p 2) k) = px_r p (2 ^ k) := by rw [px_r_pw h, px_pw_two]
theorem xp_o {p n : Nat} (h : md p n) (k : Nat) : px_r p (2 ^ k) = 1 ↔ px_o p k := by
  constructor
  · intro e
    have h1 := px_r_cg h (2 ^ k)
    rw [e] at h1
    exact px_cg_symm h1
  · intro e
    rw [(px_r_iff h (2 ^ k) 1).2 e, md_odd1 h]
end
