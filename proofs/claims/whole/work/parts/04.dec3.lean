theorem d_D_subtract_17 : decode b_D_subtract 17 = .ok (.iload 6, 2) := by decide +kernel
theorem d_D_subtract_19 : decode b_D_subtract 19 = .ok (.lushr, 1) := by decide +kernel
theorem d_D_subtract_20 : decode b_D_subtract 20 = .ok (.lconst 1, 1) := by decide +kernel
theorem d_D_subtract_21 : decode b_D_subtract 21 = .ok (.land, 1) := by decide +kernel
theorem d_D_subtract_22 : decode b_D_subtract 22 = .ok (.lconst 1, 1) := by decide +kernel
theorem d_D_subtract_23 : decode b_D_subtract 23 = .ok (.lcmp, 1) := by decide +kernel
theorem d_D_subtract_24 : decode b_D_subtract 24 = .ok (.ifCond .ne (17), 3) := by decide +kernel
theorem d_D_subtract_27 : decode b_D_subtract 27 = .ok (.aload_n 0, 1) := by decide +kernel
theorem d_D_subtract_28 : decode b_D_subtract 28 = .ok (.getfield 9, 3) := by decide +kernel
theorem d_D_subtract_31 : decode b_D_subtract 31 = .ok (.iload 6, 2) := by decide +kernel
theorem d_D_subtract_33 : decode b_D_subtract 33 = .ok (.iload 5, 2) := by decide +kernel
theorem d_D_subtract_35 : decode b_D_subtract 35 = .ok (.iadd, 1) := by decide +kernel
theorem d_D_subtract_36 : decode b_D_subtract 36 = .ok (.dup2, 1) := by decide +kernel
theorem d_D_subtract_37 : decode b_D_subtract 37 = .ok (.laload, 1) := by decide +kernel
theorem d_D_subtract_38 : decode b_D_subtract 38 = .ok (.lload_n 1, 1) := by decide +kernel
theorem d_D_subtract_39 : decode b_D_subtract 39 = .ok (.lxor, 1) := by decide +kernel
theorem d_D_subtract_40 : decode b_D_subtract 40 = .ok (.lastore, 1) := by decide +kernel
theorem d_D_subtract_41 : decode b_D_subtract 41 = .ok (.iinc 6 (1), 3) := by decide +kernel
theorem d_D_subtract_44 : decode b_D_subtract 44 = .ok (.goto (-41), 3) := by decide +kernel
theorem d_D_subtract_47 : decode b_D_subtract 47 = .ok (.return_, 1) := by decide +kernel
theorem d_D_found_0 : decode b_D_found 0 = .ok (.lconst 0, 1) := by decide +kernel
theorem d_D_found_1 : decode b_D_found 1 = .ok (.lstore_n 1, 1) := by decide +kernel
theorem d_D_found_2 : decode b_D_found 2 = .ok (.iconst (0), 1) := by decide +kernel
theorem d_D_found_3 : decode b_D_found 3 = .ok (.istore_n 3, 1) := by decide +kernel
theorem d_D_found_4 : decode b_D_found 4 = .ok (.iload_n 3, 1) := by decide +kernel
theorem d_D_found_5 : decode b_D_found 5 = .ok (.aload_n 0, 1) := by decide +kernel
theorem d_D_found_6 : decode b_D_found 6 = .ok (.getfield 9, 3) := by decide +kernel
theorem d_D_found_9 : decode b_D_found 9 = .ok (.arraylength, 1) := by decide +kernel
theorem d_D_found_10 : decode b_D_found 10 = .ok (.if_icmp .ge (18), 3) := by decide +kernel
theorem d_D_found_13 : decode b_D_found 13 = .ok (.lload_n 1, 1) := by decide +kernel
theorem d_D_found_14 : decode b_D_found 14 = .ok (.aload_n 0, 1) := by decide +kernel
theorem d_D_found_15 : decode b_D_found 15 = .ok (.getfield 9, 3) := by decide +kernel
theorem d_D_found_18 : decode b_D_found 18 = .ok (.iload_n 3, 1) := by decide +kernel
theorem d_D_found_19 : decode b_D_found 19 = .ok (.laload, 1) := by decide +kernel
theorem d_D_found_20 : decode b_D_found 20 = .ok (.lor, 1) := by decide +kernel
theorem d_D_found_21 : decode b_D_found 21 = .ok (.lstore_n 1, 1) := by decide +kernel
theorem d_D_found_22 : decode b_D_found 22 = .ok (.iinc 3 (1), 3) := by decide +kernel
theorem d_D_found_25 : decode b_D_found 25 = .ok (.goto (-21), 3) := by decide +kernel
theorem d_D_found_28 : decode b_D_found 28 = .ok (.lload_n 1, 1) := by decide +kernel
theorem d_D_found_29 : decode b_D_found 29 = .ok (.lreturn, 1) := by decide +kernel
theorem d_M_init_0 : decode b_M_init 0 = .ok (.aload_n 0, 1) := by decide +kernel
theorem d_M_init_1 : decode b_M_init 1 = .ok (.invokespecial 3, 3) := by decide +kernel
theorem d_M_init_4 : decode b_M_init 4 = .ok (.aload_n 0, 1) := by decide +kernel
theorem d_M_init_5 : decode b_M_init 5 = .ok (.ldc2_w 9, 3) := by decide +kernel
theorem d_M_init_8 : decode b_M_init 8 = .ok (.putfield 11, 3) := by decide +kernel
theorem d_M_init_11 : decode b_M_init 11 = .ok (.aload_n 0, 1) := by decide +kernel
theorem d_M_init_12 : decode b_M_init 12 = .ok (.iconst (1), 1) := by decide +kernel
theorem d_M_init_13 : decode b_M_init 13 = .ok (.putfield 17, 3) := by decide +kernel
theorem d_M_init_16 : decode b_M_init 16 = .ok (.aload_n 0, 1) := by decide +kernel
theorem d_M_init_17 : decode b_M_init 17 = .ok (.lconst 1, 1) := by decide +kernel
theorem d_M_init_18 : decode b_M_init 18 = .ok (.putfield 21, 3) := by decide +kernel
theorem d_M_init_21 : decode b_M_init 21 = .ok (.return_, 1) := by decide +kernel
theorem d_M_become_0 : decode b_M_become 0 = .ok (.aload_n 0, 1) := by decide +kernel
theorem d_M_become_1 : decode b_M_become 1 = .ok (.lload_n 1, 1) := by decide +kernel
theorem d_M_become_2 : decode b_M_become 2 = .ok (.putfield 11, 3) := by decide +kernel
theorem d_M_become_5 : decode b_M_become 5 = .ok (.aload_n 0, 1) := by decide +kernel
theorem d_M_become_6 : decode b_M_become 6 = .ok (.lload_n 1, 1) := by decide +kernel
theorem d_M_become_7 : decode b_M_become 7 = .ok (.invokestatic 24, 3) := by decide +kernel
theorem d_M_become_10 : decode b_M_become 10 = .ok (.putfield 17, 3) := by decide +kernel
theorem d_M_become_13 : decode b_M_become 13 = .ok (.aload_n 0, 1) := by decide +kernel
theorem d_M_become_14 : decode b_M_become 14 = .ok (.aload_n 0, 1) := by decide +kernel
theorem d_M_become_15 : decode b_M_become 15 = .ok (.ldc2_w 28, 3) := by decide +kernel
theorem d_M_become_18 : decode b_M_become 18 = .ok (.invokevirtual 30, 3) := by decide +kernel
theorem d_M_become_21 : decode b_M_become 21 = .ok (.putfield 21, 3) := by decide +kernel
theorem d_M_become_24 : decode b_M_become 24 = .ok (.return_, 1) := by decide +kernel
theorem d_M_hasResidue_0 : decode b_M_hasResidue 0 = .ok (.lload_n 1, 1) := by decide +kernel
theorem d_M_hasResidue_1 : decode b_M_hasResidue 1 = .ok (.aload_n 0, 1) := by decide +kernel
theorem d_M_hasResidue_2 : decode b_M_hasResidue 2 = .ok (.getfield 17, 3) := by decide +kernel
theorem d_M_hasResidue_5 : decode b_M_hasResidue 5 = .ok (.lushr, 1) := by decide +kernel
theorem d_M_hasResidue_6 : decode b_M_hasResidue 6 = .ok (.lconst 0, 1) := by decide +kernel
theorem d_M_hasResidue_7 : decode b_M_hasResidue 7 = .ok (.lcmp, 1) := by decide +kernel
theorem d_M_hasResidue_8 : decode b_M_hasResidue 8 = .ok (.ifCond .ne (7), 3) := by decide +kernel
theorem d_M_hasResidue_11 : decode b_M_hasResidue 11 = .ok (.iconst (1), 1) := by decide +kernel
theorem d_M_hasResidue_12 : decode b_M_hasResidue 12 = .ok (.goto (4), 3) := by decide +kernel
theorem d_M_hasResidue_15 : decode b_M_hasResidue 15 = .ok (.iconst (0), 1) := by decide +kernel
theorem d_M_hasResidue_16 : decode b_M_hasResidue 16 = .ok (.ireturn, 1) := by decide +kernel
theorem d_M_reduced_0 : decode b_M_reduced 0 = .ok (.lload_n 1, 1) := by decide +kernel
theorem d_M_reduced_1 : decode b_M_reduced 1 = .ok (.aload_n 0, 1) := by decide +kernel
theorem d_M_reduced_2 : decode b_M_reduced 2 = .ok (.getfield 11, 3) := by decide +kernel
theorem d_M_reduced_5 : decode b_M_reduced 5 = .ok (.invokestatic 34, 3) := by decide +kernel
theorem d_M_reduced_8 : decode b_M_reduced 8 = .ok (.lreturn, 1) := by decide +kernel
theorem d_M_stepped_0 : decode b_M_stepped 0 = .ok (.lload_n 1, 1) := by decide +kernel
theorem d_M_stepped_1 : decode b_M_stepped 1 = .ok (.iconst (1), 1) := by decide +kernel
theorem d_M_stepped_2 : decode b_M_stepped 2 = .ok (.lshl, 1) := by decide +kernel
theorem d_M_stepped_3 : decode b_M_stepped 3 = .ok (.lstore_n 3, 1) := by decide +kernel
theorem d_M_stepped_4 : decode b_M_stepped 4 = .ok (.lload_n 3, 1) := by decide +kernel
theorem d_M_stepped_5 : decode b_M_stepped 5 = .ok (.aload_n 0, 1) := by decide +kernel
theorem d_M_stepped_6 : decode b_M_stepped 6 = .ok (.getfield 17, 3) := by decide +kernel
theorem d_M_stepped_9 : decode b_M_stepped 9 = .ok (.lushr, 1) := by decide +kernel
theorem d_M_stepped_10 : decode b_M_stepped 10 = .ok (.lconst 1, 1) := by decide +kernel
theorem d_M_stepped_11 : decode b_M_stepped 11 = .ok (.land, 1) := by decide +kernel
theorem d_M_stepped_12 : decode b_M_stepped 12 = .ok (.lconst 0, 1) := by decide +kernel
theorem d_M_stepped_13 : decode b_M_stepped 13 = .ok (.lcmp, 1) := by decide +kernel
theorem d_M_stepped_14 : decode b_M_stepped 14 = .ok (.ifCond .ne (7), 3) := by decide +kernel
theorem d_M_stepped_17 : decode b_M_stepped 17 = .ok (.lload_n 3, 1) := by decide +kernel
theorem d_M_stepped_18 : decode b_M_stepped 18 = .ok (.goto (9), 3) := by decide +kernel
theorem d_M_stepped_21 : decode b_M_stepped 21 = .ok (.lload_n 3, 1) := by decide +kernel
theorem d_M_stepped_22 : decode b_M_stepped 22 = .ok (.aload_n 0, 1) := by decide +kernel
theorem d_M_stepped_23 : decode b_M_stepped 23 = .ok (.getfield 11, 3) := by decide +kernel
theorem d_M_stepped_26 : decode b_M_stepped 26 = .ok (.lxor, 1) := by decide +kernel
theorem d_M_stepped_27 : decode b_M_stepped 27 = .ok (.lreturn, 1) := by decide +kernel
theorem d_M_product_0 : decode b_M_product 0 = .ok (.lconst 0, 1) := by decide +kernel
theorem d_M_product_1 : decode b_M_product 1 = .ok (.lstore 5, 2) := by decide +kernel
theorem d_M_product_3 : decode b_M_product 3 = .ok (.aload_n 0, 1) := by decide +kernel
theorem d_M_product_4 : decode b_M_product 4 = .ok (.getfield 17, 3) := by decide +kernel
theorem d_M_product_7 : decode b_M_product 7 = .ok (.iconst (1), 1) := by decide +kernel
theorem d_M_product_8 : decode b_M_product 8 = .ok (.isub, 1) := by decide +kernel
theorem d_M_product_9 : decode b_M_product 9 = .ok (.istore 7, 2) := by decide +kernel
theorem d_M_product_11 : decode b_M_product 11 = .ok (.iload 7, 2) := by decide +kernel
theorem d_M_product_13 : decode b_M_product 13 = .ok (.ifCond .lt (34), 3) := by decide +kernel
theorem d_M_product_16 : decode b_M_product 16 = .ok (.aload_n 0, 1) := by decide +kernel
theorem d_M_product_17 : decode b_M_product 17 = .ok (.lload 5, 2) := by decide +kernel
theorem d_M_product_19 : decode b_M_product 19 = .ok (.invokevirtual 38, 3) := by decide +kernel
theorem d_M_product_22 : decode b_M_product 22 = .ok (.lstore 5, 2) := by decide +kernel
theorem d_M_product_24 : decode b_M_product 24 = .ok (.lload_n 3, 1) := by decide +kernel
theorem d_M_product_25 : decode b_M_product 25 = .ok (.iload 7, 2) := by decide +kernel
theorem d_M_product_27 : decode b_M_product 27 = .ok (.lushr, 1) := by decide +kernel
theorem d_M_product_28 : decode b_M_product 28 = .ok (.lconst 1, 1) := by decide +kernel
theorem d_M_product_29 : decode b_M_product 29 = .ok (.land, 1) := by decide +kernel
theorem d_M_product_30 : decode b_M_product 30 = .ok (.lconst 1, 1) := by decide +kernel
theorem d_M_product_31 : decode b_M_product 31 = .ok (.lcmp, 1) := by decide +kernel
theorem d_M_product_32 : decode b_M_product 32 = .ok (.ifCond .ne (9), 3) := by decide +kernel
theorem d_M_product_35 : decode b_M_product 35 = .ok (.lload 5, 2) := by decide +kernel
theorem d_M_product_37 : decode b_M_product 37 = .ok (.lload_n 1, 1) := by decide +kernel
theorem d_M_product_38 : decode b_M_product 38 = .ok (.lxor, 1) := by decide +kernel
theorem d_M_product_39 : decode b_M_product 39 = .ok (.lstore 5, 2) := by decide +kernel
theorem d_M_product_41 : decode b_M_product 41 = .ok (.iinc 7 (-1), 3) := by decide +kernel
theorem d_M_product_44 : decode b_M_product 44 = .ok (.goto (-33), 3) := by decide +kernel
theorem d_M_product_47 : decode b_M_product 47 = .ok (.lload 5, 2) := by decide +kernel
theorem d_M_product_49 : decode b_M_product 49 = .ok (.lreturn, 1) := by decide +kernel
theorem d_M_raised_0 : decode b_M_raised 0 = .ok (.lconst 1, 1) := by decide +kernel
theorem d_M_raised_1 : decode b_M_raised 1 = .ok (.lstore 5, 2) := by decide +kernel
theorem d_M_raised_3 : decode b_M_raised 3 = .ok (.lload_n 1, 1) := by decide +kernel
theorem d_M_raised_4 : decode b_M_raised 4 = .ok (.lstore 7, 2) := by decide +kernel
theorem d_M_raised_6 : decode b_M_raised 6 = .ok (.iconst (0), 1) := by decide +kernel
theorem d_M_raised_7 : decode b_M_raised 7 = .ok (.istore 9, 2) := by decide +kernel
theorem d_M_raised_9 : decode b_M_raised 9 = .ok (.iload 9, 2) := by decide +kernel
theorem d_M_raised_11 : decode b_M_raised 11 = .ok (.bipush (64), 2) := by decide +kernel
theorem d_M_raised_13 : decode b_M_raised 13 = .ok (.if_icmp .ge (49), 3) := by decide +kernel
theorem d_M_raised_16 : decode b_M_raised 16 = .ok (.lload_n 3, 1) := by decide +kernel
theorem d_M_raised_17 : decode b_M_raised 17 = .ok (.iload 9, 2) := by decide +kernel
theorem d_M_raised_19 : decode b_M_raised 19 = .ok (.lushr, 1) := by decide +kernel
theorem d_M_raised_20 : decode b_M_raised 20 = .ok (.lconst 0, 1) := by decide +kernel
theorem d_M_raised_21 : decode b_M_raised 21 = .ok (.lcmp, 1) := by decide +kernel
theorem d_M_raised_22 : decode b_M_raised 22 = .ok (.ifCond .eq (40), 3) := by decide +kernel
theorem d_M_raised_25 : decode b_M_raised 25 = .ok (.lload_n 3, 1) := by decide +kernel
theorem d_M_raised_26 : decode b_M_raised 26 = .ok (.iload 9, 2) := by decide +kernel
theorem d_M_raised_28 : decode b_M_raised 28 = .ok (.lushr, 1) := by decide +kernel
theorem d_M_raised_29 : decode b_M_raised 29 = .ok (.lconst 1, 1) := by decide +kernel
theorem d_M_raised_30 : decode b_M_raised 30 = .ok (.land, 1) := by decide +kernel
theorem d_M_raised_31 : decode b_M_raised 31 = .ok (.lconst 1, 1) := by decide +kernel
theorem d_M_raised_32 : decode b_M_raised 32 = .ok (.lcmp, 1) := by decide +kernel
theorem d_M_raised_33 : decode b_M_raised 33 = .ok (.ifCond .ne (13), 3) := by decide +kernel
theorem d_M_raised_36 : decode b_M_raised 36 = .ok (.aload_n 0, 1) := by decide +kernel
theorem d_M_raised_37 : decode b_M_raised 37 = .ok (.lload 5, 2) := by decide +kernel
theorem d_M_raised_39 : decode b_M_raised 39 = .ok (.lload 7, 2) := by decide +kernel
theorem d_M_raised_41 : decode b_M_raised 41 = .ok (.invokevirtual 41, 3) := by decide +kernel
theorem d_M_raised_44 : decode b_M_raised 44 = .ok (.lstore 5, 2) := by decide +kernel
theorem d_M_raised_46 : decode b_M_raised 46 = .ok (.aload_n 0, 1) := by decide +kernel
theorem d_M_raised_47 : decode b_M_raised 47 = .ok (.lload 7, 2) := by decide +kernel
theorem d_M_raised_49 : decode b_M_raised 49 = .ok (.lload 7, 2) := by decide +kernel
theorem d_M_raised_51 : decode b_M_raised 51 = .ok (.invokevirtual 41, 3) := by decide +kernel
theorem d_M_raised_54 : decode b_M_raised 54 = .ok (.lstore 7, 2) := by decide +kernel
theorem d_M_raised_56 : decode b_M_raised 56 = .ok (.iinc 9 (1), 3) := by decide +kernel
theorem d_M_raised_59 : decode b_M_raised 59 = .ok (.goto (-50), 3) := by decide +kernel
theorem d_M_raised_62 : decode b_M_raised 62 = .ok (.lload 5, 2) := by decide +kernel
theorem d_M_raised_64 : decode b_M_raised 64 = .ok (.lreturn, 1) := by decide +kernel
theorem d_M_isIrreducible_0 : decode b_M_isIrreducible 0 = .ok (.aload_n 0, 1) := by decide +kernel
theorem d_M_isIrreducible_1 : decode b_M_isIrreducible 1 = .ok (.getfield 21, 3) := by decide +kernel
theorem d_M_isIrreducible_4 : decode b_M_isIrreducible 4 = .ok (.lstore_n 1, 1) := by decide +kernel
theorem d_M_isIrreducible_5 : decode b_M_isIrreducible 5 = .ok (.iconst (1), 1) := by decide +kernel
theorem d_M_isIrreducible_6 : decode b_M_isIrreducible 6 = .ok (.istore_n 3, 1) := by decide +kernel
theorem d_M_isIrreducible_7 : decode b_M_isIrreducible 7 = .ok (.iconst (2), 1) := by decide +kernel
theorem d_M_isIrreducible_8 : decode b_M_isIrreducible 8 = .ok (.iload_n 3, 1) := by decide +kernel
theorem d_M_isIrreducible_9 : decode b_M_isIrreducible 9 = .ok (.imul, 1) := by decide +kernel
theorem d_M_isIrreducible_10 : decode b_M_isIrreducible 10 = .ok (.aload_n 0, 1) := by decide +kernel
theorem d_M_isIrreducible_11 : decode b_M_isIrreducible 11 = .ok (.getfield 17, 3) := by decide +kernel
theorem d_M_isIrreducible_14 : decode b_M_isIrreducible 14 = .ok (.if_icmp .gt (36), 3) := by decide +kernel
theorem d_M_isIrreducible_17 : decode b_M_isIrreducible 17 = .ok (.aload_n 0, 1) := by decide +kernel
theorem d_M_isIrreducible_18 : decode b_M_isIrreducible 18 = .ok (.lload_n 1, 1) := by decide +kernel
theorem d_M_isIrreducible_19 : decode b_M_isIrreducible 19 = .ok (.lload_n 1, 1) := by decide +kernel
theorem d_M_isIrreducible_20 : decode b_M_isIrreducible 20 = .ok (.invokevirtual 41, 3) := by decide +kernel
theorem d_M_isIrreducible_23 : decode b_M_isIrreducible 23 = .ok (.lstore_n 1, 1) := by decide +kernel
theorem d_M_isIrreducible_24 : decode b_M_isIrreducible 24 = .ok (.aload_n 0, 1) := by decide +kernel
theorem d_M_isIrreducible_25 : decode b_M_isIrreducible 25 = .ok (.getfield 11, 3) := by decide +kernel
theorem d_M_isIrreducible_28 : decode b_M_isIrreducible 28 = .ok (.lload_n 1, 1) := by decide +kernel
theorem d_M_isIrreducible_29 : decode b_M_isIrreducible 29 = .ok (.aload_n 0, 1) := by decide +kernel
theorem d_M_isIrreducible_30 : decode b_M_isIrreducible 30 = .ok (.getfield 21, 3) := by decide +kernel
theorem d_M_isIrreducible_33 : decode b_M_isIrreducible 33 = .ok (.lxor, 1) := by decide +kernel
theorem d_M_isIrreducible_34 : decode b_M_isIrreducible 34 = .ok (.invokestatic 44, 3) := by decide +kernel
theorem d_M_isIrreducible_37 : decode b_M_isIrreducible 37 = .ok (.lconst 1, 1) := by decide +kernel
theorem d_M_isIrreducible_38 : decode b_M_isIrreducible 38 = .ok (.lcmp, 1) := by decide +kernel
theorem d_M_isIrreducible_39 : decode b_M_isIrreducible 39 = .ok (.ifCond .eq (5), 3) := by decide +kernel
theorem d_M_isIrreducible_42 : decode b_M_isIrreducible 42 = .ok (.iconst (0), 1) := by decide +kernel
theorem d_M_isIrreducible_43 : decode b_M_isIrreducible 43 = .ok (.ireturn, 1) := by decide +kernel
theorem d_M_isIrreducible_44 : decode b_M_isIrreducible 44 = .ok (.iinc 3 (1), 3) := by decide +kernel
theorem d_M_isIrreducible_47 : decode b_M_isIrreducible 47 = .ok (.goto (-40), 3) := by decide +kernel
theorem d_M_isIrreducible_50 : decode b_M_isIrreducible 50 = .ok (.iconst (1), 1) := by decide +kernel
theorem d_M_isIrreducible_51 : decode b_M_isIrreducible 51 = .ok (.ireturn, 1) := by decide +kernel
theorem d_M_isPrimitive_0 : decode b_M_isPrimitive 0 = .ok (.lconst 1, 1) := by decide +kernel
theorem d_M_isPrimitive_1 : decode b_M_isPrimitive 1 = .ok (.aload_n 0, 1) := by decide +kernel
theorem d_M_isPrimitive_2 : decode b_M_isPrimitive 2 = .ok (.getfield 17, 3) := by decide +kernel
theorem d_M_isPrimitive_5 : decode b_M_isPrimitive 5 = .ok (.lshl, 1) := by decide +kernel
theorem d_M_isPrimitive_6 : decode b_M_isPrimitive 6 = .ok (.lconst 1, 1) := by decide +kernel
theorem d_M_isPrimitive_7 : decode b_M_isPrimitive 7 = .ok (.lsub, 1) := by decide +kernel
theorem d_M_isPrimitive_8 : decode b_M_isPrimitive 8 = .ok (.lstore_n 1, 1) := by decide +kernel
theorem d_M_isPrimitive_9 : decode b_M_isPrimitive 9 = .ok (.aload_n 0, 1) := by decide +kernel
theorem d_M_isPrimitive_10 : decode b_M_isPrimitive 10 = .ok (.aload_n 0, 1) := by decide +kernel
theorem d_M_isPrimitive_11 : decode b_M_isPrimitive 11 = .ok (.getfield 21, 3) := by decide +kernel
theorem d_M_isPrimitive_14 : decode b_M_isPrimitive 14 = .ok (.lload_n 1, 1) := by decide +kernel
theorem d_M_isPrimitive_15 : decode b_M_isPrimitive 15 = .ok (.invokevirtual 47, 3) := by decide +kernel
theorem d_M_isPrimitive_18 : decode b_M_isPrimitive 18 = .ok (.lconst 1, 1) := by decide +kernel
theorem d_M_isPrimitive_19 : decode b_M_isPrimitive 19 = .ok (.lcmp, 1) := by decide +kernel
theorem d_M_isPrimitive_20 : decode b_M_isPrimitive 20 = .ok (.ifCond .ne (17), 3) := by decide +kernel
theorem d_M_isPrimitive_23 : decode b_M_isPrimitive 23 = .ok (.aload_n 0, 1) := by decide +kernel
theorem d_M_isPrimitive_24 : decode b_M_isPrimitive 24 = .ok (.lload_n 1, 1) := by decide +kernel
theorem d_M_isPrimitive_25 : decode b_M_isPrimitive 25 = .ok (.invokevirtual 50, 3) := by decide +kernel
theorem d_M_isPrimitive_28 : decode b_M_isPrimitive 28 = .ok (.lload_n 1, 1) := by decide +kernel
theorem d_M_isPrimitive_29 : decode b_M_isPrimitive 29 = .ok (.lcmp, 1) := by decide +kernel
theorem d_M_isPrimitive_30 : decode b_M_isPrimitive 30 = .ok (.ifCond .ne (7), 3) := by decide +kernel
theorem d_M_isPrimitive_33 : decode b_M_isPrimitive 33 = .ok (.iconst (1), 1) := by decide +kernel
theorem d_M_isPrimitive_34 : decode b_M_isPrimitive 34 = .ok (.goto (4), 3) := by decide +kernel
theorem d_M_isPrimitive_37 : decode b_M_isPrimitive 37 = .ok (.iconst (0), 1) := by decide +kernel
theorem d_M_isPrimitive_38 : decode b_M_isPrimitive 38 = .ok (.ireturn, 1) := by decide +kernel
theorem d_M_multipleOfOrder_0 : decode b_M_multipleOfOrder 0 = .ok (.ldc2_w 53, 3) := by decide +kernel
theorem d_M_multipleOfOrder_3 : decode b_M_multipleOfOrder 3 = .ok (.lstore_n 1, 1) := by decide +kernel
theorem d_M_multipleOfOrder_4 : decode b_M_multipleOfOrder 4 = .ok (.aload_n 0, 1) := by decide +kernel
theorem d_M_multipleOfOrder_5 : decode b_M_multipleOfOrder 5 = .ok (.getfield 11, 3) := by decide +kernel
theorem d_M_multipleOfOrder_8 : decode b_M_multipleOfOrder 8 = .ok (.lstore_n 3, 1) := by decide +kernel
theorem d_M_multipleOfOrder_9 : decode b_M_multipleOfOrder 9 = .ok (.aload_n 0, 1) := by decide +kernel
theorem d_M_multipleOfOrder_10 : decode b_M_multipleOfOrder 10 = .ok (.getfield 21, 3) := by decide +kernel
theorem d_M_multipleOfOrder_13 : decode b_M_multipleOfOrder 13 = .ok (.lstore 5, 2) := by decide +kernel
theorem d_M_multipleOfOrder_15 : decode b_M_multipleOfOrder 15 = .ok (.iconst (1), 1) := by decide +kernel
theorem d_M_multipleOfOrder_16 : decode b_M_multipleOfOrder 16 = .ok (.istore 7, 2) := by decide +kernel
theorem d_M_multipleOfOrder_18 : decode b_M_multipleOfOrder 18 = .ok (.iload 7, 2) := by decide +kernel
theorem d_M_multipleOfOrder_20 : decode b_M_multipleOfOrder 20 = .ok (.aload_n 0, 1) := by decide +kernel
theorem d_M_multipleOfOrder_21 : decode b_M_multipleOfOrder 21 = .ok (.getfield 17, 3) := by decide +kernel
theorem d_M_multipleOfOrder_24 : decode b_M_multipleOfOrder 24 = .ok (.if_icmp .gt (55), 3) := by decide +kernel
theorem d_M_multipleOfOrder_27 : decode b_M_multipleOfOrder 27 = .ok (.aload_n 0, 1) := by decide +kernel
theorem d_M_multipleOfOrder_28 : decode b_M_multipleOfOrder 28 = .ok (.lload 5, 2) := by decide +kernel
theorem d_M_multipleOfOrder_30 : decode b_M_multipleOfOrder 30 = .ok (.lload 5, 2) := by decide +kernel
theorem d_M_multipleOfOrder_32 : decode b_M_multipleOfOrder 32 = .ok (.invokevirtual 41, 3) := by decide +kernel
theorem d_M_multipleOfOrder_35 : decode b_M_multipleOfOrder 35 = .ok (.lstore 5, 2) := by decide +kernel
theorem d_M_multipleOfOrder_37 : decode b_M_multipleOfOrder 37 = .ok (.lload_n 3, 1) := by decide +kernel
theorem d_M_multipleOfOrder_38 : decode b_M_multipleOfOrder 38 = .ok (.lload 5, 2) := by decide +kernel
theorem d_M_multipleOfOrder_40 : decode b_M_multipleOfOrder 40 = .ok (.aload_n 0, 1) := by decide +kernel
theorem d_M_multipleOfOrder_41 : decode b_M_multipleOfOrder 41 = .ok (.getfield 21, 3) := by decide +kernel
theorem d_M_multipleOfOrder_44 : decode b_M_multipleOfOrder 44 = .ok (.lxor, 1) := by decide +kernel
theorem d_M_multipleOfOrder_45 : decode b_M_multipleOfOrder 45 = .ok (.invokestatic 44, 3) := by decide +kernel
theorem d_M_multipleOfOrder_48 : decode b_M_multipleOfOrder 48 = .ok (.lstore 8, 2) := by decide +kernel
theorem d_M_multipleOfOrder_50 : decode b_M_multipleOfOrder 50 = .ok (.lload 8, 2) := by decide +kernel
theorem d_M_multipleOfOrder_52 : decode b_M_multipleOfOrder 52 = .ok (.lconst 1, 1) := by decide +kernel
theorem d_M_multipleOfOrder_53 : decode b_M_multipleOfOrder 53 = .ok (.lcmp, 1) := by decide +kernel
theorem d_M_multipleOfOrder_54 : decode b_M_multipleOfOrder 54 = .ok (.ifCond .eq (19), 3) := by decide +kernel
theorem d_M_multipleOfOrder_57 : decode b_M_multipleOfOrder 57 = .ok (.lload_n 1, 1) := by decide +kernel
theorem d_M_multipleOfOrder_58 : decode b_M_multipleOfOrder 58 = .ok (.lconst 1, 1) := by decide +kernel
theorem d_M_multipleOfOrder_59 : decode b_M_multipleOfOrder 59 = .ok (.iload 7, 2) := by decide +kernel
theorem d_M_multipleOfOrder_61 : decode b_M_multipleOfOrder 61 = .ok (.lshl, 1) := by decide +kernel
theorem d_M_multipleOfOrder_62 : decode b_M_multipleOfOrder 62 = .ok (.lconst 1, 1) := by decide +kernel
theorem d_M_multipleOfOrder_63 : decode b_M_multipleOfOrder 63 = .ok (.lsub, 1) := by decide +kernel
theorem d_M_multipleOfOrder_64 : decode b_M_multipleOfOrder 64 = .ok (.lmul, 1) := by decide +kernel
theorem d_M_multipleOfOrder_65 : decode b_M_multipleOfOrder 65 = .ok (.lstore_n 1, 1) := by decide +kernel
theorem d_M_multipleOfOrder_66 : decode b_M_multipleOfOrder 66 = .ok (.lload_n 3, 1) := by decide +kernel
theorem d_M_multipleOfOrder_67 : decode b_M_multipleOfOrder 67 = .ok (.lload 8, 2) := by decide +kernel
theorem d_M_multipleOfOrder_69 : decode b_M_multipleOfOrder 69 = .ok (.invokestatic 55, 3) := by decide +kernel
theorem d_M_multipleOfOrder_72 : decode b_M_multipleOfOrder 72 = .ok (.lstore_n 3, 1) := by decide +kernel
theorem d_M_multipleOfOrder_73 : decode b_M_multipleOfOrder 73 = .ok (.iinc 7 (1), 3) := by decide +kernel
theorem d_M_multipleOfOrder_76 : decode b_M_multipleOfOrder 76 = .ok (.goto (-58), 3) := by decide +kernel
theorem d_M_multipleOfOrder_79 : decode b_M_multipleOfOrder 79 = .ok (.lload_n 1, 1) := by decide +kernel
theorem d_M_multipleOfOrder_80 : decode b_M_multipleOfOrder 80 = .ok (.lreturn, 1) := by decide +kernel
theorem d_M_orderWithin_0 : decode b_M_orderWithin 0 = .ok (.lload_n 1, 1) := by decide +kernel
theorem d_M_orderWithin_1 : decode b_M_orderWithin 1 = .ok (.lstore_n 3, 1) := by decide +kernel
theorem d_M_orderWithin_2 : decode b_M_orderWithin 2 = .ok (.getstatic 58, 3) := by decide +kernel
theorem d_M_orderWithin_5 : decode b_M_orderWithin 5 = .ok (.astore 5, 2) := by decide +kernel
theorem d_M_orderWithin_7 : decode b_M_orderWithin 7 = .ok (.aload 5, 2) := by decide +kernel
theorem d_M_orderWithin_9 : decode b_M_orderWithin 9 = .ok (.arraylength, 1) := by decide +kernel
theorem d_M_orderWithin_10 : decode b_M_orderWithin 10 = .ok (.istore 6, 2) := by decide +kernel
theorem d_M_orderWithin_12 : decode b_M_orderWithin 12 = .ok (.iconst (0), 1) := by decide +kernel
theorem d_M_orderWithin_13 : decode b_M_orderWithin 13 = .ok (.istore 7, 2) := by decide +kernel
theorem d_M_orderWithin_15 : decode b_M_orderWithin 15 = .ok (.iload 7, 2) := by decide +kernel
theorem d_M_orderWithin_17 : decode b_M_orderWithin 17 = .ok (.iload 6, 2) := by decide +kernel
theorem d_M_orderWithin_19 : decode b_M_orderWithin 19 = .ok (.if_icmp .ge (24), 3) := by decide +kernel
theorem d_M_orderWithin_22 : decode b_M_orderWithin 22 = .ok (.aload 5, 2) := by decide +kernel
theorem d_M_orderWithin_24 : decode b_M_orderWithin 24 = .ok (.iload 7, 2) := by decide +kernel
theorem d_M_orderWithin_26 : decode b_M_orderWithin 26 = .ok (.laload, 1) := by decide +kernel
theorem d_M_orderWithin_27 : decode b_M_orderWithin 27 = .ok (.lstore 8, 2) := by decide +kernel
theorem d_M_orderWithin_29 : decode b_M_orderWithin 29 = .ok (.aload_n 0, 1) := by decide +kernel
theorem d_M_orderWithin_30 : decode b_M_orderWithin 30 = .ok (.lload_n 3, 1) := by decide +kernel
theorem d_M_orderWithin_31 : decode b_M_orderWithin 31 = .ok (.lload 8, 2) := by decide +kernel
theorem d_M_orderWithin_33 : decode b_M_orderWithin 33 = .ok (.invokevirtual 62, 3) := by decide +kernel
theorem d_M_orderWithin_36 : decode b_M_orderWithin 36 = .ok (.lstore_n 3, 1) := by decide +kernel
theorem d_M_orderWithin_37 : decode b_M_orderWithin 37 = .ok (.iinc 7 (1), 3) := by decide +kernel
theorem d_M_orderWithin_40 : decode b_M_orderWithin 40 = .ok (.goto (-25), 3) := by decide +kernel
theorem d_M_orderWithin_43 : decode b_M_orderWithin 43 = .ok (.lload_n 3, 1) := by decide +kernel
theorem d_M_orderWithin_44 : decode b_M_orderWithin 44 = .ok (.lreturn, 1) := by decide +kernel
theorem d_M_withoutNeedless_0 : decode b_M_withoutNeedless 0 = .ok (.lload_n 1, 1) := by decide +kernel
theorem d_M_withoutNeedless_1 : decode b_M_withoutNeedless 1 = .ok (.lstore 5, 2) := by decide +kernel
theorem d_M_withoutNeedless_3 : decode b_M_withoutNeedless 3 = .ok (.iconst (0), 1) := by decide +kernel
theorem d_M_withoutNeedless_4 : decode b_M_withoutNeedless 4 = .ok (.istore 7, 2) := by decide +kernel
theorem d_M_withoutNeedless_6 : decode b_M_withoutNeedless 6 = .ok (.iload 7, 2) := by decide +kernel
theorem d_M_withoutNeedless_8 : decode b_M_withoutNeedless 8 = .ok (.bipush (64), 2) := by decide +kernel
theorem d_M_withoutNeedless_10 : decode b_M_withoutNeedless 10 = .ok (.if_icmp .ge (52), 3) := by decide +kernel
theorem d_M_withoutNeedless_13 : decode b_M_withoutNeedless 13 = .ok (.lload_n 3, 1) := by decide +kernel
theorem d_M_withoutNeedless_14 : decode b_M_withoutNeedless 14 = .ok (.lconst 1, 1) := by decide +kernel
theorem d_M_withoutNeedless_15 : decode b_M_withoutNeedless 15 = .ok (.lcmp, 1) := by decide +kernel
theorem d_M_withoutNeedless_16 : decode b_M_withoutNeedless 16 = .ok (.ifCond .le (46), 3) := by decide +kernel
theorem d_M_withoutNeedless_19 : decode b_M_withoutNeedless 19 = .ok (.lload 5, 2) := by decide +kernel
theorem d_M_withoutNeedless_21 : decode b_M_withoutNeedless 21 = .ok (.lload_n 3, 1) := by decide +kernel
theorem d_M_withoutNeedless_22 : decode b_M_withoutNeedless 22 = .ok (.lrem, 1) := by decide +kernel
theorem d_M_withoutNeedless_23 : decode b_M_withoutNeedless 23 = .ok (.lconst 0, 1) := by decide +kernel
theorem d_M_withoutNeedless_24 : decode b_M_withoutNeedless 24 = .ok (.lcmp, 1) := by decide +kernel
theorem d_M_withoutNeedless_25 : decode b_M_withoutNeedless 25 = .ok (.ifCond .ne (37), 3) := by decide +kernel
theorem d_M_withoutNeedless_28 : decode b_M_withoutNeedless 28 = .ok (.lload 5, 2) := by decide +kernel
theorem d_M_withoutNeedless_30 : decode b_M_withoutNeedless 30 = .ok (.lload_n 3, 1) := by decide +kernel
theorem d_M_withoutNeedless_31 : decode b_M_withoutNeedless 31 = .ok (.ldiv, 1) := by decide +kernel
theorem d_M_withoutNeedless_32 : decode b_M_withoutNeedless 32 = .ok (.lstore 8, 2) := by decide +kernel
theorem d_M_withoutNeedless_34 : decode b_M_withoutNeedless 34 = .ok (.aload_n 0, 1) := by decide +kernel
theorem d_M_withoutNeedless_35 : decode b_M_withoutNeedless 35 = .ok (.aload_n 0, 1) := by decide +kernel
theorem d_M_withoutNeedless_36 : decode b_M_withoutNeedless 36 = .ok (.getfield 21, 3) := by decide +kernel
theorem d_M_withoutNeedless_39 : decode b_M_withoutNeedless 39 = .ok (.lload 8, 2) := by decide +kernel
theorem d_M_withoutNeedless_41 : decode b_M_withoutNeedless 41 = .ok (.invokevirtual 47, 3) := by decide +kernel
theorem d_M_withoutNeedless_44 : decode b_M_withoutNeedless 44 = .ok (.lconst 1, 1) := by decide +kernel
theorem d_M_withoutNeedless_45 : decode b_M_withoutNeedless 45 = .ok (.lcmp, 1) := by decide +kernel
theorem d_M_withoutNeedless_46 : decode b_M_withoutNeedless 46 = .ok (.ifCond .eq (6), 3) := by decide +kernel
theorem d_M_withoutNeedless_49 : decode b_M_withoutNeedless 49 = .ok (.goto (13), 3) := by decide +kernel
theorem d_M_withoutNeedless_52 : decode b_M_withoutNeedless 52 = .ok (.lload 8, 2) := by decide +kernel
theorem d_M_withoutNeedless_54 : decode b_M_withoutNeedless 54 = .ok (.lstore 5, 2) := by decide +kernel
theorem d_M_withoutNeedless_56 : decode b_M_withoutNeedless 56 = .ok (.iinc 7 (1), 3) := by decide +kernel
theorem d_M_withoutNeedless_59 : decode b_M_withoutNeedless 59 = .ok (.goto (-53), 3) := by decide +kernel
theorem d_M_withoutNeedless_62 : decode b_M_withoutNeedless 62 = .ok (.lload 5, 2) := by decide +kernel
theorem d_M_withoutNeedless_64 : decode b_M_withoutNeedless 64 = .ok (.lreturn, 1) := by decide +kernel
theorem d_M_degreeOf_0 : decode b_M_degreeOf 0 = .ok (.bipush (63), 2) := by decide +kernel
theorem d_M_degreeOf_2 : decode b_M_degreeOf 2 = .ok (.lload_n 0, 1) := by decide +kernel
theorem d_M_degreeOf_3 : decode b_M_degreeOf 3 = .ok (.invokestatic 65, 3) := by decide +kernel
theorem d_M_degreeOf_6 : decode b_M_degreeOf 6 = .ok (.isub, 1) := by decide +kernel
theorem d_M_degreeOf_7 : decode b_M_degreeOf 7 = .ok (.ireturn, 1) := by decide +kernel
theorem d_M_remainder_0 : decode b_M_remainder 0 = .ok (.lload_n 2, 1) := by decide +kernel
theorem d_M_remainder_1 : decode b_M_remainder 1 = .ok (.invokestatic 24, 3) := by decide +kernel
theorem d_M_remainder_4 : decode b_M_remainder 4 = .ok (.istore 4, 2) := by decide +kernel
theorem d_M_remainder_6 : decode b_M_remainder 6 = .ok (.lload_n 0, 1) := by decide +kernel
theorem d_M_remainder_7 : decode b_M_remainder 7 = .ok (.lstore 5, 2) := by decide +kernel
theorem d_M_remainder_9 : decode b_M_remainder 9 = .ok (.lload_n 0, 1) := by decide +kernel
theorem d_M_remainder_10 : decode b_M_remainder 10 = .ok (.invokestatic 24, 3) := by decide +kernel
theorem d_M_remainder_13 : decode b_M_remainder 13 = .ok (.istore 7, 2) := by decide +kernel
theorem d_M_remainder_15 : decode b_M_remainder 15 = .ok (.iload 7, 2) := by decide +kernel
theorem d_M_remainder_17 : decode b_M_remainder 17 = .ok (.iload 4, 2) := by decide +kernel
theorem d_M_remainder_19 : decode b_M_remainder 19 = .ok (.if_icmp .lt (33), 3) := by decide +kernel
theorem d_M_remainder_22 : decode b_M_remainder 22 = .ok (.lload 5, 2) := by decide +kernel
theorem d_M_remainder_24 : decode b_M_remainder 24 = .ok (.iload 7, 2) := by decide +kernel
theorem d_M_remainder_26 : decode b_M_remainder 26 = .ok (.lushr, 1) := by decide +kernel
theorem d_M_remainder_27 : decode b_M_remainder 27 = .ok (.lconst 1, 1) := by decide +kernel
theorem d_M_remainder_28 : decode b_M_remainder 28 = .ok (.land, 1) := by decide +kernel
theorem d_M_remainder_29 : decode b_M_remainder 29 = .ok (.lconst 1, 1) := by decide +kernel
theorem d_M_remainder_30 : decode b_M_remainder 30 = .ok (.lcmp, 1) := by decide +kernel
theorem d_M_remainder_31 : decode b_M_remainder 31 = .ok (.ifCond .ne (15), 3) := by decide +kernel
theorem d_M_remainder_34 : decode b_M_remainder 34 = .ok (.lload 5, 2) := by decide +kernel
theorem d_M_remainder_36 : decode b_M_remainder 36 = .ok (.lload_n 2, 1) := by decide +kernel
theorem d_M_remainder_37 : decode b_M_remainder 37 = .ok (.iload 7, 2) := by decide +kernel
theorem d_M_remainder_39 : decode b_M_remainder 39 = .ok (.iload 4, 2) := by decide +kernel
theorem d_M_remainder_41 : decode b_M_remainder 41 = .ok (.isub, 1) := by decide +kernel
theorem d_M_remainder_42 : decode b_M_remainder 42 = .ok (.lshl, 1) := by decide +kernel
theorem d_M_remainder_43 : decode b_M_remainder 43 = .ok (.lxor, 1) := by decide +kernel
theorem d_M_remainder_44 : decode b_M_remainder 44 = .ok (.lstore 5, 2) := by decide +kernel
theorem d_M_remainder_46 : decode b_M_remainder 46 = .ok (.iinc 7 (-1), 3) := by decide +kernel
theorem d_M_remainder_49 : decode b_M_remainder 49 = .ok (.goto (-34), 3) := by decide +kernel
theorem d_M_remainder_52 : decode b_M_remainder 52 = .ok (.lload 5, 2) := by decide +kernel
theorem d_M_remainder_54 : decode b_M_remainder 54 = .ok (.lreturn, 1) := by decide +kernel
theorem d_M_quotient_0 : decode b_M_quotient 0 = .ok (.lload_n 2, 1) := by decide +kernel
theorem d_M_quotient_1 : decode b_M_quotient 1 = .ok (.invokestatic 24, 3) := by decide +kernel
theorem d_M_quotient_4 : decode b_M_quotient 4 = .ok (.istore 4, 2) := by decide +kernel
theorem d_M_quotient_6 : decode b_M_quotient 6 = .ok (.lload_n 0, 1) := by decide +kernel
theorem d_M_quotient_7 : decode b_M_quotient 7 = .ok (.lstore 5, 2) := by decide +kernel
theorem d_M_quotient_9 : decode b_M_quotient 9 = .ok (.lconst 0, 1) := by decide +kernel
theorem d_M_quotient_10 : decode b_M_quotient 10 = .ok (.lstore 7, 2) := by decide +kernel
theorem d_M_quotient_12 : decode b_M_quotient 12 = .ok (.lload_n 0, 1) := by decide +kernel
theorem d_M_quotient_13 : decode b_M_quotient 13 = .ok (.invokestatic 24, 3) := by decide +kernel
theorem d_M_quotient_16 : decode b_M_quotient 16 = .ok (.istore 9, 2) := by decide +kernel
theorem d_M_quotient_18 : decode b_M_quotient 18 = .ok (.iload 9, 2) := by decide +kernel
theorem d_M_quotient_20 : decode b_M_quotient 20 = .ok (.iload 4, 2) := by decide +kernel
theorem d_M_quotient_22 : decode b_M_quotient 22 = .ok (.if_icmp .lt (45), 3) := by decide +kernel
theorem d_M_quotient_25 : decode b_M_quotient 25 = .ok (.lload 5, 2) := by decide +kernel
theorem d_M_quotient_27 : decode b_M_quotient 27 = .ok (.iload 9, 2) := by decide +kernel
theorem d_M_quotient_29 : decode b_M_quotient 29 = .ok (.lushr, 1) := by decide +kernel
theorem d_M_quotient_30 : decode b_M_quotient 30 = .ok (.lconst 1, 1) := by decide +kernel
theorem d_M_quotient_31 : decode b_M_quotient 31 = .ok (.land, 1) := by decide +kernel
theorem d_M_quotient_32 : decode b_M_quotient 32 = .ok (.lconst 1, 1) := by decide +kernel
theorem d_M_quotient_33 : decode b_M_quotient 33 = .ok (.lcmp, 1) := by decide +kernel
theorem d_M_quotient_34 : decode b_M_quotient 34 = .ok (.ifCond .ne (27), 3) := by decide +kernel
theorem d_M_quotient_37 : decode b_M_quotient 37 = .ok (.lload 5, 2) := by decide +kernel
theorem d_M_quotient_39 : decode b_M_quotient 39 = .ok (.lload_n 2, 1) := by decide +kernel
theorem d_M_quotient_40 : decode b_M_quotient 40 = .ok (.iload 9, 2) := by decide +kernel
theorem d_M_quotient_42 : decode b_M_quotient 42 = .ok (.iload 4, 2) := by decide +kernel
theorem d_M_quotient_44 : decode b_M_quotient 44 = .ok (.isub, 1) := by decide +kernel
theorem d_M_quotient_45 : decode b_M_quotient 45 = .ok (.lshl, 1) := by decide +kernel
theorem d_M_quotient_46 : decode b_M_quotient 46 = .ok (.lxor, 1) := by decide +kernel
theorem d_M_quotient_47 : decode b_M_quotient 47 = .ok (.lstore 5, 2) := by decide +kernel
theorem d_M_quotient_49 : decode b_M_quotient 49 = .ok (.lload 7, 2) := by decide +kernel
theorem d_M_quotient_51 : decode b_M_quotient 51 = .ok (.lconst 1, 1) := by decide +kernel
theorem d_M_quotient_52 : decode b_M_quotient 52 = .ok (.iload 9, 2) := by decide +kernel
theorem d_M_quotient_54 : decode b_M_quotient 54 = .ok (.iload 4, 2) := by decide +kernel
theorem d_M_quotient_56 : decode b_M_quotient 56 = .ok (.isub, 1) := by decide +kernel
theorem d_M_quotient_57 : decode b_M_quotient 57 = .ok (.lshl, 1) := by decide +kernel
theorem d_M_quotient_58 : decode b_M_quotient 58 = .ok (.lor, 1) := by decide +kernel
theorem d_M_quotient_59 : decode b_M_quotient 59 = .ok (.lstore 7, 2) := by decide +kernel
theorem d_M_quotient_61 : decode b_M_quotient 61 = .ok (.iinc 9 (-1), 3) := by decide +kernel
theorem d_M_quotient_64 : decode b_M_quotient 64 = .ok (.goto (-46), 3) := by decide +kernel
theorem d_M_quotient_67 : decode b_M_quotient 67 = .ok (.lload 7, 2) := by decide +kernel
theorem d_M_quotient_69 : decode b_M_quotient 69 = .ok (.lreturn, 1) := by decide +kernel
theorem d_M_commonDivisor_0 : decode b_M_commonDivisor 0 = .ok (.lload_n 0, 1) := by decide +kernel
theorem d_M_commonDivisor_1 : decode b_M_commonDivisor 1 = .ok (.lstore 4, 2) := by decide +kernel
theorem d_M_commonDivisor_3 : decode b_M_commonDivisor 3 = .ok (.lload_n 2, 1) := by decide +kernel
theorem d_M_commonDivisor_4 : decode b_M_commonDivisor 4 = .ok (.lstore 6, 2) := by decide +kernel
theorem d_M_commonDivisor_6 : decode b_M_commonDivisor 6 = .ok (.iconst (0), 1) := by decide +kernel
theorem d_M_commonDivisor_7 : decode b_M_commonDivisor 7 = .ok (.istore 8, 2) := by decide +kernel
theorem d_M_commonDivisor_9 : decode b_M_commonDivisor 9 = .ok (.iload 8, 2) := by decide +kernel
theorem d_M_commonDivisor_11 : decode b_M_commonDivisor 11 = .ok (.bipush (64), 2) := by decide +kernel
theorem d_M_commonDivisor_13 : decode b_M_commonDivisor 13 = .ok (.if_icmp .gt (33), 3) := by decide +kernel
theorem d_M_commonDivisor_16 : decode b_M_commonDivisor 16 = .ok (.lload 6, 2) := by decide +kernel
theorem d_M_commonDivisor_18 : decode b_M_commonDivisor 18 = .ok (.lconst 0, 1) := by decide +kernel
theorem d_M_commonDivisor_19 : decode b_M_commonDivisor 19 = .ok (.lcmp, 1) := by decide +kernel
theorem d_M_commonDivisor_20 : decode b_M_commonDivisor 20 = .ok (.ifCond .eq (26), 3) := by decide +kernel
theorem d_M_commonDivisor_23 : decode b_M_commonDivisor 23 = .ok (.lload 4, 2) := by decide +kernel
theorem d_M_commonDivisor_25 : decode b_M_commonDivisor 25 = .ok (.lload 6, 2) := by decide +kernel
theorem d_M_commonDivisor_27 : decode b_M_commonDivisor 27 = .ok (.invokestatic 34, 3) := by decide +kernel
theorem d_M_commonDivisor_30 : decode b_M_commonDivisor 30 = .ok (.lstore 9, 2) := by decide +kernel
theorem d_M_commonDivisor_32 : decode b_M_commonDivisor 32 = .ok (.lload 6, 2) := by decide +kernel
theorem d_M_commonDivisor_34 : decode b_M_commonDivisor 34 = .ok (.lstore 4, 2) := by decide +kernel
theorem d_M_commonDivisor_36 : decode b_M_commonDivisor 36 = .ok (.lload 9, 2) := by decide +kernel
theorem d_M_commonDivisor_38 : decode b_M_commonDivisor 38 = .ok (.lstore 6, 2) := by decide +kernel
theorem d_M_commonDivisor_40 : decode b_M_commonDivisor 40 = .ok (.iinc 8 (1), 3) := by decide +kernel
theorem d_M_commonDivisor_43 : decode b_M_commonDivisor 43 = .ok (.goto (-34), 3) := by decide +kernel
theorem d_M_commonDivisor_46 : decode b_M_commonDivisor 46 = .ok (.lload 4, 2) := by decide +kernel
theorem d_M_commonDivisor_48 : decode b_M_commonDivisor 48 = .ok (.lreturn, 1) := by decide +kernel
theorem d_M_without_0 : decode b_M_without 0 = .ok (.lload_n 0, 1) := by decide +kernel
theorem d_M_without_1 : decode b_M_without 1 = .ok (.lstore 4, 2) := by decide +kernel
theorem d_M_without_3 : decode b_M_without 3 = .ok (.lload 4, 2) := by decide +kernel
theorem d_M_without_5 : decode b_M_without 5 = .ok (.lload_n 2, 1) := by decide +kernel
theorem d_M_without_6 : decode b_M_without 6 = .ok (.invokestatic 44, 3) := by decide +kernel
theorem d_M_without_9 : decode b_M_without 9 = .ok (.lstore 6, 2) := by decide +kernel
theorem d_M_without_11 : decode b_M_without 11 = .ok (.iconst (0), 1) := by decide +kernel
theorem d_M_without_12 : decode b_M_without 12 = .ok (.istore 8, 2) := by decide +kernel
theorem d_M_without_14 : decode b_M_without 14 = .ok (.iload 8, 2) := by decide +kernel
theorem d_M_without_16 : decode b_M_without 16 = .ok (.bipush (64), 2) := by decide +kernel
theorem d_M_without_18 : decode b_M_without 18 = .ok (.if_icmp .ge (34), 3) := by decide +kernel
theorem d_M_without_21 : decode b_M_without 21 = .ok (.lload 6, 2) := by decide +kernel
theorem d_M_without_23 : decode b_M_without 23 = .ok (.lconst 1, 1) := by decide +kernel
theorem d_M_without_24 : decode b_M_without 24 = .ok (.lcmp, 1) := by decide +kernel
theorem d_M_without_25 : decode b_M_without 25 = .ok (.ifCond .eq (27), 3) := by decide +kernel
theorem d_M_without_28 : decode b_M_without 28 = .ok (.lload 4, 2) := by decide +kernel
theorem d_M_without_30 : decode b_M_without 30 = .ok (.lload 6, 2) := by decide +kernel
theorem d_M_without_32 : decode b_M_without 32 = .ok (.invokestatic 70, 3) := by decide +kernel
theorem d_M_without_35 : decode b_M_without 35 = .ok (.lstore 4, 2) := by decide +kernel
theorem d_M_without_37 : decode b_M_without 37 = .ok (.lload 4, 2) := by decide +kernel
theorem d_M_without_39 : decode b_M_without 39 = .ok (.lload 6, 2) := by decide +kernel
theorem d_M_without_41 : decode b_M_without 41 = .ok (.invokestatic 44, 3) := by decide +kernel
theorem d_M_without_44 : decode b_M_without 44 = .ok (.lstore 6, 2) := by decide +kernel
theorem d_M_without_46 : decode b_M_without 46 = .ok (.iinc 8 (1), 3) := by decide +kernel
theorem d_M_without_49 : decode b_M_without 49 = .ok (.goto (-35), 3) := by decide +kernel
theorem d_M_without_52 : decode b_M_without 52 = .ok (.lload 4, 2) := by decide +kernel
theorem d_M_without_54 : decode b_M_without 54 = .ok (.lreturn, 1) := by decide +kernel
theorem d_L_polynomial_0 : decode b_L_polynomial 0 = .ok (.aload_n 3, 1) := by decide +kernel
theorem d_L_polynomial_1 : decode b_L_polynomial 1 = .ok (.iconst (0), 1) := by decide +kernel
theorem d_L_polynomial_2 : decode b_L_polynomial 2 = .ok (.aload_n 0, 1) := by decide +kernel
theorem d_L_polynomial_3 : decode b_L_polynomial 3 = .ok (.lload_n 1, 1) := by decide +kernel
theorem d_L_polynomial_4 : decode b_L_polynomial 4 = .ok (.invokevirtual 7, 3) := by decide +kernel
theorem d_L_polynomial_7 : decode b_L_polynomial 7 = .ok (.i2l, 1) := by decide +kernel
theorem d_L_polynomial_8 : decode b_L_polynomial 8 = .ok (.lastore, 1) := by decide +kernel
theorem d_L_polynomial_9 : decode b_L_polynomial 9 = .ok (.goto (7), 3) := by decide +kernel
theorem d_L_polynomial_12 : decode b_L_polynomial 12 = .ok (.astore 4, 2) := by decide +kernel
theorem d_L_polynomial_14 : decode b_L_polynomial 14 = .ok (.iconst (1), 1) := by decide +kernel
theorem d_L_polynomial_15 : decode b_L_polynomial 15 = .ok (.ireturn, 1) := by decide +kernel
theorem d_L_polynomial_16 : decode b_L_polynomial 16 = .ok (.iconst (0), 1) := by decide +kernel
theorem d_L_polynomial_17 : decode b_L_polynomial 17 = .ok (.ireturn, 1) := by decide +kernel
theorem d_L_times_0 : decode b_L_times 0 = .ok (.aload 5, 2) := by decide +kernel
theorem d_L_times_2 : decode b_L_times 2 = .ok (.iconst (0), 1) := by decide +kernel
theorem d_L_times_3 : decode b_L_times 3 = .ok (.aload_n 0, 1) := by decide +kernel
theorem d_L_times_4 : decode b_L_times 4 = .ok (.lload_n 1, 1) := by decide +kernel
theorem d_L_times_5 : decode b_L_times 5 = .ok (.lload_n 3, 1) := by decide +kernel
theorem d_L_times_6 : decode b_L_times 6 = .ok (.invokevirtual 15, 3) := by decide +kernel
theorem d_L_times_9 : decode b_L_times 9 = .ok (.lastore, 1) := by decide +kernel
theorem d_L_times_10 : decode b_L_times 10 = .ok (.goto (7), 3) := by decide +kernel
theorem d_L_times_13 : decode b_L_times 13 = .ok (.astore 6, 2) := by decide +kernel
theorem d_L_times_15 : decode b_L_times 15 = .ok (.iconst (1), 1) := by decide +kernel
theorem d_L_times_16 : decode b_L_times 16 = .ok (.ireturn, 1) := by decide +kernel
theorem d_L_times_17 : decode b_L_times 17 = .ok (.iconst (0), 1) := by decide +kernel
theorem d_L_times_18 : decode b_L_times 18 = .ok (.ireturn, 1) := by decide +kernel
theorem d_L_power_0 : decode b_L_power 0 = .ok (.aload 5, 2) := by decide +kernel
theorem d_L_power_2 : decode b_L_power 2 = .ok (.iconst (0), 1) := by decide +kernel
theorem d_L_power_3 : decode b_L_power 3 = .ok (.aload_n 0, 1) := by decide +kernel
theorem d_L_power_4 : decode b_L_power 4 = .ok (.lload_n 1, 1) := by decide +kernel
theorem d_L_power_5 : decode b_L_power 5 = .ok (.lload_n 3, 1) := by decide +kernel
theorem d_L_power_6 : decode b_L_power 6 = .ok (.invokevirtual 19, 3) := by decide +kernel
theorem d_L_power_9 : decode b_L_power 9 = .ok (.lastore, 1) := by decide +kernel
theorem d_L_power_10 : decode b_L_power 10 = .ok (.goto (7), 3) := by decide +kernel
theorem d_L_power_13 : decode b_L_power 13 = .ok (.astore 6, 2) := by decide +kernel
theorem d_L_power_15 : decode b_L_power 15 = .ok (.iconst (1), 1) := by decide +kernel
theorem d_L_power_16 : decode b_L_power 16 = .ok (.ireturn, 1) := by decide +kernel
theorem d_L_power_17 : decode b_L_power 17 = .ok (.iconst (0), 1) := by decide +kernel
theorem d_L_power_18 : decode b_L_power 18 = .ok (.ireturn, 1) := by decide +kernel
theorem d_L_load_0 : decode b_L_load 0 = .ok (.aload_n 3, 1) := by decide +kernel
theorem d_L_load_1 : decode b_L_load 1 = .ok (.iconst (0), 1) := by decide +kernel
theorem d_L_load_2 : decode b_L_load 2 = .ok (.aload_n 0, 1) := by decide +kernel
theorem d_L_load_3 : decode b_L_load 3 = .ok (.lload_n 1, 1) := by decide +kernel
theorem d_L_load_4 : decode b_L_load 4 = .ok (.invokevirtual 22, 3) := by decide +kernel
theorem d_L_load_7 : decode b_L_load 7 = .ok (.lastore, 1) := by decide +kernel
theorem d_L_load_8 : decode b_L_load 8 = .ok (.goto (7), 3) := by decide +kernel
theorem d_L_load_11 : decode b_L_load 11 = .ok (.astore 4, 2) := by decide +kernel
theorem d_L_load_13 : decode b_L_load 13 = .ok (.iconst (1), 1) := by decide +kernel
theorem d_L_load_14 : decode b_L_load 14 = .ok (.ireturn, 1) := by decide +kernel
theorem d_L_load_15 : decode b_L_load 15 = .ok (.iconst (0), 1) := by decide +kernel
theorem d_L_load_16 : decode b_L_load 16 = .ok (.ireturn, 1) := by decide +kernel
theorem d_L_steps_0 : decode b_L_steps 0 = .ok (.aload_n 3, 1) := by decide +kernel
theorem d_L_steps_1 : decode b_L_steps 1 = .ok (.iconst (0), 1) := by decide +kernel
theorem d_L_steps_2 : decode b_L_steps 2 = .ok (.aload_n 0, 1) := by decide +kernel
theorem d_L_steps_3 : decode b_L_steps 3 = .ok (.lload_n 1, 1) := by decide +kernel
theorem d_L_steps_4 : decode b_L_steps 4 = .ok (.invokevirtual 26, 3) := by decide +kernel
theorem d_L_steps_7 : decode b_L_steps 7 = .ok (.lastore, 1) := by decide +kernel
theorem d_L_steps_8 : decode b_L_steps 8 = .ok (.goto (7), 3) := by decide +kernel
theorem d_L_steps_11 : decode b_L_steps 11 = .ok (.astore 4, 2) := by decide +kernel
theorem d_L_steps_13 : decode b_L_steps 13 = .ok (.iconst (1), 1) := by decide +kernel
theorem d_L_steps_14 : decode b_L_steps 14 = .ok (.ireturn, 1) := by decide +kernel
theorem d_L_steps_15 : decode b_L_steps 15 = .ok (.iconst (0), 1) := by decide +kernel
theorem d_L_steps_16 : decode b_L_steps 16 = .ok (.ireturn, 1) := by decide +kernel
theorem d_L_channel_0 : decode b_L_channel 0 = .ok (.aload_n 3, 1) := by decide +kernel
theorem d_L_channel_1 : decode b_L_channel 1 = .ok (.iconst (0), 1) := by decide +kernel
theorem d_L_channel_2 : decode b_L_channel 2 = .ok (.aload_n 0, 1) := by decide +kernel
theorem d_L_channel_3 : decode b_L_channel 3 = .ok (.lload_n 1, 1) := by decide +kernel
theorem d_L_channel_4 : decode b_L_channel 4 = .ok (.invokevirtual 29, 3) := by decide +kernel
theorem d_L_channel_7 : decode b_L_channel 7 = .ok (.i2l, 1) := by decide +kernel
theorem d_L_channel_8 : decode b_L_channel 8 = .ok (.lastore, 1) := by decide +kernel
theorem d_L_channel_9 : decode b_L_channel 9 = .ok (.goto (11), 3) := by decide +kernel
theorem d_L_channel_12 : decode b_L_channel 12 = .ok (.astore 4, 2) := by decide +kernel
theorem d_L_channel_14 : decode b_L_channel 14 = .ok (.iconst (1), 1) := by decide +kernel
theorem d_L_channel_15 : decode b_L_channel 15 = .ok (.ireturn, 1) := by decide +kernel
theorem d_L_channel_16 : decode b_L_channel 16 = .ok (.astore 4, 2) := by decide +kernel
theorem d_L_channel_18 : decode b_L_channel 18 = .ok (.iconst (2), 1) := by decide +kernel
theorem d_L_channel_19 : decode b_L_channel 19 = .ok (.ireturn, 1) := by decide +kernel
theorem d_L_channel_20 : decode b_L_channel 20 = .ok (.iconst (0), 1) := by decide +kernel
theorem d_L_channel_21 : decode b_L_channel 21 = .ok (.ireturn, 1) := by decide +kernel
theorem d_L_gate_0 : decode b_L_gate 0 = .ok (.aload 4, 2) := by decide +kernel
theorem d_L_gate_2 : decode b_L_gate 2 = .ok (.iconst (0), 1) := by decide +kernel
theorem d_L_gate_3 : decode b_L_gate 3 = .ok (.aload_n 0, 1) := by decide +kernel
theorem d_L_gate_4 : decode b_L_gate 4 = .ok (.iload_n 1, 1) := by decide +kernel
theorem d_L_gate_5 : decode b_L_gate 5 = .ok (.iload_n 2, 1) := by decide +kernel
theorem d_L_gate_6 : decode b_L_gate 6 = .ok (.iload_n 3, 1) := by decide +kernel
theorem d_L_gate_7 : decode b_L_gate 7 = .ok (.invokevirtual 34, 3) := by decide +kernel
theorem d_L_gate_10 : decode b_L_gate 10 = .ok (.i2l, 1) := by decide +kernel
theorem d_L_gate_11 : decode b_L_gate 11 = .ok (.lastore, 1) := by decide +kernel
theorem d_L_gate_12 : decode b_L_gate 12 = .ok (.goto (15), 3) := by decide +kernel
theorem d_L_gate_15 : decode b_L_gate 15 = .ok (.astore 5, 2) := by decide +kernel
theorem d_L_gate_17 : decode b_L_gate 17 = .ok (.iconst (1), 1) := by decide +kernel
theorem d_L_gate_18 : decode b_L_gate 18 = .ok (.ireturn, 1) := by decide +kernel
theorem d_L_gate_19 : decode b_L_gate 19 = .ok (.astore 5, 2) := by decide +kernel
theorem d_L_gate_21 : decode b_L_gate 21 = .ok (.iconst (2), 1) := by decide +kernel
theorem d_L_gate_22 : decode b_L_gate 22 = .ok (.ireturn, 1) := by decide +kernel
theorem d_L_gate_23 : decode b_L_gate 23 = .ok (.astore 5, 2) := by decide +kernel
theorem d_L_gate_25 : decode b_L_gate 25 = .ok (.iconst (3), 1) := by decide +kernel
theorem d_L_gate_26 : decode b_L_gate 26 = .ok (.ireturn, 1) := by decide +kernel
theorem d_L_gate_27 : decode b_L_gate 27 = .ok (.iconst (0), 1) := by decide +kernel
theorem d_L_gate_28 : decode b_L_gate 28 = .ok (.ireturn, 1) := by decide +kernel
theorem d_L_output_0 : decode b_L_output 0 = .ok (.aload_n 2, 1) := by decide +kernel
theorem d_L_output_1 : decode b_L_output 1 = .ok (.iconst (0), 1) := by decide +kernel
theorem d_L_output_2 : decode b_L_output 2 = .ok (.aload_n 0, 1) := by decide +kernel
theorem d_L_output_3 : decode b_L_output 3 = .ok (.iload_n 1, 1) := by decide +kernel
theorem d_L_output_4 : decode b_L_output 4 = .ok (.invokevirtual 40, 3) := by decide +kernel
theorem d_L_output_7 : decode b_L_output 7 = .ok (.i2l, 1) := by decide +kernel
theorem d_L_output_8 : decode b_L_output 8 = .ok (.lastore, 1) := by decide +kernel
theorem d_L_output_9 : decode b_L_output 9 = .ok (.goto (9), 3) := by decide +kernel
theorem d_L_output_12 : decode b_L_output 12 = .ok (.astore_n 3, 1) := by decide +kernel
theorem d_L_output_13 : decode b_L_output 13 = .ok (.iconst (1), 1) := by decide +kernel
theorem d_L_output_14 : decode b_L_output 14 = .ok (.ireturn, 1) := by decide +kernel
theorem d_L_output_15 : decode b_L_output 15 = .ok (.astore_n 3, 1) := by decide +kernel
theorem d_L_output_16 : decode b_L_output 16 = .ok (.iconst (2), 1) := by decide +kernel
theorem d_L_output_17 : decode b_L_output 17 = .ok (.ireturn, 1) := by decide +kernel
theorem d_L_output_18 : decode b_L_output 18 = .ok (.iconst (0), 1) := by decide +kernel
theorem d_L_output_19 : decode b_L_output 19 = .ok (.ireturn, 1) := by decide +kernel
theorem d_L_answer_0 : decode b_L_answer 0 = .ok (.aload_n 3, 1) := by decide +kernel
theorem d_L_answer_1 : decode b_L_answer 1 = .ok (.iconst (0), 1) := by decide +kernel
theorem d_L_answer_2 : decode b_L_answer 2 = .ok (.aload_n 0, 1) := by decide +kernel
theorem d_L_answer_3 : decode b_L_answer 3 = .ok (.iload_n 1, 1) := by decide +kernel
theorem d_L_answer_4 : decode b_L_answer 4 = .ok (.iload_n 2, 1) := by decide +kernel
theorem d_L_answer_5 : decode b_L_answer 5 = .ok (.invokevirtual 44, 3) := by decide +kernel
theorem d_L_answer_8 : decode b_L_answer 8 = .ok (.i2l, 1) := by decide +kernel
theorem d_L_answer_9 : decode b_L_answer 9 = .ok (.lastore, 1) := by decide +kernel
theorem d_L_answer_10 : decode b_L_answer 10 = .ok (.goto (7), 3) := by decide +kernel
theorem d_L_answer_13 : decode b_L_answer 13 = .ok (.astore 4, 2) := by decide +kernel
theorem d_L_answer_15 : decode b_L_answer 15 = .ok (.iconst (1), 1) := by decide +kernel
theorem d_L_answer_16 : decode b_L_answer 16 = .ok (.ireturn, 1) := by decide +kernel
theorem d_L_answer_17 : decode b_L_answer 17 = .ok (.iconst (0), 1) := by decide +kernel
theorem d_L_answer_18 : decode b_L_answer 18 = .ok (.ireturn, 1) := by decide +kernel
theorem d_L_session_0 : decode b_L_session 0 = .ok (.aload_n 3, 1) := by decide +kernel
theorem d_L_session_1 : decode b_L_session 1 = .ok (.iconst (0), 1) := by decide +kernel
theorem d_L_session_2 : decode b_L_session 2 = .ok (.aload_n 0, 1) := by decide +kernel
theorem d_L_session_3 : decode b_L_session 3 = .ok (.iload_n 1, 1) := by decide +kernel
theorem d_L_session_4 : decode b_L_session 4 = .ok (.iload_n 2, 1) := by decide +kernel
theorem d_L_session_5 : decode b_L_session 5 = .ok (.invokevirtual 48, 3) := by decide +kernel
theorem d_L_session_8 : decode b_L_session 8 = .ok (.lastore, 1) := by decide +kernel
theorem d_L_session_9 : decode b_L_session 9 = .ok (.goto (11), 3) := by decide +kernel
theorem d_L_session_12 : decode b_L_session 12 = .ok (.astore 4, 2) := by decide +kernel
theorem d_L_session_14 : decode b_L_session 14 = .ok (.iconst (1), 1) := by decide +kernel
theorem d_L_session_15 : decode b_L_session 15 = .ok (.ireturn, 1) := by decide +kernel
theorem d_L_session_16 : decode b_L_session 16 = .ok (.astore 4, 2) := by decide +kernel
theorem d_L_session_18 : decode b_L_session 18 = .ok (.iconst (2), 1) := by decide +kernel
theorem d_L_session_19 : decode b_L_session 19 = .ok (.ireturn, 1) := by decide +kernel
theorem d_L_session_20 : decode b_L_session 20 = .ok (.iconst (0), 1) := by decide +kernel
theorem d_L_session_21 : decode b_L_session 21 = .ok (.ireturn, 1) := by decide +kernel
theorem d_L_faults_0 : decode b_L_faults 0 = .ok (.aload_n 3, 1) := by decide +kernel
theorem d_L_faults_1 : decode b_L_faults 1 = .ok (.iconst (0), 1) := by decide +kernel
theorem d_L_faults_2 : decode b_L_faults 2 = .ok (.aload_n 0, 1) := by decide +kernel
theorem d_L_faults_3 : decode b_L_faults 3 = .ok (.iload_n 1, 1) := by decide +kernel
theorem d_L_faults_4 : decode b_L_faults 4 = .ok (.iload_n 2, 1) := by decide +kernel
theorem d_L_faults_5 : decode b_L_faults 5 = .ok (.invokevirtual 52, 3) := by decide +kernel
theorem d_L_faults_8 : decode b_L_faults 8 = .ok (.i2l, 1) := by decide +kernel
theorem d_L_faults_9 : decode b_L_faults 9 = .ok (.lastore, 1) := by decide +kernel
theorem d_L_faults_10 : decode b_L_faults 10 = .ok (.goto (11), 3) := by decide +kernel
theorem d_L_faults_13 : decode b_L_faults 13 = .ok (.astore 4, 2) := by decide +kernel
theorem d_L_faults_15 : decode b_L_faults 15 = .ok (.iconst (1), 1) := by decide +kernel
theorem d_L_faults_16 : decode b_L_faults 16 = .ok (.ireturn, 1) := by decide +kernel
theorem d_L_faults_17 : decode b_L_faults 17 = .ok (.astore 4, 2) := by decide +kernel
theorem d_L_faults_19 : decode b_L_faults 19 = .ok (.iconst (2), 1) := by decide +kernel
theorem d_L_faults_20 : decode b_L_faults 20 = .ok (.ireturn, 1) := by decide +kernel
theorem d_L_faults_21 : decode b_L_faults 21 = .ok (.iconst (0), 1) := by decide +kernel
theorem d_L_faults_22 : decode b_L_faults 22 = .ok (.ireturn, 1) := by decide +kernel
theorem d_L_first_0 : decode b_L_first 0 = .ok (.aload_n 3, 1) := by decide +kernel
theorem d_L_first_1 : decode b_L_first 1 = .ok (.iconst (0), 1) := by decide +kernel
theorem d_L_first_2 : decode b_L_first 2 = .ok (.aload_n 0, 1) := by decide +kernel
theorem d_L_first_3 : decode b_L_first 3 = .ok (.iload_n 1, 1) := by decide +kernel
theorem d_L_first_4 : decode b_L_first 4 = .ok (.iload_n 2, 1) := by decide +kernel
theorem d_L_first_5 : decode b_L_first 5 = .ok (.invokevirtual 55, 3) := by decide +kernel
theorem d_L_first_8 : decode b_L_first 8 = .ok (.i2l, 1) := by decide +kernel
theorem d_L_first_9 : decode b_L_first 9 = .ok (.lastore, 1) := by decide +kernel
theorem d_L_first_10 : decode b_L_first 10 = .ok (.goto (11), 3) := by decide +kernel
theorem d_L_first_13 : decode b_L_first 13 = .ok (.astore 4, 2) := by decide +kernel
theorem d_L_first_15 : decode b_L_first 15 = .ok (.iconst (1), 1) := by decide +kernel
theorem d_L_first_16 : decode b_L_first 16 = .ok (.ireturn, 1) := by decide +kernel
theorem d_L_first_17 : decode b_L_first 17 = .ok (.astore 4, 2) := by decide +kernel
theorem d_L_first_19 : decode b_L_first 19 = .ok (.iconst (2), 1) := by decide +kernel
theorem d_L_first_20 : decode b_L_first 20 = .ok (.ireturn, 1) := by decide +kernel
theorem d_L_first_21 : decode b_L_first 21 = .ok (.iconst (0), 1) := by decide +kernel
theorem d_L_first_22 : decode b_L_first 22 = .ok (.ireturn, 1) := by decide +kernel
theorem d_L_law_0 : decode b_L_law 0 = .ok (.new 8, 3) := by decide +kernel
theorem d_L_law_3 : decode b_L_law 3 = .ok (.dup, 1) := by decide +kernel
theorem d_L_law_4 : decode b_L_law 4 = .ok (.invokespecial 58, 3) := by decide +kernel
theorem d_L_law_7 : decode b_L_law 7 = .ok (.astore_n 1, 1) := by decide +kernel
theorem d_L_law_8 : decode b_L_law 8 = .ok (.new 59, 3) := by decide +kernel
theorem d_L_law_11 : decode b_L_law 11 = .ok (.dup, 1) := by decide +kernel
theorem d_L_law_12 : decode b_L_law 12 = .ok (.invokespecial 61, 3) := by decide +kernel
theorem d_L_law_15 : decode b_L_law 15 = .ok (.astore_n 2, 1) := by decide +kernel
theorem d_L_law_16 : decode b_L_law 16 = .ok (.iconst (1), 1) := by decide +kernel
theorem d_L_law_17 : decode b_L_law 17 = .ok (.newarray .long, 2) := by decide +kernel
theorem d_L_law_19 : decode b_L_law 19 = .ok (.astore_n 3, 1) := by decide +kernel
theorem d_L_law_20 : decode b_L_law 20 = .ok (.iconst (0), 1) := by decide +kernel
theorem d_L_law_21 : decode b_L_law 21 = .ok (.istore 4, 2) := by decide +kernel
theorem d_L_law_23 : decode b_L_law 23 = .ok (.iload 4, 2) := by decide +kernel
theorem d_L_law_25 : decode b_L_law 25 = .ok (.aload_n 0, 1) := by decide +kernel
theorem d_L_law_26 : decode b_L_law 26 = .ok (.arraylength, 1) := by decide +kernel
theorem d_L_law_27 : decode b_L_law 27 = .ok (.iconst (5), 1) := by decide +kernel
theorem d_L_law_28 : decode b_L_law 28 = .ok (.isub, 1) := by decide +kernel
theorem d_L_law_29 : decode b_L_law 29 = .ok (.if_icmp .gt (1227), 3) := by decide +kernel
theorem d_L_law_32 : decode b_L_law 32 = .ok (.aload_n 0, 1) := by decide +kernel
theorem d_L_law_33 : decode b_L_law 33 = .ok (.iload 4, 2) := by decide +kernel
theorem d_L_law_35 : decode b_L_law 35 = .ok (.iaload, 1) := by decide +kernel
theorem d_L_law_36 : decode b_L_law 36 = .ok (.bipush (31), 2) := by decide +kernel
theorem d_L_law_38 : decode b_L_law 38 = .ok (.iand, 1) := by decide +kernel
theorem d_L_law_39 : decode b_L_law 39 = .ok (.tableswitch (1211) (0) (16) #[(81), (169), (300), (431), (489), (502), (515), (529), (616), (703), (791), (804), (884), (940), (1008), (1075), (1143)], 81) := by decide +kernel
theorem d_L_law_120 : decode b_L_law 120 = .ok (.aload_n 1, 1) := by decide +kernel
theorem d_L_law_121 : decode b_L_law 121 = .ok (.aload_n 0, 1) := by decide +kernel
theorem d_L_law_122 : decode b_L_law 122 = .ok (.iload 4, 2) := by decide +kernel
theorem d_L_law_124 : decode b_L_law 124 = .ok (.iconst (1), 1) := by decide +kernel
theorem d_L_law_125 : decode b_L_law 125 = .ok (.iadd, 1) := by decide +kernel
theorem d_L_law_126 : decode b_L_law 126 = .ok (.iaload, 1) := by decide +kernel
theorem d_L_law_127 : decode b_L_law 127 = .ok (.i2l, 1) := by decide +kernel
theorem d_L_law_128 : decode b_L_law 128 = .ok (.bipush (32), 2) := by decide +kernel
theorem d_L_law_130 : decode b_L_law 130 = .ok (.lshl, 1) := by decide +kernel
theorem d_L_law_131 : decode b_L_law 131 = .ok (.aload_n 0, 1) := by decide +kernel
theorem d_L_law_132 : decode b_L_law 132 = .ok (.iload 4, 2) := by decide +kernel
theorem d_L_law_134 : decode b_L_law 134 = .ok (.iconst (2), 1) := by decide +kernel
theorem d_L_law_135 : decode b_L_law 135 = .ok (.iadd, 1) := by decide +kernel
theorem d_L_law_136 : decode b_L_law 136 = .ok (.iaload, 1) := by decide +kernel
theorem d_L_law_137 : decode b_L_law 137 = .ok (.i2l, 1) := by decide +kernel
theorem d_L_law_138 : decode b_L_law 138 = .ok (.ldc2_w 62, 3) := by decide +kernel
theorem d_L_law_141 : decode b_L_law 141 = .ok (.land, 1) := by decide +kernel
theorem d_L_law_142 : decode b_L_law 142 = .ok (.lor, 1) := by decide +kernel
theorem d_L_law_143 : decode b_L_law 143 = .ok (.aload_n 3, 1) := by decide +kernel
theorem d_L_law_144 : decode b_L_law 144 = .ok (.invokestatic 64, 3) := by decide +kernel
theorem d_L_law_147 : decode b_L_law 147 = .ok (.istore 5, 2) := by decide +kernel
theorem d_L_law_149 : decode b_L_law 149 = .ok (.aload_n 2, 1) := by decide +kernel
theorem d_L_law_150 : decode b_L_law 150 = .ok (.aload_n 0, 1) := by decide +kernel
theorem d_L_law_151 : decode b_L_law 151 = .ok (.iload 4, 2) := by decide +kernel
theorem d_L_law_153 : decode b_L_law 153 = .ok (.iconst (1), 1) := by decide +kernel
theorem d_L_law_154 : decode b_L_law 154 = .ok (.iadd, 1) := by decide +kernel
theorem d_L_law_155 : decode b_L_law 155 = .ok (.iaload, 1) := by decide +kernel
theorem d_L_law_156 : decode b_L_law 156 = .ok (.i2l, 1) := by decide +kernel
theorem d_L_law_157 : decode b_L_law 157 = .ok (.bipush (32), 2) := by decide +kernel
theorem d_L_law_159 : decode b_L_law 159 = .ok (.lshl, 1) := by decide +kernel
theorem d_L_law_160 : decode b_L_law 160 = .ok (.aload_n 0, 1) := by decide +kernel
theorem d_L_law_161 : decode b_L_law 161 = .ok (.iload 4, 2) := by decide +kernel
theorem d_L_law_163 : decode b_L_law 163 = .ok (.iconst (2), 1) := by decide +kernel
theorem d_L_law_164 : decode b_L_law 164 = .ok (.iadd, 1) := by decide +kernel
theorem d_L_law_165 : decode b_L_law 165 = .ok (.iaload, 1) := by decide +kernel
