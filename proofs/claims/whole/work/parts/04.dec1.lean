theorem d_O_product_54 : decode b_O_product 54 = .ok (.lreturn, 1) := by decide +kernel
theorem d_O_raised_0 : decode b_O_raised 0 = .ok (.aload_n 0, 1) := by decide +kernel
theorem d_O_raised_1 : decode b_O_raised 1 = .ok (.lconst 1, 1) := by decide +kernel
theorem d_O_raised_2 : decode b_O_raised 2 = .ok (.invokevirtual 79, 3) := by decide +kernel
theorem d_O_raised_5 : decode b_O_raised 5 = .ok (.lstore 5, 2) := by decide +kernel
theorem d_O_raised_7 : decode b_O_raised 7 = .ok (.bipush (62), 2) := by decide +kernel
theorem d_O_raised_9 : decode b_O_raised 9 = .ok (.istore 7, 2) := by decide +kernel
theorem d_O_raised_11 : decode b_O_raised 11 = .ok (.iload 7, 2) := by decide +kernel
theorem d_O_raised_13 : decode b_O_raised 13 = .ok (.ifCond .lt (44), 3) := by decide +kernel
theorem d_O_raised_16 : decode b_O_raised 16 = .ok (.aload_n 0, 1) := by decide +kernel
theorem d_O_raised_17 : decode b_O_raised 17 = .ok (.lload 5, 2) := by decide +kernel
theorem d_O_raised_19 : decode b_O_raised 19 = .ok (.lload 5, 2) := by decide +kernel
theorem d_O_raised_21 : decode b_O_raised 21 = .ok (.invokevirtual 82, 3) := by decide +kernel
theorem d_O_raised_24 : decode b_O_raised 24 = .ok (.lstore 5, 2) := by decide +kernel
theorem d_O_raised_26 : decode b_O_raised 26 = .ok (.lload_n 3, 1) := by decide +kernel
theorem d_O_raised_27 : decode b_O_raised 27 = .ok (.iload 7, 2) := by decide +kernel
theorem d_O_raised_29 : decode b_O_raised 29 = .ok (.lshr, 1) := by decide +kernel
theorem d_O_raised_30 : decode b_O_raised 30 = .ok (.lconst 1, 1) := by decide +kernel
theorem d_O_raised_31 : decode b_O_raised 31 = .ok (.land, 1) := by decide +kernel
theorem d_O_raised_32 : decode b_O_raised 32 = .ok (.lconst 1, 1) := by decide +kernel
theorem d_O_raised_33 : decode b_O_raised 33 = .ok (.lcmp, 1) := by decide +kernel
theorem d_O_raised_34 : decode b_O_raised 34 = .ok (.ifCond .ne (13), 3) := by decide +kernel
theorem d_O_raised_37 : decode b_O_raised 37 = .ok (.aload_n 0, 1) := by decide +kernel
theorem d_O_raised_38 : decode b_O_raised 38 = .ok (.lload 5, 2) := by decide +kernel
theorem d_O_raised_40 : decode b_O_raised 40 = .ok (.lload_n 1, 1) := by decide +kernel
theorem d_O_raised_41 : decode b_O_raised 41 = .ok (.invokevirtual 82, 3) := by decide +kernel
theorem d_O_raised_44 : decode b_O_raised 44 = .ok (.goto (5), 3) := by decide +kernel
theorem d_O_raised_47 : decode b_O_raised 47 = .ok (.lload 5, 2) := by decide +kernel
theorem d_O_raised_49 : decode b_O_raised 49 = .ok (.lstore 5, 2) := by decide +kernel
theorem d_O_raised_51 : decode b_O_raised 51 = .ok (.iinc 7 (-1), 3) := by decide +kernel
theorem d_O_raised_54 : decode b_O_raised 54 = .ok (.goto (-43), 3) := by decide +kernel
theorem d_O_raised_57 : decode b_O_raised 57 = .ok (.lload 5, 2) := by decide +kernel
theorem d_O_raised_59 : decode b_O_raised 59 = .ok (.lreturn, 1) := by decide +kernel
theorem d_O_left_0 : decode b_O_left 0 = .ok (.lload_n 0, 1) := by decide +kernel
theorem d_O_left_1 : decode b_O_left 1 = .ok (.lstore 5, 2) := by decide +kernel
theorem d_O_left_3 : decode b_O_left 3 = .ok (.bipush (63), 2) := by decide +kernel
theorem d_O_left_5 : decode b_O_left 5 = .ok (.istore 7, 2) := by decide +kernel
theorem d_O_left_7 : decode b_O_left 7 = .ok (.iload 7, 2) := by decide +kernel
theorem d_O_left_9 : decode b_O_left 9 = .ok (.iload 4, 2) := by decide +kernel
theorem d_O_left_11 : decode b_O_left 11 = .ok (.if_icmp .lt (38), 3) := by decide +kernel
theorem d_O_left_14 : decode b_O_left 14 = .ok (.lload 5, 2) := by decide +kernel
theorem d_O_left_16 : decode b_O_left 16 = .ok (.iload 7, 2) := by decide +kernel
theorem d_O_left_18 : decode b_O_left 18 = .ok (.lshr, 1) := by decide +kernel
theorem d_O_left_19 : decode b_O_left 19 = .ok (.lconst 1, 1) := by decide +kernel
theorem d_O_left_20 : decode b_O_left 20 = .ok (.land, 1) := by decide +kernel
theorem d_O_left_21 : decode b_O_left 21 = .ok (.lconst 1, 1) := by decide +kernel
theorem d_O_left_22 : decode b_O_left 22 = .ok (.lcmp, 1) := by decide +kernel
theorem d_O_left_23 : decode b_O_left 23 = .ok (.ifCond .ne (16), 3) := by decide +kernel
theorem d_O_left_26 : decode b_O_left 26 = .ok (.lload 5, 2) := by decide +kernel
theorem d_O_left_28 : decode b_O_left 28 = .ok (.lload_n 2, 1) := by decide +kernel
theorem d_O_left_29 : decode b_O_left 29 = .ok (.iload 7, 2) := by decide +kernel
theorem d_O_left_31 : decode b_O_left 31 = .ok (.iload 4, 2) := by decide +kernel
theorem d_O_left_33 : decode b_O_left 33 = .ok (.isub, 1) := by decide +kernel
theorem d_O_left_34 : decode b_O_left 34 = .ok (.lshl, 1) := by decide +kernel
theorem d_O_left_35 : decode b_O_left 35 = .ok (.lxor, 1) := by decide +kernel
theorem d_O_left_36 : decode b_O_left 36 = .ok (.goto (5), 3) := by decide +kernel
theorem d_O_left_39 : decode b_O_left 39 = .ok (.lload 5, 2) := by decide +kernel
theorem d_O_left_41 : decode b_O_left 41 = .ok (.lstore 5, 2) := by decide +kernel
theorem d_O_left_43 : decode b_O_left 43 = .ok (.iinc 7 (-1), 3) := by decide +kernel
theorem d_O_left_46 : decode b_O_left 46 = .ok (.goto (-39), 3) := by decide +kernel
theorem d_O_left_49 : decode b_O_left 49 = .ok (.lload 5, 2) := by decide +kernel
theorem d_O_left_51 : decode b_O_left 51 = .ok (.lreturn, 1) := by decide +kernel
theorem d_O_reduced_0 : decode b_O_reduced 0 = .ok (.lload_n 1, 1) := by decide +kernel
theorem d_O_reduced_1 : decode b_O_reduced 1 = .ok (.aload_n 0, 1) := by decide +kernel
theorem d_O_reduced_2 : decode b_O_reduced 2 = .ok (.getfield 9, 3) := by decide +kernel
theorem d_O_reduced_5 : decode b_O_reduced 5 = .ok (.aload_n 0, 1) := by decide +kernel
theorem d_O_reduced_6 : decode b_O_reduced 6 = .ok (.getfield 15, 3) := by decide +kernel
theorem d_O_reduced_9 : decode b_O_reduced 9 = .ok (.invokestatic 86, 3) := by decide +kernel
theorem d_O_reduced_12 : decode b_O_reduced 12 = .ok (.lreturn, 1) := by decide +kernel
theorem d_O_times_0 : decode b_O_times 0 = .ok (.aload_n 0, 1) := by decide +kernel
theorem d_O_times_1 : decode b_O_times 1 = .ok (.aload_n 0, 1) := by decide +kernel
theorem d_O_times_2 : decode b_O_times 2 = .ok (.lload_n 1, 1) := by decide +kernel
theorem d_O_times_3 : decode b_O_times 3 = .ok (.invokevirtual 90, 3) := by decide +kernel
theorem d_O_times_6 : decode b_O_times 6 = .ok (.ifCond .eq (15), 3) := by decide +kernel
theorem d_O_times_9 : decode b_O_times 9 = .ok (.aload_n 0, 1) := by decide +kernel
theorem d_O_times_10 : decode b_O_times 10 = .ok (.lload_n 3, 1) := by decide +kernel
theorem d_O_times_11 : decode b_O_times 11 = .ok (.invokevirtual 90, 3) := by decide +kernel
theorem d_O_times_14 : decode b_O_times 14 = .ok (.ifCond .eq (7), 3) := by decide +kernel
theorem d_O_times_17 : decode b_O_times 17 = .ok (.iconst (0), 1) := by decide +kernel
theorem d_O_times_18 : decode b_O_times 18 = .ok (.goto (4), 3) := by decide +kernel
theorem d_O_times_21 : decode b_O_times 21 = .ok (.iconst (1), 1) := by decide +kernel
theorem d_O_times_22 : decode b_O_times 22 = .ok (.invokevirtual 57, 3) := by decide +kernel
theorem d_O_times_25 : decode b_O_times 25 = .ok (.ifCond .eq (7), 3) := by decide +kernel
theorem d_O_times_28 : decode b_O_times 28 = .ok (.lconst 0, 1) := by decide +kernel
theorem d_O_times_29 : decode b_O_times 29 = .ok (.goto (9), 3) := by decide +kernel
theorem d_O_times_32 : decode b_O_times 32 = .ok (.aload_n 0, 1) := by decide +kernel
theorem d_O_times_33 : decode b_O_times 33 = .ok (.lload_n 1, 1) := by decide +kernel
theorem d_O_times_34 : decode b_O_times 34 = .ok (.lload_n 3, 1) := by decide +kernel
theorem d_O_times_35 : decode b_O_times 35 = .ok (.invokevirtual 82, 3) := by decide +kernel
theorem d_O_times_38 : decode b_O_times 38 = .ok (.lreturn, 1) := by decide +kernel
theorem d_O_power_0 : decode b_O_power 0 = .ok (.aload_n 0, 1) := by decide +kernel
theorem d_O_power_1 : decode b_O_power 1 = .ok (.aload_n 0, 1) := by decide +kernel
theorem d_O_power_2 : decode b_O_power 2 = .ok (.lload_n 1, 1) := by decide +kernel
theorem d_O_power_3 : decode b_O_power 3 = .ok (.invokevirtual 90, 3) := by decide +kernel
theorem d_O_power_6 : decode b_O_power 6 = .ok (.ifCond .eq (13), 3) := by decide +kernel
theorem d_O_power_9 : decode b_O_power 9 = .ok (.lload_n 3, 1) := by decide +kernel
theorem d_O_power_10 : decode b_O_power 10 = .ok (.lconst 0, 1) := by decide +kernel
theorem d_O_power_11 : decode b_O_power 11 = .ok (.lcmp, 1) := by decide +kernel
theorem d_O_power_12 : decode b_O_power 12 = .ok (.ifCond .lt (7), 3) := by decide +kernel
theorem d_O_power_15 : decode b_O_power 15 = .ok (.iconst (0), 1) := by decide +kernel
theorem d_O_power_16 : decode b_O_power 16 = .ok (.goto (4), 3) := by decide +kernel
theorem d_O_power_19 : decode b_O_power 19 = .ok (.iconst (1), 1) := by decide +kernel
theorem d_O_power_20 : decode b_O_power 20 = .ok (.invokevirtual 57, 3) := by decide +kernel
theorem d_O_power_23 : decode b_O_power 23 = .ok (.ifCond .eq (7), 3) := by decide +kernel
theorem d_O_power_26 : decode b_O_power 26 = .ok (.lconst 0, 1) := by decide +kernel
theorem d_O_power_27 : decode b_O_power 27 = .ok (.goto (9), 3) := by decide +kernel
theorem d_O_power_30 : decode b_O_power 30 = .ok (.aload_n 0, 1) := by decide +kernel
theorem d_O_power_31 : decode b_O_power 31 = .ok (.lload_n 1, 1) := by decide +kernel
theorem d_O_power_32 : decode b_O_power 32 = .ok (.lload_n 3, 1) := by decide +kernel
theorem d_O_power_33 : decode b_O_power 33 = .ok (.invokevirtual 94, 3) := by decide +kernel
theorem d_O_power_36 : decode b_O_power 36 = .ok (.lreturn, 1) := by decide +kernel
theorem d_O_residue_0 : decode b_O_residue 0 = .ok (.aload_n 0, 1) := by decide +kernel
theorem d_O_residue_1 : decode b_O_residue 1 = .ok (.iconst (0), 1) := by decide +kernel
theorem d_O_residue_2 : decode b_O_residue 2 = .ok (.putfield 48, 3) := by decide +kernel
theorem d_O_residue_5 : decode b_O_residue 5 = .ok (.aload_n 0, 1) := by decide +kernel
theorem d_O_residue_6 : decode b_O_residue 6 = .ok (.lload_n 1, 1) := by decide +kernel
theorem d_O_residue_7 : decode b_O_residue 7 = .ok (.invokevirtual 79, 3) := by decide +kernel
theorem d_O_residue_10 : decode b_O_residue 10 = .ok (.lreturn, 1) := by decide +kernel
theorem d_O_isProduct_0 : decode b_O_isProduct 0 = .ok (.iconst (1), 1) := by decide +kernel
theorem d_O_isProduct_1 : decode b_O_isProduct 1 = .ok (.istore_n 1, 1) := by decide +kernel
theorem d_O_isProduct_2 : decode b_O_isProduct 2 = .ok (.iconst (2), 1) := by decide +kernel
theorem d_O_isProduct_3 : decode b_O_isProduct 3 = .ok (.iload_n 1, 1) := by decide +kernel
theorem d_O_isProduct_4 : decode b_O_isProduct 4 = .ok (.imul, 1) := by decide +kernel
theorem d_O_isProduct_5 : decode b_O_isProduct 5 = .ok (.aload_n 0, 1) := by decide +kernel
theorem d_O_isProduct_6 : decode b_O_isProduct 6 = .ok (.getfield 15, 3) := by decide +kernel
theorem d_O_isProduct_9 : decode b_O_isProduct 9 = .ok (.if_icmp .gt (95), 3) := by decide +kernel
theorem d_O_isProduct_12 : decode b_O_isProduct 12 = .ok (.lconst 1, 1) := by decide +kernel
theorem d_O_isProduct_13 : decode b_O_isProduct 13 = .ok (.iload_n 1, 1) := by decide +kernel
theorem d_O_isProduct_14 : decode b_O_isProduct 14 = .ok (.lshl, 1) := by decide +kernel
theorem d_O_isProduct_15 : decode b_O_isProduct 15 = .ok (.lconst 1, 1) := by decide +kernel
theorem d_O_isProduct_16 : decode b_O_isProduct 16 = .ok (.ladd, 1) := by decide +kernel
theorem d_O_isProduct_17 : decode b_O_isProduct 17 = .ok (.lstore_n 2, 1) := by decide +kernel
theorem d_O_isProduct_18 : decode b_O_isProduct 18 = .ok (.lload_n 2, 1) := by decide +kernel
theorem d_O_isProduct_19 : decode b_O_isProduct 19 = .ok (.ldc2_w 73, 3) := by decide +kernel
theorem d_O_isProduct_22 : decode b_O_isProduct 22 = .ok (.iload_n 1, 1) := by decide +kernel
theorem d_O_isProduct_23 : decode b_O_isProduct 23 = .ok (.lshl, 1) := by decide +kernel
theorem d_O_isProduct_24 : decode b_O_isProduct 24 = .ok (.lcmp, 1) := by decide +kernel
theorem d_O_isProduct_25 : decode b_O_isProduct 25 = .ok (.ifCond .ge (73), 3) := by decide +kernel
theorem d_O_isProduct_28 : decode b_O_isProduct 28 = .ok (.aload_n 0, 1) := by decide +kernel
theorem d_O_isProduct_29 : decode b_O_isProduct 29 = .ok (.getfield 9, 3) := by decide +kernel
theorem d_O_isProduct_32 : decode b_O_isProduct 32 = .ok (.lstore 4, 2) := by decide +kernel
theorem d_O_isProduct_34 : decode b_O_isProduct 34 = .ok (.aload_n 0, 1) := by decide +kernel
theorem d_O_isProduct_35 : decode b_O_isProduct 35 = .ok (.getfield 15, 3) := by decide +kernel
theorem d_O_isProduct_38 : decode b_O_isProduct 38 = .ok (.istore 6, 2) := by decide +kernel
theorem d_O_isProduct_40 : decode b_O_isProduct 40 = .ok (.iload 6, 2) := by decide +kernel
theorem d_O_isProduct_42 : decode b_O_isProduct 42 = .ok (.iload_n 1, 1) := by decide +kernel
theorem d_O_isProduct_43 : decode b_O_isProduct 43 = .ok (.if_icmp .lt (37), 3) := by decide +kernel
theorem d_O_isProduct_46 : decode b_O_isProduct 46 = .ok (.lload 4, 2) := by decide +kernel
theorem d_O_isProduct_48 : decode b_O_isProduct 48 = .ok (.iload 6, 2) := by decide +kernel
theorem d_O_isProduct_50 : decode b_O_isProduct 50 = .ok (.lshr, 1) := by decide +kernel
theorem d_O_isProduct_51 : decode b_O_isProduct 51 = .ok (.lconst 1, 1) := by decide +kernel
theorem d_O_isProduct_52 : decode b_O_isProduct 52 = .ok (.land, 1) := by decide +kernel
theorem d_O_isProduct_53 : decode b_O_isProduct 53 = .ok (.lconst 1, 1) := by decide +kernel
theorem d_O_isProduct_54 : decode b_O_isProduct 54 = .ok (.lcmp, 1) := by decide +kernel
theorem d_O_isProduct_55 : decode b_O_isProduct 55 = .ok (.ifCond .ne (15), 3) := by decide +kernel
theorem d_O_isProduct_58 : decode b_O_isProduct 58 = .ok (.lload 4, 2) := by decide +kernel
theorem d_O_isProduct_60 : decode b_O_isProduct 60 = .ok (.lload_n 2, 1) := by decide +kernel
theorem d_O_isProduct_61 : decode b_O_isProduct 61 = .ok (.iload 6, 2) := by decide +kernel
theorem d_O_isProduct_63 : decode b_O_isProduct 63 = .ok (.iload_n 1, 1) := by decide +kernel
theorem d_O_isProduct_64 : decode b_O_isProduct 64 = .ok (.isub, 1) := by decide +kernel
theorem d_O_isProduct_65 : decode b_O_isProduct 65 = .ok (.lshl, 1) := by decide +kernel
theorem d_O_isProduct_66 : decode b_O_isProduct 66 = .ok (.lxor, 1) := by decide +kernel
theorem d_O_isProduct_67 : decode b_O_isProduct 67 = .ok (.goto (5), 3) := by decide +kernel
theorem d_O_isProduct_70 : decode b_O_isProduct 70 = .ok (.lload 4, 2) := by decide +kernel
theorem d_O_isProduct_72 : decode b_O_isProduct 72 = .ok (.lstore 4, 2) := by decide +kernel
theorem d_O_isProduct_74 : decode b_O_isProduct 74 = .ok (.iinc 6 (-1), 3) := by decide +kernel
theorem d_O_isProduct_77 : decode b_O_isProduct 77 = .ok (.goto (-37), 3) := by decide +kernel
theorem d_O_isProduct_80 : decode b_O_isProduct 80 = .ok (.lload 4, 2) := by decide +kernel
theorem d_O_isProduct_82 : decode b_O_isProduct 82 = .ok (.lconst 0, 1) := by decide +kernel
theorem d_O_isProduct_83 : decode b_O_isProduct 83 = .ok (.lcmp, 1) := by decide +kernel
theorem d_O_isProduct_84 : decode b_O_isProduct 84 = .ok (.ifCond .ne (5), 3) := by decide +kernel
theorem d_O_isProduct_87 : decode b_O_isProduct 87 = .ok (.iconst (1), 1) := by decide +kernel
theorem d_O_isProduct_88 : decode b_O_isProduct 88 = .ok (.ireturn, 1) := by decide +kernel
theorem d_O_isProduct_89 : decode b_O_isProduct 89 = .ok (.lload_n 2, 1) := by decide +kernel
theorem d_O_isProduct_90 : decode b_O_isProduct 90 = .ok (.ldc2_w 73, 3) := by decide +kernel
theorem d_O_isProduct_93 : decode b_O_isProduct 93 = .ok (.ladd, 1) := by decide +kernel
theorem d_O_isProduct_94 : decode b_O_isProduct 94 = .ok (.lstore_n 2, 1) := by decide +kernel
theorem d_O_isProduct_95 : decode b_O_isProduct 95 = .ok (.goto (-77), 3) := by decide +kernel
theorem d_O_isProduct_98 : decode b_O_isProduct 98 = .ok (.iinc 1 (1), 3) := by decide +kernel
theorem d_O_isProduct_101 : decode b_O_isProduct 101 = .ok (.goto (-99), 3) := by decide +kernel
theorem d_O_isProduct_104 : decode b_O_isProduct 104 = .ok (.iconst (0), 1) := by decide +kernel
theorem d_O_isProduct_105 : decode b_O_isProduct 105 = .ok (.ireturn, 1) := by decide +kernel
theorem d_O_irreducible_0 : decode b_O_irreducible 0 = .ok (.aload_n 0, 1) := by decide +kernel
theorem d_O_irreducible_1 : decode b_O_irreducible 1 = .ok (.iconst (0), 1) := by decide +kernel
theorem d_O_irreducible_2 : decode b_O_irreducible 2 = .ok (.putfield 48, 3) := by decide +kernel
theorem d_O_irreducible_5 : decode b_O_irreducible 5 = .ok (.aload_n 0, 1) := by decide +kernel
theorem d_O_irreducible_6 : decode b_O_irreducible 6 = .ok (.getfield 61, 3) := by decide +kernel
theorem d_O_irreducible_9 : decode b_O_irreducible 9 = .ok (.ifCond .ne (19), 3) := by decide +kernel
theorem d_O_irreducible_12 : decode b_O_irreducible 12 = .ok (.aload_n 0, 1) := by decide +kernel
theorem d_O_irreducible_13 : decode b_O_irreducible 13 = .ok (.aload_n 0, 1) := by decide +kernel
theorem d_O_irreducible_14 : decode b_O_irreducible 14 = .ok (.invokevirtual 97, 3) := by decide +kernel
theorem d_O_irreducible_17 : decode b_O_irreducible 17 = .ok (.ifCond .eq (7), 3) := by decide +kernel
theorem d_O_irreducible_20 : decode b_O_irreducible 20 = .ok (.iconst (1), 1) := by decide +kernel
theorem d_O_irreducible_21 : decode b_O_irreducible 21 = .ok (.goto (4), 3) := by decide +kernel
theorem d_O_irreducible_24 : decode b_O_irreducible 24 = .ok (.iconst (2), 1) := by decide +kernel
theorem d_O_irreducible_25 : decode b_O_irreducible 25 = .ok (.putfield 61, 3) := by decide +kernel
theorem d_O_irreducible_28 : decode b_O_irreducible 28 = .ok (.aload_n 0, 1) := by decide +kernel
theorem d_O_irreducible_29 : decode b_O_irreducible 29 = .ok (.getfield 61, 3) := by decide +kernel
theorem d_O_irreducible_32 : decode b_O_irreducible 32 = .ok (.iconst (2), 1) := by decide +kernel
theorem d_O_irreducible_33 : decode b_O_irreducible 33 = .ok (.if_icmp .ne (7), 3) := by decide +kernel
theorem d_O_irreducible_36 : decode b_O_irreducible 36 = .ok (.iconst (1), 1) := by decide +kernel
theorem d_O_irreducible_37 : decode b_O_irreducible 37 = .ok (.goto (4), 3) := by decide +kernel
theorem d_O_irreducible_40 : decode b_O_irreducible 40 = .ok (.iconst (0), 1) := by decide +kernel
theorem d_O_irreducible_41 : decode b_O_irreducible 41 = .ok (.ireturn, 1) := by decide +kernel
theorem d_O_primitive_0 : decode b_O_primitive 0 = .ok (.aload_n 0, 1) := by decide +kernel
theorem d_O_primitive_1 : decode b_O_primitive 1 = .ok (.iconst (0), 1) := by decide +kernel
theorem d_O_primitive_2 : decode b_O_primitive 2 = .ok (.putfield 48, 3) := by decide +kernel
theorem d_O_primitive_5 : decode b_O_primitive 5 = .ok (.lconst 1, 1) := by decide +kernel
theorem d_O_primitive_6 : decode b_O_primitive 6 = .ok (.aload_n 0, 1) := by decide +kernel
theorem d_O_primitive_7 : decode b_O_primitive 7 = .ok (.getfield 15, 3) := by decide +kernel
theorem d_O_primitive_10 : decode b_O_primitive 10 = .ok (.lshl, 1) := by decide +kernel
theorem d_O_primitive_11 : decode b_O_primitive 11 = .ok (.lconst 1, 1) := by decide +kernel
theorem d_O_primitive_12 : decode b_O_primitive 12 = .ok (.lsub, 1) := by decide +kernel
theorem d_O_primitive_13 : decode b_O_primitive 13 = .ok (.lstore_n 1, 1) := by decide +kernel
theorem d_O_primitive_14 : decode b_O_primitive 14 = .ok (.aload_n 0, 1) := by decide +kernel
theorem d_O_primitive_15 : decode b_O_primitive 15 = .ok (.ldc2_w 73, 3) := by decide +kernel
theorem d_O_primitive_18 : decode b_O_primitive 18 = .ok (.invokevirtual 79, 3) := by decide +kernel
theorem d_O_primitive_21 : decode b_O_primitive 21 = .ok (.lstore_n 3, 1) := by decide +kernel
theorem d_O_primitive_22 : decode b_O_primitive 22 = .ok (.aload_n 0, 1) := by decide +kernel
theorem d_O_primitive_23 : decode b_O_primitive 23 = .ok (.lload_n 3, 1) := by decide +kernel
theorem d_O_primitive_24 : decode b_O_primitive 24 = .ok (.lload_n 1, 1) := by decide +kernel
theorem d_O_primitive_25 : decode b_O_primitive 25 = .ok (.invokevirtual 94, 3) := by decide +kernel
theorem d_O_primitive_28 : decode b_O_primitive 28 = .ok (.lconst 1, 1) := by decide +kernel
theorem d_O_primitive_29 : decode b_O_primitive 29 = .ok (.lcmp, 1) := by decide +kernel
theorem d_O_primitive_30 : decode b_O_primitive 30 = .ok (.ifCond .eq (5), 3) := by decide +kernel
theorem d_O_primitive_33 : decode b_O_primitive 33 = .ok (.iconst (0), 1) := by decide +kernel
theorem d_O_primitive_34 : decode b_O_primitive 34 = .ok (.ireturn, 1) := by decide +kernel
theorem d_O_primitive_35 : decode b_O_primitive 35 = .ok (.lload_n 1, 1) := by decide +kernel
theorem d_O_primitive_36 : decode b_O_primitive 36 = .ok (.lstore 5, 2) := by decide +kernel
theorem d_O_primitive_38 : decode b_O_primitive 38 = .ok (.iconst (1), 1) := by decide +kernel
theorem d_O_primitive_39 : decode b_O_primitive 39 = .ok (.istore 7, 2) := by decide +kernel
theorem d_O_primitive_41 : decode b_O_primitive 41 = .ok (.ldc2_w 73, 3) := by decide +kernel
theorem d_O_primitive_44 : decode b_O_primitive 44 = .ok (.lstore 8, 2) := by decide +kernel
theorem d_O_primitive_46 : decode b_O_primitive 46 = .ok (.lload 8, 2) := by decide +kernel
theorem d_O_primitive_48 : decode b_O_primitive 48 = .ok (.lload 8, 2) := by decide +kernel
theorem d_O_primitive_50 : decode b_O_primitive 50 = .ok (.lmul, 1) := by decide +kernel
theorem d_O_primitive_51 : decode b_O_primitive 51 = .ok (.lload_n 1, 1) := by decide +kernel
theorem d_O_primitive_52 : decode b_O_primitive 52 = .ok (.lcmp, 1) := by decide +kernel
theorem d_O_primitive_53 : decode b_O_primitive 53 = .ok (.ifCond .gt (68), 3) := by decide +kernel
theorem d_O_primitive_56 : decode b_O_primitive 56 = .ok (.lload 5, 2) := by decide +kernel
theorem d_O_primitive_58 : decode b_O_primitive 58 = .ok (.lload 8, 2) := by decide +kernel
theorem d_O_primitive_60 : decode b_O_primitive 60 = .ok (.lrem, 1) := by decide +kernel
theorem d_O_primitive_61 : decode b_O_primitive 61 = .ok (.lconst 0, 1) := by decide +kernel
theorem d_O_primitive_62 : decode b_O_primitive 62 = .ok (.lcmp, 1) := by decide +kernel
theorem d_O_primitive_63 : decode b_O_primitive 63 = .ok (.ifCond .ne (29), 3) := by decide +kernel
theorem d_O_primitive_66 : decode b_O_primitive 66 = .ok (.iload 7, 2) := by decide +kernel
theorem d_O_primitive_68 : decode b_O_primitive 68 = .ok (.ifCond .eq (21), 3) := by decide +kernel
theorem d_O_primitive_71 : decode b_O_primitive 71 = .ok (.aload_n 0, 1) := by decide +kernel
theorem d_O_primitive_72 : decode b_O_primitive 72 = .ok (.lload_n 3, 1) := by decide +kernel
theorem d_O_primitive_73 : decode b_O_primitive 73 = .ok (.lload_n 1, 1) := by decide +kernel
theorem d_O_primitive_74 : decode b_O_primitive 74 = .ok (.lload 8, 2) := by decide +kernel
theorem d_O_primitive_76 : decode b_O_primitive 76 = .ok (.ldiv, 1) := by decide +kernel
theorem d_O_primitive_77 : decode b_O_primitive 77 = .ok (.invokevirtual 94, 3) := by decide +kernel
theorem d_O_primitive_80 : decode b_O_primitive 80 = .ok (.lconst 1, 1) := by decide +kernel
theorem d_O_primitive_81 : decode b_O_primitive 81 = .ok (.lcmp, 1) := by decide +kernel
theorem d_O_primitive_82 : decode b_O_primitive 82 = .ok (.ifCond .eq (7), 3) := by decide +kernel
theorem d_O_primitive_85 : decode b_O_primitive 85 = .ok (.iconst (1), 1) := by decide +kernel
theorem d_O_primitive_86 : decode b_O_primitive 86 = .ok (.goto (4), 3) := by decide +kernel
theorem d_O_primitive_89 : decode b_O_primitive 89 = .ok (.iconst (0), 1) := by decide +kernel
theorem d_O_primitive_90 : decode b_O_primitive 90 = .ok (.istore 7, 2) := by decide +kernel
theorem d_O_primitive_92 : decode b_O_primitive 92 = .ok (.lload 5, 2) := by decide +kernel
theorem d_O_primitive_94 : decode b_O_primitive 94 = .ok (.lload 8, 2) := by decide +kernel
theorem d_O_primitive_96 : decode b_O_primitive 96 = .ok (.lrem, 1) := by decide +kernel
theorem d_O_primitive_97 : decode b_O_primitive 97 = .ok (.lconst 0, 1) := by decide +kernel
theorem d_O_primitive_98 : decode b_O_primitive 98 = .ok (.lcmp, 1) := by decide +kernel
theorem d_O_primitive_99 : decode b_O_primitive 99 = .ok (.ifCond .ne (13), 3) := by decide +kernel
theorem d_O_primitive_102 : decode b_O_primitive 102 = .ok (.lload 5, 2) := by decide +kernel
theorem d_O_primitive_104 : decode b_O_primitive 104 = .ok (.lload 8, 2) := by decide +kernel
theorem d_O_primitive_106 : decode b_O_primitive 106 = .ok (.ldiv, 1) := by decide +kernel
theorem d_O_primitive_107 : decode b_O_primitive 107 = .ok (.lstore 5, 2) := by decide +kernel
theorem d_O_primitive_109 : decode b_O_primitive 109 = .ok (.goto (-17), 3) := by decide +kernel
theorem d_O_primitive_112 : decode b_O_primitive 112 = .ok (.lload 8, 2) := by decide +kernel
theorem d_O_primitive_114 : decode b_O_primitive 114 = .ok (.lconst 1, 1) := by decide +kernel
theorem d_O_primitive_115 : decode b_O_primitive 115 = .ok (.ladd, 1) := by decide +kernel
theorem d_O_primitive_116 : decode b_O_primitive 116 = .ok (.lstore 8, 2) := by decide +kernel
theorem d_O_primitive_118 : decode b_O_primitive 118 = .ok (.goto (-72), 3) := by decide +kernel
theorem d_O_primitive_121 : decode b_O_primitive 121 = .ok (.iload 7, 2) := by decide +kernel
theorem d_O_primitive_123 : decode b_O_primitive 123 = .ok (.ifCond .eq (41), 3) := by decide +kernel
theorem d_O_primitive_126 : decode b_O_primitive 126 = .ok (.lload 5, 2) := by decide +kernel
theorem d_O_primitive_128 : decode b_O_primitive 128 = .ok (.lconst 1, 1) := by decide +kernel
theorem d_O_primitive_129 : decode b_O_primitive 129 = .ok (.lcmp, 1) := by decide +kernel
theorem d_O_primitive_130 : decode b_O_primitive 130 = .ok (.ifCond .eq (30), 3) := by decide +kernel
theorem d_O_primitive_133 : decode b_O_primitive 133 = .ok (.lload 5, 2) := by decide +kernel
theorem d_O_primitive_135 : decode b_O_primitive 135 = .ok (.lload_n 1, 1) := by decide +kernel
theorem d_O_primitive_136 : decode b_O_primitive 136 = .ok (.lcmp, 1) := by decide +kernel
theorem d_O_primitive_137 : decode b_O_primitive 137 = .ok (.ifCond .ne (9), 3) := by decide +kernel
theorem d_O_primitive_140 : decode b_O_primitive 140 = .ok (.lload_n 1, 1) := by decide +kernel
theorem d_O_primitive_141 : decode b_O_primitive 141 = .ok (.lconst 1, 1) := by decide +kernel
theorem d_O_primitive_142 : decode b_O_primitive 142 = .ok (.lcmp, 1) := by decide +kernel
theorem d_O_primitive_143 : decode b_O_primitive 143 = .ok (.ifCond .eq (17), 3) := by decide +kernel
theorem d_O_primitive_146 : decode b_O_primitive 146 = .ok (.aload_n 0, 1) := by decide +kernel
theorem d_O_primitive_147 : decode b_O_primitive 147 = .ok (.lload_n 3, 1) := by decide +kernel
theorem d_O_primitive_148 : decode b_O_primitive 148 = .ok (.lload_n 1, 1) := by decide +kernel
theorem d_O_primitive_149 : decode b_O_primitive 149 = .ok (.lload 5, 2) := by decide +kernel
theorem d_O_primitive_151 : decode b_O_primitive 151 = .ok (.ldiv, 1) := by decide +kernel
theorem d_O_primitive_152 : decode b_O_primitive 152 = .ok (.invokevirtual 94, 3) := by decide +kernel
theorem d_O_primitive_155 : decode b_O_primitive 155 = .ok (.lconst 1, 1) := by decide +kernel
theorem d_O_primitive_156 : decode b_O_primitive 156 = .ok (.lcmp, 1) := by decide +kernel
theorem d_O_primitive_157 : decode b_O_primitive 157 = .ok (.ifCond .eq (7), 3) := by decide +kernel
theorem d_O_primitive_160 : decode b_O_primitive 160 = .ok (.iconst (1), 1) := by decide +kernel
theorem d_O_primitive_161 : decode b_O_primitive 161 = .ok (.goto (4), 3) := by decide +kernel
theorem d_O_primitive_164 : decode b_O_primitive 164 = .ok (.iconst (0), 1) := by decide +kernel
theorem d_O_primitive_165 : decode b_O_primitive 165 = .ok (.ireturn, 1) := by decide +kernel
theorem d_O_order_0 : decode b_O_order 0 = .ok (.aload_n 0, 1) := by decide +kernel
theorem d_O_order_1 : decode b_O_order 1 = .ok (.iconst (0), 1) := by decide +kernel
theorem d_O_order_2 : decode b_O_order 2 = .ok (.putfield 48, 3) := by decide +kernel
theorem d_O_order_5 : decode b_O_order 5 = .ok (.aload_n 0, 1) := by decide +kernel
theorem d_O_order_6 : decode b_O_order 6 = .ok (.getfield 15, 3) := by decide +kernel
theorem d_O_order_9 : decode b_O_order 9 = .ok (.bipush (18), 2) := by decide +kernel
theorem d_O_order_11 : decode b_O_order 11 = .ok (.if_icmp .le (7), 3) := by decide +kernel
theorem d_O_order_14 : decode b_O_order 14 = .ok (.ldc2_w 101, 3) := by decide +kernel
theorem d_O_order_17 : decode b_O_order 17 = .ok (.lreturn, 1) := by decide +kernel
theorem d_O_order_18 : decode b_O_order 18 = .ok (.aload_n 0, 1) := by decide +kernel
theorem d_O_order_19 : decode b_O_order 19 = .ok (.getfield 64, 3) := by decide +kernel
theorem d_O_order_22 : decode b_O_order 22 = .ok (.lconst 0, 1) := by decide +kernel
theorem d_O_order_23 : decode b_O_order 23 = .ok (.lcmp, 1) := by decide +kernel
theorem d_O_order_24 : decode b_O_order 24 = .ok (.ifCond .ne (41), 3) := by decide +kernel
theorem d_O_order_27 : decode b_O_order 27 = .ok (.aload_n 0, 1) := by decide +kernel
theorem d_O_order_28 : decode b_O_order 28 = .ok (.ldc2_w 73, 3) := by decide +kernel
theorem d_O_order_31 : decode b_O_order 31 = .ok (.invokevirtual 79, 3) := by decide +kernel
theorem d_O_order_34 : decode b_O_order 34 = .ok (.lstore_n 1, 1) := by decide +kernel
theorem d_O_order_35 : decode b_O_order 35 = .ok (.aload_n 0, 1) := by decide +kernel
theorem d_O_order_36 : decode b_O_order 36 = .ok (.lconst 1, 1) := by decide +kernel
theorem d_O_order_37 : decode b_O_order 37 = .ok (.putfield 64, 3) := by decide +kernel
theorem d_O_order_40 : decode b_O_order 40 = .ok (.lload_n 1, 1) := by decide +kernel
theorem d_O_order_41 : decode b_O_order 41 = .ok (.lconst 1, 1) := by decide +kernel
theorem d_O_order_42 : decode b_O_order 42 = .ok (.lcmp, 1) := by decide +kernel
theorem d_O_order_43 : decode b_O_order 43 = .ok (.ifCond .eq (22), 3) := by decide +kernel
theorem d_O_order_46 : decode b_O_order 46 = .ok (.aload_n 0, 1) := by decide +kernel
theorem d_O_order_47 : decode b_O_order 47 = .ok (.lload_n 1, 1) := by decide +kernel
theorem d_O_order_48 : decode b_O_order 48 = .ok (.invokevirtual 75, 3) := by decide +kernel
theorem d_O_order_51 : decode b_O_order 51 = .ok (.lstore_n 1, 1) := by decide +kernel
theorem d_O_order_52 : decode b_O_order 52 = .ok (.aload_n 0, 1) := by decide +kernel
theorem d_O_order_53 : decode b_O_order 53 = .ok (.dup, 1) := by decide +kernel
theorem d_O_order_54 : decode b_O_order 54 = .ok (.getfield 64, 3) := by decide +kernel
theorem d_O_order_57 : decode b_O_order 57 = .ok (.lconst 1, 1) := by decide +kernel
theorem d_O_order_58 : decode b_O_order 58 = .ok (.ladd, 1) := by decide +kernel
theorem d_O_order_59 : decode b_O_order 59 = .ok (.putfield 64, 3) := by decide +kernel
theorem d_O_order_62 : decode b_O_order 62 = .ok (.goto (-22), 3) := by decide +kernel
theorem d_O_order_65 : decode b_O_order 65 = .ok (.aload_n 0, 1) := by decide +kernel
theorem d_O_order_66 : decode b_O_order 66 = .ok (.getfield 64, 3) := by decide +kernel
theorem d_O_order_69 : decode b_O_order 69 = .ok (.lreturn, 1) := by decide +kernel
theorem d_O_load_0 : decode b_O_load 0 = .ok (.aload_n 0, 1) := by decide +kernel
theorem d_O_load_1 : decode b_O_load 1 = .ok (.aload_n 0, 1) := by decide +kernel
theorem d_O_load_2 : decode b_O_load 2 = .ok (.lload_n 1, 1) := by decide +kernel
theorem d_O_load_3 : decode b_O_load 3 = .ok (.invokevirtual 90, 3) := by decide +kernel
theorem d_O_load_6 : decode b_O_load 6 = .ok (.ifCond .eq (7), 3) := by decide +kernel
theorem d_O_load_9 : decode b_O_load 9 = .ok (.iconst (0), 1) := by decide +kernel
theorem d_O_load_10 : decode b_O_load 10 = .ok (.goto (4), 3) := by decide +kernel
theorem d_O_load_13 : decode b_O_load 13 = .ok (.iconst (1), 1) := by decide +kernel
theorem d_O_load_14 : decode b_O_load 14 = .ok (.invokevirtual 57, 3) := by decide +kernel
theorem d_O_load_17 : decode b_O_load 17 = .ok (.ifCond .eq (5), 3) := by decide +kernel
theorem d_O_load_20 : decode b_O_load 20 = .ok (.lconst 0, 1) := by decide +kernel
theorem d_O_load_21 : decode b_O_load 21 = .ok (.lreturn, 1) := by decide +kernel
theorem d_O_load_22 : decode b_O_load 22 = .ok (.aload_n 0, 1) := by decide +kernel
theorem d_O_load_23 : decode b_O_load 23 = .ok (.getfield 19, 3) := by decide +kernel
theorem d_O_load_26 : decode b_O_load 26 = .ok (.lstore_n 3, 1) := by decide +kernel
theorem d_O_load_27 : decode b_O_load 27 = .ok (.aload_n 0, 1) := by decide +kernel
theorem d_O_load_28 : decode b_O_load 28 = .ok (.lload_n 1, 1) := by decide +kernel
theorem d_O_load_29 : decode b_O_load 29 = .ok (.putfield 19, 3) := by decide +kernel
theorem d_O_load_32 : decode b_O_load 32 = .ok (.lload_n 3, 1) := by decide +kernel
theorem d_O_load_33 : decode b_O_load 33 = .ok (.lreturn, 1) := by decide +kernel
theorem d_O_steps_0 : decode b_O_steps 0 = .ok (.aload_n 0, 1) := by decide +kernel
theorem d_O_steps_1 : decode b_O_steps 1 = .ok (.lload_n 1, 1) := by decide +kernel
theorem d_O_steps_2 : decode b_O_steps 2 = .ok (.lconst 0, 1) := by decide +kernel
theorem d_O_steps_3 : decode b_O_steps 3 = .ok (.lcmp, 1) := by decide +kernel
theorem d_O_steps_4 : decode b_O_steps 4 = .ok (.ifCond .ge (7), 3) := by decide +kernel
theorem d_O_steps_7 : decode b_O_steps 7 = .ok (.iconst (1), 1) := by decide +kernel
theorem d_O_steps_8 : decode b_O_steps 8 = .ok (.goto (4), 3) := by decide +kernel
theorem d_O_steps_11 : decode b_O_steps 11 = .ok (.iconst (0), 1) := by decide +kernel
theorem d_O_steps_12 : decode b_O_steps 12 = .ok (.invokevirtual 57, 3) := by decide +kernel
theorem d_O_steps_15 : decode b_O_steps 15 = .ok (.ifCond .eq (5), 3) := by decide +kernel
theorem d_O_steps_18 : decode b_O_steps 18 = .ok (.lconst 0, 1) := by decide +kernel
theorem d_O_steps_19 : decode b_O_steps 19 = .ok (.lreturn, 1) := by decide +kernel
theorem d_O_steps_20 : decode b_O_steps 20 = .ok (.aload_n 0, 1) := by decide +kernel
theorem d_O_steps_21 : decode b_O_steps 21 = .ok (.aload_n 0, 1) := by decide +kernel
theorem d_O_steps_22 : decode b_O_steps 22 = .ok (.aload_n 0, 1) := by decide +kernel
theorem d_O_steps_23 : decode b_O_steps 23 = .ok (.getfield 19, 3) := by decide +kernel
theorem d_O_steps_26 : decode b_O_steps 26 = .ok (.aload_n 0, 1) := by decide +kernel
theorem d_O_steps_27 : decode b_O_steps 27 = .ok (.aload_n 0, 1) := by decide +kernel
theorem d_O_steps_28 : decode b_O_steps 28 = .ok (.ldc2_w 73, 3) := by decide +kernel
theorem d_O_steps_31 : decode b_O_steps 31 = .ok (.invokevirtual 79, 3) := by decide +kernel
theorem d_O_steps_34 : decode b_O_steps 34 = .ok (.lload_n 1, 1) := by decide +kernel
theorem d_O_steps_35 : decode b_O_steps 35 = .ok (.invokevirtual 94, 3) := by decide +kernel
theorem d_O_steps_38 : decode b_O_steps 38 = .ok (.invokevirtual 82, 3) := by decide +kernel
theorem d_O_steps_41 : decode b_O_steps 41 = .ok (.putfield 19, 3) := by decide +kernel
theorem d_O_steps_44 : decode b_O_steps 44 = .ok (.aload_n 0, 1) := by decide +kernel
theorem d_O_steps_45 : decode b_O_steps 45 = .ok (.getfield 19, 3) := by decide +kernel
theorem d_O_steps_48 : decode b_O_steps 48 = .ok (.lreturn, 1) := by decide +kernel
theorem d_O_channel_0 : decode b_O_channel 0 = .ok (.aload_n 0, 1) := by decide +kernel
theorem d_O_channel_1 : decode b_O_channel 1 = .ok (.aload_n 0, 1) := by decide +kernel
theorem d_O_channel_2 : decode b_O_channel 2 = .ok (.lload_n 1, 1) := by decide +kernel
theorem d_O_channel_3 : decode b_O_channel 3 = .ok (.invokevirtual 90, 3) := by decide +kernel
theorem d_O_channel_6 : decode b_O_channel 6 = .ok (.ifCond .ne (7), 3) := by decide +kernel
theorem d_O_channel_9 : decode b_O_channel 9 = .ok (.iconst (1), 1) := by decide +kernel
theorem d_O_channel_10 : decode b_O_channel 10 = .ok (.goto (17), 3) := by decide +kernel
theorem d_O_channel_13 : decode b_O_channel 13 = .ok (.aload_n 0, 1) := by decide +kernel
theorem d_O_channel_14 : decode b_O_channel 14 = .ok (.getfield 67, 3) := by decide +kernel
theorem d_O_channel_17 : decode b_O_channel 17 = .ok (.bipush (8), 2) := by decide +kernel
theorem d_O_channel_19 : decode b_O_channel 19 = .ok (.if_icmp .ne (7), 3) := by decide +kernel
theorem d_O_channel_22 : decode b_O_channel 22 = .ok (.iconst (2), 1) := by decide +kernel
theorem d_O_channel_23 : decode b_O_channel 23 = .ok (.goto (4), 3) := by decide +kernel
theorem d_O_channel_26 : decode b_O_channel 26 = .ok (.iconst (0), 1) := by decide +kernel
theorem d_O_channel_27 : decode b_O_channel 27 = .ok (.invokevirtual 57, 3) := by decide +kernel
theorem d_O_channel_30 : decode b_O_channel 30 = .ok (.ifCond .eq (5), 3) := by decide +kernel
theorem d_O_channel_33 : decode b_O_channel 33 = .ok (.iconst (0), 1) := by decide +kernel
theorem d_O_channel_34 : decode b_O_channel 34 = .ok (.ireturn, 1) := by decide +kernel
theorem d_O_channel_35 : decode b_O_channel 35 = .ok (.aload_n 0, 1) := by decide +kernel
theorem d_O_channel_36 : decode b_O_channel 36 = .ok (.getfield 22, 3) := by decide +kernel
theorem d_O_channel_39 : decode b_O_channel 39 = .ok (.aload_n 0, 1) := by decide +kernel
theorem d_O_channel_40 : decode b_O_channel 40 = .ok (.getfield 67, 3) := by decide +kernel
theorem d_O_channel_43 : decode b_O_channel 43 = .ok (.lload_n 1, 1) := by decide +kernel
theorem d_O_channel_44 : decode b_O_channel 44 = .ok (.lastore, 1) := by decide +kernel
theorem d_O_channel_45 : decode b_O_channel 45 = .ok (.aload_n 0, 1) := by decide +kernel
theorem d_O_channel_46 : decode b_O_channel 46 = .ok (.dup, 1) := by decide +kernel
theorem d_O_channel_47 : decode b_O_channel 47 = .ok (.getfield 67, 3) := by decide +kernel
theorem d_O_channel_50 : decode b_O_channel 50 = .ok (.iconst (1), 1) := by decide +kernel
theorem d_O_channel_51 : decode b_O_channel 51 = .ok (.iadd, 1) := by decide +kernel
theorem d_O_channel_52 : decode b_O_channel 52 = .ok (.putfield 67, 3) := by decide +kernel
theorem d_O_channel_55 : decode b_O_channel 55 = .ok (.aload_n 0, 1) := by decide +kernel
theorem d_O_channel_56 : decode b_O_channel 56 = .ok (.invokevirtual 70, 3) := by decide +kernel
theorem d_O_channel_59 : decode b_O_channel 59 = .ok (.aload_n 0, 1) := by decide +kernel
theorem d_O_channel_60 : decode b_O_channel 60 = .ok (.getfield 67, 3) := by decide +kernel
theorem d_O_channel_63 : decode b_O_channel 63 = .ok (.iconst (1), 1) := by decide +kernel
theorem d_O_channel_64 : decode b_O_channel 64 = .ok (.isub, 1) := by decide +kernel
theorem d_O_channel_65 : decode b_O_channel 65 = .ok (.ireturn, 1) := by decide +kernel
theorem d_O_patternOf_0 : decode b_O_patternOf 0 = .ok (.iconst (0), 1) := by decide +kernel
theorem d_O_patternOf_1 : decode b_O_patternOf 1 = .ok (.istore_n 3, 1) := by decide +kernel
theorem d_O_patternOf_2 : decode b_O_patternOf 2 = .ok (.iconst (0), 1) := by decide +kernel
theorem d_O_patternOf_3 : decode b_O_patternOf 3 = .ok (.istore 4, 2) := by decide +kernel
theorem d_O_patternOf_5 : decode b_O_patternOf 5 = .ok (.iload 4, 2) := by decide +kernel
theorem d_O_patternOf_7 : decode b_O_patternOf 7 = .ok (.aload_n 0, 1) := by decide +kernel
theorem d_O_patternOf_8 : decode b_O_patternOf 8 = .ok (.getfield 67, 3) := by decide +kernel
theorem d_O_patternOf_11 : decode b_O_patternOf 11 = .ok (.if_icmp .ge (62), 3) := by decide +kernel
theorem d_O_patternOf_14 : decode b_O_patternOf 14 = .ok (.lload_n 1, 1) := by decide +kernel
theorem d_O_patternOf_15 : decode b_O_patternOf 15 = .ok (.aload_n 0, 1) := by decide +kernel
theorem d_O_patternOf_16 : decode b_O_patternOf 16 = .ok (.getfield 22, 3) := by decide +kernel
theorem d_O_patternOf_19 : decode b_O_patternOf 19 = .ok (.iload 4, 2) := by decide +kernel
theorem d_O_patternOf_21 : decode b_O_patternOf 21 = .ok (.laload, 1) := by decide +kernel
theorem d_O_patternOf_22 : decode b_O_patternOf 22 = .ok (.land, 1) := by decide +kernel
theorem d_O_patternOf_23 : decode b_O_patternOf 23 = .ok (.lstore 5, 2) := by decide +kernel
theorem d_O_patternOf_25 : decode b_O_patternOf 25 = .ok (.iconst (0), 1) := by decide +kernel
theorem d_O_patternOf_26 : decode b_O_patternOf 26 = .ok (.istore 7, 2) := by decide +kernel
theorem d_O_patternOf_28 : decode b_O_patternOf 28 = .ok (.iconst (0), 1) := by decide +kernel
theorem d_O_patternOf_29 : decode b_O_patternOf 29 = .ok (.istore 8, 2) := by decide +kernel
theorem d_O_patternOf_31 : decode b_O_patternOf 31 = .ok (.iload 8, 2) := by decide +kernel
theorem d_O_patternOf_33 : decode b_O_patternOf 33 = .ok (.bipush (32), 2) := by decide +kernel
theorem d_O_patternOf_35 : decode b_O_patternOf 35 = .ok (.if_icmp .ge (22), 3) := by decide +kernel
theorem d_O_patternOf_38 : decode b_O_patternOf 38 = .ok (.iload 7, 2) := by decide +kernel
theorem d_O_patternOf_40 : decode b_O_patternOf 40 = .ok (.lload 5, 2) := by decide +kernel
theorem d_O_patternOf_42 : decode b_O_patternOf 42 = .ok (.iload 8, 2) := by decide +kernel
theorem d_O_patternOf_44 : decode b_O_patternOf 44 = .ok (.lshr, 1) := by decide +kernel
theorem d_O_patternOf_45 : decode b_O_patternOf 45 = .ok (.lconst 1, 1) := by decide +kernel
theorem d_O_patternOf_46 : decode b_O_patternOf 46 = .ok (.land, 1) := by decide +kernel
theorem d_O_patternOf_47 : decode b_O_patternOf 47 = .ok (.l2i, 1) := by decide +kernel
theorem d_O_patternOf_48 : decode b_O_patternOf 48 = .ok (.ixor, 1) := by decide +kernel
theorem d_O_patternOf_49 : decode b_O_patternOf 49 = .ok (.istore 7, 2) := by decide +kernel
theorem d_O_patternOf_51 : decode b_O_patternOf 51 = .ok (.iinc 8 (1), 3) := by decide +kernel
theorem d_O_patternOf_54 : decode b_O_patternOf 54 = .ok (.goto (-23), 3) := by decide +kernel
theorem d_O_patternOf_57 : decode b_O_patternOf 57 = .ok (.iload_n 3, 1) := by decide +kernel
theorem d_O_patternOf_58 : decode b_O_patternOf 58 = .ok (.iload 7, 2) := by decide +kernel
theorem d_O_patternOf_60 : decode b_O_patternOf 60 = .ok (.iconst (1), 1) := by decide +kernel
theorem d_O_patternOf_61 : decode b_O_patternOf 61 = .ok (.iload 4, 2) := by decide +kernel
theorem d_O_patternOf_63 : decode b_O_patternOf 63 = .ok (.ishl, 1) := by decide +kernel
theorem d_O_patternOf_64 : decode b_O_patternOf 64 = .ok (.imul, 1) := by decide +kernel
theorem d_O_patternOf_65 : decode b_O_patternOf 65 = .ok (.iadd, 1) := by decide +kernel
theorem d_O_patternOf_66 : decode b_O_patternOf 66 = .ok (.istore_n 3, 1) := by decide +kernel
theorem d_O_patternOf_67 : decode b_O_patternOf 67 = .ok (.iinc 4 (1), 3) := by decide +kernel
theorem d_O_patternOf_70 : decode b_O_patternOf 70 = .ok (.goto (-65), 3) := by decide +kernel
theorem d_O_patternOf_73 : decode b_O_patternOf 73 = .ok (.iload_n 3, 1) := by decide +kernel
theorem d_O_patternOf_74 : decode b_O_patternOf 74 = .ok (.ireturn, 1) := by decide +kernel
theorem d_O_pattern_0 : decode b_O_pattern 0 = .ok (.aload_n 0, 1) := by decide +kernel
theorem d_O_pattern_1 : decode b_O_pattern 1 = .ok (.iconst (0), 1) := by decide +kernel
theorem d_O_pattern_2 : decode b_O_pattern 2 = .ok (.putfield 48, 3) := by decide +kernel
theorem d_O_pattern_5 : decode b_O_pattern 5 = .ok (.aload_n 0, 1) := by decide +kernel
theorem d_O_pattern_6 : decode b_O_pattern 6 = .ok (.aload_n 0, 1) := by decide +kernel
theorem d_O_pattern_7 : decode b_O_pattern 7 = .ok (.getfield 19, 3) := by decide +kernel
theorem d_O_pattern_10 : decode b_O_pattern 10 = .ok (.invokevirtual 103, 3) := by decide +kernel
theorem d_O_pattern_13 : decode b_O_pattern 13 = .ok (.ireturn, 1) := by decide +kernel
theorem d_O_isLine_0 : decode b_O_isLine 0 = .ok (.iload_n 1, 1) := by decide +kernel
theorem d_O_isLine_1 : decode b_O_isLine 1 = .ok (.ifCond .lt (20), 3) := by decide +kernel
theorem d_O_isLine_4 : decode b_O_isLine 4 = .ok (.iload_n 1, 1) := by decide +kernel
theorem d_O_isLine_5 : decode b_O_isLine 5 = .ok (.aload_n 0, 1) := by decide +kernel
theorem d_O_isLine_6 : decode b_O_isLine 6 = .ok (.getfield 67, 3) := by decide +kernel
theorem d_O_isLine_9 : decode b_O_isLine 9 = .ok (.aload_n 0, 1) := by decide +kernel
theorem d_O_isLine_10 : decode b_O_isLine 10 = .ok (.getfield 51, 3) := by decide +kernel
theorem d_O_isLine_13 : decode b_O_isLine 13 = .ok (.iadd, 1) := by decide +kernel
theorem d_O_isLine_14 : decode b_O_isLine 14 = .ok (.if_icmp .ge (7), 3) := by decide +kernel
theorem d_O_isLine_17 : decode b_O_isLine 17 = .ok (.iconst (1), 1) := by decide +kernel
theorem d_O_isLine_18 : decode b_O_isLine 18 = .ok (.goto (4), 3) := by decide +kernel
theorem d_O_isLine_21 : decode b_O_isLine 21 = .ok (.iconst (0), 1) := by decide +kernel
theorem d_O_isLine_22 : decode b_O_isLine 22 = .ok (.ireturn, 1) := by decide +kernel
theorem d_O_gate_0 : decode b_O_gate 0 = .ok (.aload_n 0, 1) := by decide +kernel
theorem d_O_gate_1 : decode b_O_gate 1 = .ok (.iload_n 2, 1) := by decide +kernel
theorem d_O_gate_2 : decode b_O_gate 2 = .ok (.invokevirtual 107, 3) := by decide +kernel
theorem d_O_gate_5 : decode b_O_gate 5 = .ok (.ifCond .eq (20), 3) := by decide +kernel
theorem d_O_gate_8 : decode b_O_gate 8 = .ok (.iload_n 1, 1) := by decide +kernel
theorem d_O_gate_9 : decode b_O_gate 9 = .ok (.iconst (5), 1) := by decide +kernel
theorem d_O_gate_10 : decode b_O_gate 10 = .ok (.if_icmp .eq (11), 3) := by decide +kernel
theorem d_O_gate_13 : decode b_O_gate 13 = .ok (.aload_n 0, 1) := by decide +kernel
theorem d_O_gate_14 : decode b_O_gate 14 = .ok (.iload_n 3, 1) := by decide +kernel
theorem d_O_gate_15 : decode b_O_gate 15 = .ok (.invokevirtual 107, 3) := by decide +kernel
theorem d_O_gate_18 : decode b_O_gate 18 = .ok (.ifCond .eq (7), 3) := by decide +kernel
theorem d_O_gate_21 : decode b_O_gate 21 = .ok (.iconst (1), 1) := by decide +kernel
theorem d_O_gate_22 : decode b_O_gate 22 = .ok (.goto (4), 3) := by decide +kernel
theorem d_O_gate_25 : decode b_O_gate 25 = .ok (.iconst (0), 1) := by decide +kernel
theorem d_O_gate_26 : decode b_O_gate 26 = .ok (.istore 4, 2) := by decide +kernel
theorem d_O_gate_28 : decode b_O_gate 28 = .ok (.aload_n 0, 1) := by decide +kernel
theorem d_O_gate_29 : decode b_O_gate 29 = .ok (.iload_n 1, 1) := by decide +kernel
theorem d_O_gate_30 : decode b_O_gate 30 = .ok (.ifCond .lt (8), 3) := by decide +kernel
theorem d_O_gate_33 : decode b_O_gate 33 = .ok (.iload_n 1, 1) := by decide +kernel
theorem d_O_gate_34 : decode b_O_gate 34 = .ok (.iconst (5), 1) := by decide +kernel
theorem d_O_gate_35 : decode b_O_gate 35 = .ok (.if_icmp .le (7), 3) := by decide +kernel
theorem d_O_gate_38 : decode b_O_gate 38 = .ok (.iconst (1), 1) := by decide +kernel
theorem d_O_gate_39 : decode b_O_gate 39 = .ok (.goto (26), 3) := by decide +kernel
theorem d_O_gate_42 : decode b_O_gate 42 = .ok (.iload 4, 2) := by decide +kernel
theorem d_O_gate_44 : decode b_O_gate 44 = .ok (.ifCond .ne (7), 3) := by decide +kernel
theorem d_O_gate_47 : decode b_O_gate 47 = .ok (.iconst (2), 1) := by decide +kernel
theorem d_O_gate_48 : decode b_O_gate 48 = .ok (.goto (17), 3) := by decide +kernel
theorem d_O_gate_51 : decode b_O_gate 51 = .ok (.aload_n 0, 1) := by decide +kernel
theorem d_O_gate_52 : decode b_O_gate 52 = .ok (.getfield 51, 3) := by decide +kernel
theorem d_O_gate_55 : decode b_O_gate 55 = .ok (.bipush (24), 2) := by decide +kernel
theorem d_O_gate_57 : decode b_O_gate 57 = .ok (.if_icmp .ne (7), 3) := by decide +kernel
theorem d_O_gate_60 : decode b_O_gate 60 = .ok (.iconst (3), 1) := by decide +kernel
theorem d_O_gate_61 : decode b_O_gate 61 = .ok (.goto (4), 3) := by decide +kernel
theorem d_O_gate_64 : decode b_O_gate 64 = .ok (.iconst (0), 1) := by decide +kernel
theorem d_O_gate_65 : decode b_O_gate 65 = .ok (.invokevirtual 57, 3) := by decide +kernel
theorem d_O_gate_68 : decode b_O_gate 68 = .ok (.ifCond .eq (5), 3) := by decide +kernel
theorem d_O_gate_71 : decode b_O_gate 71 = .ok (.iconst (0), 1) := by decide +kernel
theorem d_O_gate_72 : decode b_O_gate 72 = .ok (.ireturn, 1) := by decide +kernel
theorem d_O_gate_73 : decode b_O_gate 73 = .ok (.aload_n 0, 1) := by decide +kernel
theorem d_O_gate_74 : decode b_O_gate 74 = .ok (.getfield 26, 3) := by decide +kernel
theorem d_O_gate_77 : decode b_O_gate 77 = .ok (.aload_n 0, 1) := by decide +kernel
theorem d_O_gate_78 : decode b_O_gate 78 = .ok (.getfield 51, 3) := by decide +kernel
theorem d_O_gate_81 : decode b_O_gate 81 = .ok (.iload_n 1, 1) := by decide +kernel
theorem d_O_gate_82 : decode b_O_gate 82 = .ok (.iastore, 1) := by decide +kernel
theorem d_O_gate_83 : decode b_O_gate 83 = .ok (.aload_n 0, 1) := by decide +kernel
theorem d_O_gate_84 : decode b_O_gate 84 = .ok (.getfield 30, 3) := by decide +kernel
theorem d_O_gate_87 : decode b_O_gate 87 = .ok (.aload_n 0, 1) := by decide +kernel
theorem d_O_gate_88 : decode b_O_gate 88 = .ok (.getfield 51, 3) := by decide +kernel
theorem d_O_gate_91 : decode b_O_gate 91 = .ok (.iload_n 2, 1) := by decide +kernel
theorem d_O_gate_92 : decode b_O_gate 92 = .ok (.iastore, 1) := by decide +kernel
theorem d_O_gate_93 : decode b_O_gate 93 = .ok (.aload_n 0, 1) := by decide +kernel
theorem d_O_gate_94 : decode b_O_gate 94 = .ok (.getfield 33, 3) := by decide +kernel
theorem d_O_gate_97 : decode b_O_gate 97 = .ok (.aload_n 0, 1) := by decide +kernel
theorem d_O_gate_98 : decode b_O_gate 98 = .ok (.getfield 51, 3) := by decide +kernel
theorem d_O_gate_101 : decode b_O_gate 101 = .ok (.iload_n 1, 1) := by decide +kernel
theorem d_O_gate_102 : decode b_O_gate 102 = .ok (.iconst (5), 1) := by decide +kernel
theorem d_O_gate_103 : decode b_O_gate 103 = .ok (.if_icmp .ne (7), 3) := by decide +kernel
theorem d_O_gate_106 : decode b_O_gate 106 = .ok (.iload_n 2, 1) := by decide +kernel
theorem d_O_gate_107 : decode b_O_gate 107 = .ok (.goto (4), 3) := by decide +kernel
theorem d_O_gate_110 : decode b_O_gate 110 = .ok (.iload_n 3, 1) := by decide +kernel
theorem d_O_gate_111 : decode b_O_gate 111 = .ok (.iastore, 1) := by decide +kernel
theorem d_O_gate_112 : decode b_O_gate 112 = .ok (.aload_n 0, 1) := by decide +kernel
theorem d_O_gate_113 : decode b_O_gate 113 = .ok (.dup, 1) := by decide +kernel
theorem d_O_gate_114 : decode b_O_gate 114 = .ok (.getfield 51, 3) := by decide +kernel
theorem d_O_gate_117 : decode b_O_gate 117 = .ok (.iconst (1), 1) := by decide +kernel
theorem d_O_gate_118 : decode b_O_gate 118 = .ok (.iadd, 1) := by decide +kernel
theorem d_O_gate_119 : decode b_O_gate 119 = .ok (.putfield 51, 3) := by decide +kernel
theorem d_O_gate_122 : decode b_O_gate 122 = .ok (.aload_n 0, 1) := by decide +kernel
theorem d_O_gate_123 : decode b_O_gate 123 = .ok (.getfield 67, 3) := by decide +kernel
theorem d_O_gate_126 : decode b_O_gate 126 = .ok (.aload_n 0, 1) := by decide +kernel
theorem d_O_gate_127 : decode b_O_gate 127 = .ok (.getfield 51, 3) := by decide +kernel
theorem d_O_gate_130 : decode b_O_gate 130 = .ok (.iadd, 1) := by decide +kernel
theorem d_O_gate_131 : decode b_O_gate 131 = .ok (.iconst (1), 1) := by decide +kernel
theorem d_O_gate_132 : decode b_O_gate 132 = .ok (.isub, 1) := by decide +kernel
theorem d_O_gate_133 : decode b_O_gate 133 = .ok (.ireturn, 1) := by decide +kernel
theorem d_O_output_0 : decode b_O_output 0 = .ok (.aload_n 0, 1) := by decide +kernel
theorem d_O_output_1 : decode b_O_output 1 = .ok (.aload_n 0, 1) := by decide +kernel
theorem d_O_output_2 : decode b_O_output 2 = .ok (.iload_n 1, 1) := by decide +kernel
theorem d_O_output_3 : decode b_O_output 3 = .ok (.invokevirtual 107, 3) := by decide +kernel
theorem d_O_output_6 : decode b_O_output 6 = .ok (.ifCond .ne (7), 3) := by decide +kernel
theorem d_O_output_9 : decode b_O_output 9 = .ok (.iconst (1), 1) := by decide +kernel
theorem d_O_output_10 : decode b_O_output 10 = .ok (.goto (17), 3) := by decide +kernel
theorem d_O_output_13 : decode b_O_output 13 = .ok (.aload_n 0, 1) := by decide +kernel
theorem d_O_output_14 : decode b_O_output 14 = .ok (.getfield 54, 3) := by decide +kernel
theorem d_O_output_17 : decode b_O_output 17 = .ok (.bipush (16), 2) := by decide +kernel
theorem d_O_output_19 : decode b_O_output 19 = .ok (.if_icmp .ne (7), 3) := by decide +kernel
theorem d_O_output_22 : decode b_O_output 22 = .ok (.iconst (2), 1) := by decide +kernel
theorem d_O_output_23 : decode b_O_output 23 = .ok (.goto (4), 3) := by decide +kernel
theorem d_O_output_26 : decode b_O_output 26 = .ok (.iconst (0), 1) := by decide +kernel
theorem d_O_output_27 : decode b_O_output 27 = .ok (.invokevirtual 57, 3) := by decide +kernel
theorem d_O_output_30 : decode b_O_output 30 = .ok (.ifCond .eq (5), 3) := by decide +kernel
theorem d_O_output_33 : decode b_O_output 33 = .ok (.iconst (0), 1) := by decide +kernel
theorem d_O_output_34 : decode b_O_output 34 = .ok (.ireturn, 1) := by decide +kernel
theorem d_O_output_35 : decode b_O_output 35 = .ok (.aload_n 0, 1) := by decide +kernel
theorem d_O_output_36 : decode b_O_output 36 = .ok (.getfield 36, 3) := by decide +kernel
theorem d_O_output_39 : decode b_O_output 39 = .ok (.aload_n 0, 1) := by decide +kernel
theorem d_O_output_40 : decode b_O_output 40 = .ok (.getfield 54, 3) := by decide +kernel
theorem d_O_output_43 : decode b_O_output 43 = .ok (.iload_n 1, 1) := by decide +kernel
theorem d_O_output_44 : decode b_O_output 44 = .ok (.iastore, 1) := by decide +kernel
theorem d_O_output_45 : decode b_O_output 45 = .ok (.aload_n 0, 1) := by decide +kernel
theorem d_O_output_46 : decode b_O_output 46 = .ok (.dup, 1) := by decide +kernel
theorem d_O_output_47 : decode b_O_output 47 = .ok (.getfield 54, 3) := by decide +kernel
theorem d_O_output_50 : decode b_O_output 50 = .ok (.iconst (1), 1) := by decide +kernel
theorem d_O_output_51 : decode b_O_output 51 = .ok (.iadd, 1) := by decide +kernel
theorem d_O_output_52 : decode b_O_output 52 = .ok (.putfield 54, 3) := by decide +kernel
theorem d_O_output_55 : decode b_O_output 55 = .ok (.aload_n 0, 1) := by decide +kernel
theorem d_O_output_56 : decode b_O_output 56 = .ok (.getfield 54, 3) := by decide +kernel
theorem d_O_output_59 : decode b_O_output 59 = .ok (.iconst (1), 1) := by decide +kernel
theorem d_O_output_60 : decode b_O_output 60 = .ok (.isub, 1) := by decide +kernel
theorem d_O_output_61 : decode b_O_output 61 = .ok (.ireturn, 1) := by decide +kernel
theorem d_O_worth_0 : decode b_O_worth 0 = .ok (.iload_n 0, 1) := by decide +kernel
theorem d_O_worth_1 : decode b_O_worth 1 = .ok (.tableswitch (59) (0) (4) #[(35), (39), (43), (47), (53)], 35) := by decide +kernel
theorem d_O_worth_36 : decode b_O_worth 36 = .ok (.iload_n 1, 1) := by decide +kernel
theorem d_O_worth_37 : decode b_O_worth 37 = .ok (.iload_n 2, 1) := by decide +kernel
theorem d_O_worth_38 : decode b_O_worth 38 = .ok (.iand, 1) := by decide +kernel
theorem d_O_worth_39 : decode b_O_worth 39 = .ok (.ireturn, 1) := by decide +kernel
theorem d_O_worth_40 : decode b_O_worth 40 = .ok (.iload_n 1, 1) := by decide +kernel
theorem d_O_worth_41 : decode b_O_worth 41 = .ok (.iload_n 2, 1) := by decide +kernel
theorem d_O_worth_42 : decode b_O_worth 42 = .ok (.ior, 1) := by decide +kernel
theorem d_O_worth_43 : decode b_O_worth 43 = .ok (.ireturn, 1) := by decide +kernel
theorem d_O_worth_44 : decode b_O_worth 44 = .ok (.iload_n 1, 1) := by decide +kernel
theorem d_O_worth_45 : decode b_O_worth 45 = .ok (.iload_n 2, 1) := by decide +kernel
theorem d_O_worth_46 : decode b_O_worth 46 = .ok (.ixor, 1) := by decide +kernel
theorem d_O_worth_47 : decode b_O_worth 47 = .ok (.ireturn, 1) := by decide +kernel
theorem d_O_worth_48 : decode b_O_worth 48 = .ok (.iconst (1), 1) := by decide +kernel
theorem d_O_worth_49 : decode b_O_worth 49 = .ok (.iload_n 1, 1) := by decide +kernel
theorem d_O_worth_50 : decode b_O_worth 50 = .ok (.iload_n 2, 1) := by decide +kernel
theorem d_O_worth_51 : decode b_O_worth 51 = .ok (.iand, 1) := by decide +kernel
theorem d_O_worth_52 : decode b_O_worth 52 = .ok (.isub, 1) := by decide +kernel
theorem d_O_worth_53 : decode b_O_worth 53 = .ok (.ireturn, 1) := by decide +kernel
theorem d_O_worth_54 : decode b_O_worth 54 = .ok (.iconst (1), 1) := by decide +kernel
theorem d_O_worth_55 : decode b_O_worth 55 = .ok (.iload_n 1, 1) := by decide +kernel
theorem d_O_worth_56 : decode b_O_worth 56 = .ok (.iload_n 2, 1) := by decide +kernel
theorem d_O_worth_57 : decode b_O_worth 57 = .ok (.ior, 1) := by decide +kernel
theorem d_O_worth_58 : decode b_O_worth 58 = .ok (.isub, 1) := by decide +kernel
theorem d_O_worth_59 : decode b_O_worth 59 = .ok (.ireturn, 1) := by decide +kernel
theorem d_O_worth_60 : decode b_O_worth 60 = .ok (.iconst (1), 1) := by decide +kernel
theorem d_O_worth_61 : decode b_O_worth 61 = .ok (.iload_n 1, 1) := by decide +kernel
theorem d_O_worth_62 : decode b_O_worth 62 = .ok (.isub, 1) := by decide +kernel
theorem d_O_worth_63 : decode b_O_worth 63 = .ok (.ireturn, 1) := by decide +kernel
theorem d_O_answerTo_0 : decode b_O_answerTo 0 = .ok (.iconst (0), 1) := by decide +kernel
theorem d_O_answerTo_1 : decode b_O_answerTo 1 = .ok (.istore_n 3, 1) := by decide +kernel
theorem d_O_answerTo_2 : decode b_O_answerTo 2 = .ok (.iload_n 3, 1) := by decide +kernel
theorem d_O_answerTo_3 : decode b_O_answerTo 3 = .ok (.aload_n 0, 1) := by decide +kernel
theorem d_O_answerTo_4 : decode b_O_answerTo 4 = .ok (.getfield 67, 3) := by decide +kernel
theorem d_O_answerTo_7 : decode b_O_answerTo 7 = .ok (.aload_n 0, 1) := by decide +kernel
theorem d_O_answerTo_8 : decode b_O_answerTo 8 = .ok (.getfield 51, 3) := by decide +kernel
theorem d_O_answerTo_11 : decode b_O_answerTo 11 = .ok (.iadd, 1) := by decide +kernel
theorem d_O_answerTo_12 : decode b_O_answerTo 12 = .ok (.if_icmp .ge (99), 3) := by decide +kernel
theorem d_O_answerTo_15 : decode b_O_answerTo 15 = .ok (.iload_n 3, 1) := by decide +kernel
theorem d_O_answerTo_16 : decode b_O_answerTo 16 = .ok (.aload_n 0, 1) := by decide +kernel
theorem d_O_answerTo_17 : decode b_O_answerTo 17 = .ok (.getfield 67, 3) := by decide +kernel
theorem d_O_answerTo_20 : decode b_O_answerTo 20 = .ok (.isub, 1) := by decide +kernel
theorem d_O_answerTo_21 : decode b_O_answerTo 21 = .ok (.istore 4, 2) := by decide +kernel
theorem d_O_answerTo_23 : decode b_O_answerTo 23 = .ok (.aload_n 0, 1) := by decide +kernel
theorem d_O_answerTo_24 : decode b_O_answerTo 24 = .ok (.getfield 39, 3) := by decide +kernel
theorem d_O_answerTo_27 : decode b_O_answerTo 27 = .ok (.iload_n 3, 1) := by decide +kernel
theorem d_O_answerTo_28 : decode b_O_answerTo 28 = .ok (.iload 4, 2) := by decide +kernel
theorem d_O_answerTo_30 : decode b_O_answerTo 30 = .ok (.ifCond .ge (11), 3) := by decide +kernel
theorem d_O_answerTo_33 : decode b_O_answerTo 33 = .ok (.iload_n 1, 1) := by decide +kernel
theorem d_O_answerTo_34 : decode b_O_answerTo 34 = .ok (.iload_n 3, 1) := by decide +kernel
theorem d_O_answerTo_35 : decode b_O_answerTo 35 = .ok (.ishr, 1) := by decide +kernel
theorem d_O_answerTo_36 : decode b_O_answerTo 36 = .ok (.iconst (1), 1) := by decide +kernel
theorem d_O_answerTo_37 : decode b_O_answerTo 37 = .ok (.iand, 1) := by decide +kernel
theorem d_O_answerTo_38 : decode b_O_answerTo 38 = .ok (.goto (37), 3) := by decide +kernel
theorem d_O_answerTo_41 : decode b_O_answerTo 41 = .ok (.aload_n 0, 1) := by decide +kernel
theorem d_O_answerTo_42 : decode b_O_answerTo 42 = .ok (.getfield 26, 3) := by decide +kernel
theorem d_O_answerTo_45 : decode b_O_answerTo 45 = .ok (.iload 4, 2) := by decide +kernel
theorem d_O_answerTo_47 : decode b_O_answerTo 47 = .ok (.iaload, 1) := by decide +kernel
theorem d_O_answerTo_48 : decode b_O_answerTo 48 = .ok (.aload_n 0, 1) := by decide +kernel
theorem d_O_answerTo_49 : decode b_O_answerTo 49 = .ok (.getfield 39, 3) := by decide +kernel
theorem d_O_answerTo_52 : decode b_O_answerTo 52 = .ok (.aload_n 0, 1) := by decide +kernel
theorem d_O_answerTo_53 : decode b_O_answerTo 53 = .ok (.getfield 30, 3) := by decide +kernel
theorem d_O_answerTo_56 : decode b_O_answerTo 56 = .ok (.iload 4, 2) := by decide +kernel
theorem d_O_answerTo_58 : decode b_O_answerTo 58 = .ok (.iaload, 1) := by decide +kernel
theorem d_O_answerTo_59 : decode b_O_answerTo 59 = .ok (.iaload, 1) := by decide +kernel
theorem d_O_answerTo_60 : decode b_O_answerTo 60 = .ok (.aload_n 0, 1) := by decide +kernel
theorem d_O_answerTo_61 : decode b_O_answerTo 61 = .ok (.getfield 39, 3) := by decide +kernel
theorem d_O_answerTo_64 : decode b_O_answerTo 64 = .ok (.aload_n 0, 1) := by decide +kernel
theorem d_O_answerTo_65 : decode b_O_answerTo 65 = .ok (.getfield 33, 3) := by decide +kernel
theorem d_O_answerTo_68 : decode b_O_answerTo 68 = .ok (.iload 4, 2) := by decide +kernel
theorem d_O_answerTo_70 : decode b_O_answerTo 70 = .ok (.iaload, 1) := by decide +kernel
theorem d_O_answerTo_71 : decode b_O_answerTo 71 = .ok (.iaload, 1) := by decide +kernel
theorem d_O_answerTo_72 : decode b_O_answerTo 72 = .ok (.invokestatic 110, 3) := by decide +kernel
theorem d_O_answerTo_75 : decode b_O_answerTo 75 = .ok (.iastore, 1) := by decide +kernel
theorem d_O_answerTo_76 : decode b_O_answerTo 76 = .ok (.aload_n 0, 1) := by decide +kernel
theorem d_O_answerTo_77 : decode b_O_answerTo 77 = .ok (.getfield 39, 3) := by decide +kernel
theorem d_O_answerTo_80 : decode b_O_answerTo 80 = .ok (.iload_n 3, 1) := by decide +kernel
theorem d_O_answerTo_81 : decode b_O_answerTo 81 = .ok (.iload_n 2, 1) := by decide +kernel
theorem d_O_answerTo_82 : decode b_O_answerTo 82 = .ok (.ifCond .lt (16), 3) := by decide +kernel
theorem d_O_answerTo_85 : decode b_O_answerTo 85 = .ok (.iload_n 2, 1) := by decide +kernel
theorem d_O_answerTo_86 : decode b_O_answerTo 86 = .ok (.iconst (2), 1) := by decide +kernel
theorem d_O_answerTo_87 : decode b_O_answerTo 87 = .ok (.idiv, 1) := by decide +kernel
theorem d_O_answerTo_88 : decode b_O_answerTo 88 = .ok (.iload_n 3, 1) := by decide +kernel
theorem d_O_answerTo_89 : decode b_O_answerTo 89 = .ok (.if_icmp .ne (9), 3) := by decide +kernel
theorem d_O_answerTo_92 : decode b_O_answerTo 92 = .ok (.iload_n 2, 1) := by decide +kernel
theorem d_O_answerTo_93 : decode b_O_answerTo 93 = .ok (.iconst (2), 1) := by decide +kernel
theorem d_O_answerTo_94 : decode b_O_answerTo 94 = .ok (.irem, 1) := by decide +kernel
theorem d_O_answerTo_95 : decode b_O_answerTo 95 = .ok (.goto (9), 3) := by decide +kernel
theorem d_O_answerTo_98 : decode b_O_answerTo 98 = .ok (.aload_n 0, 1) := by decide +kernel
theorem d_O_answerTo_99 : decode b_O_answerTo 99 = .ok (.getfield 39, 3) := by decide +kernel
theorem d_O_answerTo_102 : decode b_O_answerTo 102 = .ok (.iload_n 3, 1) := by decide +kernel
theorem d_O_answerTo_103 : decode b_O_answerTo 103 = .ok (.iaload, 1) := by decide +kernel
theorem d_O_answerTo_104 : decode b_O_answerTo 104 = .ok (.iastore, 1) := by decide +kernel
theorem d_O_answerTo_105 : decode b_O_answerTo 105 = .ok (.iinc 3 (1), 3) := by decide +kernel
theorem d_O_answerTo_108 : decode b_O_answerTo 108 = .ok (.goto (-106), 3) := by decide +kernel
theorem d_O_answerTo_111 : decode b_O_answerTo 111 = .ok (.iconst (0), 1) := by decide +kernel
theorem d_O_answerTo_112 : decode b_O_answerTo 112 = .ok (.istore_n 3, 1) := by decide +kernel
