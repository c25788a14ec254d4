theorem d_S_init_0 : decode b_S_init 0 = .ok (.aload_n 0, 1) := by decide +kernel
theorem d_S_init_1 : decode b_S_init 1 = .ok (.invokespecial 3, 3) := by decide +kernel
theorem d_S_init_4 : decode b_S_init 4 = .ok (.aload_n 0, 1) := by decide +kernel
theorem d_S_init_5 : decode b_S_init 5 = .ok (.new 9, 3) := by decide +kernel
theorem d_S_init_8 : decode b_S_init 8 = .ok (.dup, 1) := by decide +kernel
theorem d_S_init_9 : decode b_S_init 9 = .ok (.invokespecial 11, 3) := by decide +kernel
theorem d_S_init_12 : decode b_S_init 12 = .ok (.putfield 12, 3) := by decide +kernel
theorem d_S_init_15 : decode b_S_init 15 = .ok (.aload_n 0, 1) := by decide +kernel
theorem d_S_init_16 : decode b_S_init 16 = .ok (.new 16, 3) := by decide +kernel
theorem d_S_init_19 : decode b_S_init 19 = .ok (.dup, 1) := by decide +kernel
theorem d_S_init_20 : decode b_S_init 20 = .ok (.invokespecial 18, 3) := by decide +kernel
theorem d_S_init_23 : decode b_S_init 23 = .ok (.putfield 19, 3) := by decide +kernel
theorem d_S_init_26 : decode b_S_init 26 = .ok (.aload_n 0, 1) := by decide +kernel
theorem d_S_init_27 : decode b_S_init 27 = .ok (.new 23, 3) := by decide +kernel
theorem d_S_init_30 : decode b_S_init 30 = .ok (.dup, 1) := by decide +kernel
theorem d_S_init_31 : decode b_S_init 31 = .ok (.invokespecial 25, 3) := by decide +kernel
theorem d_S_init_34 : decode b_S_init 34 = .ok (.putfield 26, 3) := by decide +kernel
theorem d_S_init_37 : decode b_S_init 37 = .ok (.aload_n 0, 1) := by decide +kernel
theorem d_S_init_38 : decode b_S_init 38 = .ok (.bipush (8), 2) := by decide +kernel
theorem d_S_init_40 : decode b_S_init 40 = .ok (.newarray .long, 2) := by decide +kernel
theorem d_S_init_42 : decode b_S_init 42 = .ok (.putfield 30, 3) := by decide +kernel
theorem d_S_init_45 : decode b_S_init 45 = .ok (.aload_n 0, 1) := by decide +kernel
theorem d_S_init_46 : decode b_S_init 46 = .ok (.lconst 1, 1) := by decide +kernel
theorem d_S_init_47 : decode b_S_init 47 = .ok (.putfield 34, 3) := by decide +kernel
theorem d_S_init_50 : decode b_S_init 50 = .ok (.return_, 1) := by decide +kernel
theorem d_S_polynomial_0 : decode b_S_polynomial 0 = .ok (.lload_n 1, 1) := by decide +kernel
theorem d_S_polynomial_1 : decode b_S_polynomial 1 = .ok (.invokestatic 38, 3) := by decide +kernel
theorem d_S_polynomial_4 : decode b_S_polynomial 4 = .ok (.istore_n 3, 1) := by decide +kernel
theorem d_S_polynomial_5 : decode b_S_polynomial 5 = .ok (.iload_n 3, 1) := by decide +kernel
theorem d_S_polynomial_6 : decode b_S_polynomial 6 = .ok (.iconst (1), 1) := by decide +kernel
theorem d_S_polynomial_7 : decode b_S_polynomial 7 = .ok (.if_icmp .lt (17), 3) := by decide +kernel
theorem d_S_polynomial_10 : decode b_S_polynomial 10 = .ok (.iload_n 3, 1) := by decide +kernel
theorem d_S_polynomial_11 : decode b_S_polynomial 11 = .ok (.bipush (32), 2) := by decide +kernel
theorem d_S_polynomial_13 : decode b_S_polynomial 13 = .ok (.if_icmp .gt (11), 3) := by decide +kernel
theorem d_S_polynomial_16 : decode b_S_polynomial 16 = .ok (.lload_n 1, 1) := by decide +kernel
theorem d_S_polynomial_17 : decode b_S_polynomial 17 = .ok (.lconst 1, 1) := by decide +kernel
theorem d_S_polynomial_18 : decode b_S_polynomial 18 = .ok (.land, 1) := by decide +kernel
theorem d_S_polynomial_19 : decode b_S_polynomial 19 = .ok (.lconst 0, 1) := by decide +kernel
theorem d_S_polynomial_20 : decode b_S_polynomial 20 = .ok (.lcmp, 1) := by decide +kernel
theorem d_S_polynomial_21 : decode b_S_polynomial 21 = .ok (.ifCond .ne (13), 3) := by decide +kernel
theorem d_S_polynomial_24 : decode b_S_polynomial 24 = .ok (.new 42, 3) := by decide +kernel
theorem d_S_polynomial_27 : decode b_S_polynomial 27 = .ok (.dup, 1) := by decide +kernel
theorem d_S_polynomial_28 : decode b_S_polynomial 28 = .ok (.ldc 44, 2) := by decide +kernel
theorem d_S_polynomial_30 : decode b_S_polynomial 30 = .ok (.invokespecial 46, 3) := by decide +kernel
theorem d_S_polynomial_33 : decode b_S_polynomial 33 = .ok (.athrow, 1) := by decide +kernel
theorem d_S_polynomial_34 : decode b_S_polynomial 34 = .ok (.aload_n 0, 1) := by decide +kernel
theorem d_S_polynomial_35 : decode b_S_polynomial 35 = .ok (.getfield 12, 3) := by decide +kernel
theorem d_S_polynomial_38 : decode b_S_polynomial 38 = .ok (.lload_n 1, 1) := by decide +kernel
theorem d_S_polynomial_39 : decode b_S_polynomial 39 = .ok (.invokevirtual 49, 3) := by decide +kernel
theorem d_S_polynomial_42 : decode b_S_polynomial 42 = .ok (.aload_n 0, 1) := by decide +kernel
theorem d_S_polynomial_43 : decode b_S_polynomial 43 = .ok (.lconst 1, 1) := by decide +kernel
theorem d_S_polynomial_44 : decode b_S_polynomial 44 = .ok (.putfield 34, 3) := by decide +kernel
theorem d_S_polynomial_47 : decode b_S_polynomial 47 = .ok (.aload_n 0, 1) := by decide +kernel
theorem d_S_polynomial_48 : decode b_S_polynomial 48 = .ok (.getfield 19, 3) := by decide +kernel
theorem d_S_polynomial_51 : decode b_S_polynomial 51 = .ok (.iconst (0), 1) := by decide +kernel
theorem d_S_polynomial_52 : decode b_S_polynomial 52 = .ok (.invokevirtual 53, 3) := by decide +kernel
theorem d_S_polynomial_55 : decode b_S_polynomial 55 = .ok (.iload_n 3, 1) := by decide +kernel
theorem d_S_polynomial_56 : decode b_S_polynomial 56 = .ok (.ireturn, 1) := by decide +kernel
theorem d_S_times_0 : decode b_S_times 0 = .ok (.aload_n 0, 1) := by decide +kernel
theorem d_S_times_1 : decode b_S_times 1 = .ok (.lload_n 1, 1) := by decide +kernel
theorem d_S_times_2 : decode b_S_times 2 = .ok (.invokevirtual 57, 3) := by decide +kernel
theorem d_S_times_5 : decode b_S_times 5 = .ok (.aload_n 0, 1) := by decide +kernel
theorem d_S_times_6 : decode b_S_times 6 = .ok (.lload_n 3, 1) := by decide +kernel
theorem d_S_times_7 : decode b_S_times 7 = .ok (.invokevirtual 57, 3) := by decide +kernel
theorem d_S_times_10 : decode b_S_times 10 = .ok (.aload_n 0, 1) := by decide +kernel
theorem d_S_times_11 : decode b_S_times 11 = .ok (.getfield 12, 3) := by decide +kernel
theorem d_S_times_14 : decode b_S_times 14 = .ok (.lload_n 1, 1) := by decide +kernel
theorem d_S_times_15 : decode b_S_times 15 = .ok (.lload_n 3, 1) := by decide +kernel
theorem d_S_times_16 : decode b_S_times 16 = .ok (.invokevirtual 60, 3) := by decide +kernel
theorem d_S_times_19 : decode b_S_times 19 = .ok (.lreturn, 1) := by decide +kernel
theorem d_S_power_0 : decode b_S_power 0 = .ok (.aload_n 0, 1) := by decide +kernel
theorem d_S_power_1 : decode b_S_power 1 = .ok (.lload_n 1, 1) := by decide +kernel
theorem d_S_power_2 : decode b_S_power 2 = .ok (.invokevirtual 57, 3) := by decide +kernel
theorem d_S_power_5 : decode b_S_power 5 = .ok (.aload_n 0, 1) := by decide +kernel
theorem d_S_power_6 : decode b_S_power 6 = .ok (.lload_n 3, 1) := by decide +kernel
theorem d_S_power_7 : decode b_S_power 7 = .ok (.invokevirtual 64, 3) := by decide +kernel
theorem d_S_power_10 : decode b_S_power 10 = .ok (.aload_n 0, 1) := by decide +kernel
theorem d_S_power_11 : decode b_S_power 11 = .ok (.getfield 12, 3) := by decide +kernel
theorem d_S_power_14 : decode b_S_power 14 = .ok (.lload_n 1, 1) := by decide +kernel
theorem d_S_power_15 : decode b_S_power 15 = .ok (.lload_n 3, 1) := by decide +kernel
theorem d_S_power_16 : decode b_S_power 16 = .ok (.invokevirtual 67, 3) := by decide +kernel
theorem d_S_power_19 : decode b_S_power 19 = .ok (.lreturn, 1) := by decide +kernel
theorem d_S_residue_0 : decode b_S_residue 0 = .ok (.aload_n 0, 1) := by decide +kernel
theorem d_S_residue_1 : decode b_S_residue 1 = .ok (.getfield 12, 3) := by decide +kernel
theorem d_S_residue_4 : decode b_S_residue 4 = .ok (.lload_n 1, 1) := by decide +kernel
theorem d_S_residue_5 : decode b_S_residue 5 = .ok (.invokevirtual 70, 3) := by decide +kernel
theorem d_S_residue_8 : decode b_S_residue 8 = .ok (.lreturn, 1) := by decide +kernel
theorem d_S_irreducible_0 : decode b_S_irreducible 0 = .ok (.aload_n 0, 1) := by decide +kernel
theorem d_S_irreducible_1 : decode b_S_irreducible 1 = .ok (.getfield 12, 3) := by decide +kernel
theorem d_S_irreducible_4 : decode b_S_irreducible 4 = .ok (.invokevirtual 74, 3) := by decide +kernel
theorem d_S_irreducible_7 : decode b_S_irreducible 7 = .ok (.ireturn, 1) := by decide +kernel
theorem d_S_primitive_0 : decode b_S_primitive 0 = .ok (.aload_n 0, 1) := by decide +kernel
theorem d_S_primitive_1 : decode b_S_primitive 1 = .ok (.getfield 12, 3) := by decide +kernel
theorem d_S_primitive_4 : decode b_S_primitive 4 = .ok (.invokevirtual 78, 3) := by decide +kernel
theorem d_S_primitive_7 : decode b_S_primitive 7 = .ok (.ireturn, 1) := by decide +kernel
theorem d_S_order_0 : decode b_S_order 0 = .ok (.aload_n 0, 1) := by decide +kernel
theorem d_S_order_1 : decode b_S_order 1 = .ok (.getfield 12, 3) := by decide +kernel
theorem d_S_order_4 : decode b_S_order 4 = .ok (.getfield 81, 3) := by decide +kernel
theorem d_S_order_7 : decode b_S_order 7 = .ok (.bipush (18), 2) := by decide +kernel
theorem d_S_order_9 : decode b_S_order 9 = .ok (.if_icmp .le (7), 3) := by decide +kernel
theorem d_S_order_12 : decode b_S_order 12 = .ok (.ldc2_w 85, 3) := by decide +kernel
theorem d_S_order_15 : decode b_S_order 15 = .ok (.lreturn, 1) := by decide +kernel
theorem d_S_order_16 : decode b_S_order 16 = .ok (.aload_n 0, 1) := by decide +kernel
theorem d_S_order_17 : decode b_S_order 17 = .ok (.getfield 12, 3) := by decide +kernel
theorem d_S_order_20 : decode b_S_order 20 = .ok (.aload_n 0, 1) := by decide +kernel
theorem d_S_order_21 : decode b_S_order 21 = .ok (.getfield 12, 3) := by decide +kernel
theorem d_S_order_24 : decode b_S_order 24 = .ok (.invokevirtual 87, 3) := by decide +kernel
theorem d_S_order_27 : decode b_S_order 27 = .ok (.invokevirtual 91, 3) := by decide +kernel
theorem d_S_order_30 : decode b_S_order 30 = .ok (.lreturn, 1) := by decide +kernel
theorem d_S_load_0 : decode b_S_load 0 = .ok (.aload_n 0, 1) := by decide +kernel
theorem d_S_load_1 : decode b_S_load 1 = .ok (.lload_n 1, 1) := by decide +kernel
theorem d_S_load_2 : decode b_S_load 2 = .ok (.invokevirtual 57, 3) := by decide +kernel
theorem d_S_load_5 : decode b_S_load 5 = .ok (.aload_n 0, 1) := by decide +kernel
theorem d_S_load_6 : decode b_S_load 6 = .ok (.getfield 34, 3) := by decide +kernel
theorem d_S_load_9 : decode b_S_load 9 = .ok (.lstore_n 3, 1) := by decide +kernel
theorem d_S_load_10 : decode b_S_load 10 = .ok (.aload_n 0, 1) := by decide +kernel
theorem d_S_load_11 : decode b_S_load 11 = .ok (.lload_n 1, 1) := by decide +kernel
theorem d_S_load_12 : decode b_S_load 12 = .ok (.putfield 34, 3) := by decide +kernel
theorem d_S_load_15 : decode b_S_load 15 = .ok (.lload_n 3, 1) := by decide +kernel
theorem d_S_load_16 : decode b_S_load 16 = .ok (.lreturn, 1) := by decide +kernel
theorem d_S_steps_0 : decode b_S_steps 0 = .ok (.aload_n 0, 1) := by decide +kernel
theorem d_S_steps_1 : decode b_S_steps 1 = .ok (.lload_n 1, 1) := by decide +kernel
theorem d_S_steps_2 : decode b_S_steps 2 = .ok (.invokevirtual 64, 3) := by decide +kernel
theorem d_S_steps_5 : decode b_S_steps 5 = .ok (.aload_n 0, 1) := by decide +kernel
theorem d_S_steps_6 : decode b_S_steps 6 = .ok (.aload_n 0, 1) := by decide +kernel
theorem d_S_steps_7 : decode b_S_steps 7 = .ok (.getfield 12, 3) := by decide +kernel
theorem d_S_steps_10 : decode b_S_steps 10 = .ok (.aload_n 0, 1) := by decide +kernel
theorem d_S_steps_11 : decode b_S_steps 11 = .ok (.getfield 34, 3) := by decide +kernel
theorem d_S_steps_14 : decode b_S_steps 14 = .ok (.aload_n 0, 1) := by decide +kernel
theorem d_S_steps_15 : decode b_S_steps 15 = .ok (.getfield 12, 3) := by decide +kernel
theorem d_S_steps_18 : decode b_S_steps 18 = .ok (.aload_n 0, 1) := by decide +kernel
theorem d_S_steps_19 : decode b_S_steps 19 = .ok (.getfield 12, 3) := by decide +kernel
theorem d_S_steps_22 : decode b_S_steps 22 = .ok (.getfield 94, 3) := by decide +kernel
theorem d_S_steps_25 : decode b_S_steps 25 = .ok (.lload_n 1, 1) := by decide +kernel
theorem d_S_steps_26 : decode b_S_steps 26 = .ok (.invokevirtual 67, 3) := by decide +kernel
theorem d_S_steps_29 : decode b_S_steps 29 = .ok (.invokevirtual 60, 3) := by decide +kernel
theorem d_S_steps_32 : decode b_S_steps 32 = .ok (.putfield 34, 3) := by decide +kernel
theorem d_S_steps_35 : decode b_S_steps 35 = .ok (.aload_n 0, 1) := by decide +kernel
theorem d_S_steps_36 : decode b_S_steps 36 = .ok (.getfield 34, 3) := by decide +kernel
theorem d_S_steps_39 : decode b_S_steps 39 = .ok (.lreturn, 1) := by decide +kernel
theorem d_S_channel_0 : decode b_S_channel 0 = .ok (.aload_n 0, 1) := by decide +kernel
theorem d_S_channel_1 : decode b_S_channel 1 = .ok (.lload_n 1, 1) := by decide +kernel
theorem d_S_channel_2 : decode b_S_channel 2 = .ok (.invokevirtual 57, 3) := by decide +kernel
theorem d_S_channel_5 : decode b_S_channel 5 = .ok (.aload_n 0, 1) := by decide +kernel
theorem d_S_channel_6 : decode b_S_channel 6 = .ok (.getfield 19, 3) := by decide +kernel
theorem d_S_channel_9 : decode b_S_channel 9 = .ok (.getfield 97, 3) := by decide +kernel
theorem d_S_channel_12 : decode b_S_channel 12 = .ok (.istore_n 3, 1) := by decide +kernel
theorem d_S_channel_13 : decode b_S_channel 13 = .ok (.iload_n 3, 1) := by decide +kernel
theorem d_S_channel_14 : decode b_S_channel 14 = .ok (.bipush (8), 2) := by decide +kernel
theorem d_S_channel_16 : decode b_S_channel 16 = .ok (.if_icmp .lt (13), 3) := by decide +kernel
theorem d_S_channel_19 : decode b_S_channel 19 = .ok (.new 100, 3) := by decide +kernel
theorem d_S_channel_22 : decode b_S_channel 22 = .ok (.dup, 1) := by decide +kernel
theorem d_S_channel_23 : decode b_S_channel 23 = .ok (.ldc 102, 2) := by decide +kernel
theorem d_S_channel_25 : decode b_S_channel 25 = .ok (.invokespecial 104, 3) := by decide +kernel
theorem d_S_channel_28 : decode b_S_channel 28 = .ok (.athrow, 1) := by decide +kernel
theorem d_S_channel_29 : decode b_S_channel 29 = .ok (.aload_n 0, 1) := by decide +kernel
theorem d_S_channel_30 : decode b_S_channel 30 = .ok (.getfield 30, 3) := by decide +kernel
theorem d_S_channel_33 : decode b_S_channel 33 = .ok (.iload_n 3, 1) := by decide +kernel
theorem d_S_channel_34 : decode b_S_channel 34 = .ok (.lload_n 1, 1) := by decide +kernel
theorem d_S_channel_35 : decode b_S_channel 35 = .ok (.lastore, 1) := by decide +kernel
theorem d_S_channel_36 : decode b_S_channel 36 = .ok (.aload_n 0, 1) := by decide +kernel
theorem d_S_channel_37 : decode b_S_channel 37 = .ok (.getfield 19, 3) := by decide +kernel
theorem d_S_channel_40 : decode b_S_channel 40 = .ok (.iload_n 3, 1) := by decide +kernel
theorem d_S_channel_41 : decode b_S_channel 41 = .ok (.iconst (1), 1) := by decide +kernel
theorem d_S_channel_42 : decode b_S_channel 42 = .ok (.iadd, 1) := by decide +kernel
theorem d_S_channel_43 : decode b_S_channel 43 = .ok (.invokevirtual 53, 3) := by decide +kernel
theorem d_S_channel_46 : decode b_S_channel 46 = .ok (.iload_n 3, 1) := by decide +kernel
theorem d_S_channel_47 : decode b_S_channel 47 = .ok (.ireturn, 1) := by decide +kernel
theorem d_S_pattern_0 : decode b_S_pattern 0 = .ok (.aload_n 0, 1) := by decide +kernel
theorem d_S_pattern_1 : decode b_S_pattern 1 = .ok (.aload_n 0, 1) := by decide +kernel
theorem d_S_pattern_2 : decode b_S_pattern 2 = .ok (.getfield 34, 3) := by decide +kernel
theorem d_S_pattern_5 : decode b_S_pattern 5 = .ok (.invokevirtual 105, 3) := by decide +kernel
theorem d_S_pattern_8 : decode b_S_pattern 8 = .ok (.ireturn, 1) := by decide +kernel
theorem d_S_gate_0 : decode b_S_gate 0 = .ok (.iload_n 1, 1) := by decide +kernel
theorem d_S_gate_1 : decode b_S_gate 1 = .ok (.ifCond .lt (8), 3) := by decide +kernel
theorem d_S_gate_4 : decode b_S_gate 4 = .ok (.iload_n 1, 1) := by decide +kernel
theorem d_S_gate_5 : decode b_S_gate 5 = .ok (.iconst (5), 1) := by decide +kernel
theorem d_S_gate_6 : decode b_S_gate 6 = .ok (.if_icmp .le (13), 3) := by decide +kernel
theorem d_S_gate_9 : decode b_S_gate 9 = .ok (.new 42, 3) := by decide +kernel
theorem d_S_gate_12 : decode b_S_gate 12 = .ok (.dup, 1) := by decide +kernel
theorem d_S_gate_13 : decode b_S_gate 13 = .ok (.ldc 108, 2) := by decide +kernel
theorem d_S_gate_15 : decode b_S_gate 15 = .ok (.invokespecial 46, 3) := by decide +kernel
theorem d_S_gate_18 : decode b_S_gate 18 = .ok (.athrow, 1) := by decide +kernel
theorem d_S_gate_19 : decode b_S_gate 19 = .ok (.aload_n 0, 1) := by decide +kernel
theorem d_S_gate_20 : decode b_S_gate 20 = .ok (.iload_n 2, 1) := by decide +kernel
theorem d_S_gate_21 : decode b_S_gate 21 = .ok (.invokevirtual 110, 3) := by decide +kernel
theorem d_S_gate_24 : decode b_S_gate 24 = .ok (.iload_n 1, 1) := by decide +kernel
theorem d_S_gate_25 : decode b_S_gate 25 = .ok (.iconst (5), 1) := by decide +kernel
theorem d_S_gate_26 : decode b_S_gate 26 = .ok (.if_icmp .ne (7), 3) := by decide +kernel
theorem d_S_gate_29 : decode b_S_gate 29 = .ok (.iload_n 2, 1) := by decide +kernel
theorem d_S_gate_30 : decode b_S_gate 30 = .ok (.goto (4), 3) := by decide +kernel
theorem d_S_gate_33 : decode b_S_gate 33 = .ok (.iload_n 3, 1) := by decide +kernel
theorem d_S_gate_34 : decode b_S_gate 34 = .ok (.istore 4, 2) := by decide +kernel
theorem d_S_gate_36 : decode b_S_gate 36 = .ok (.aload_n 0, 1) := by decide +kernel
theorem d_S_gate_37 : decode b_S_gate 37 = .ok (.iload 4, 2) := by decide +kernel
theorem d_S_gate_39 : decode b_S_gate 39 = .ok (.invokevirtual 110, 3) := by decide +kernel
theorem d_S_gate_42 : decode b_S_gate 42 = .ok (.aload_n 0, 1) := by decide +kernel
theorem d_S_gate_43 : decode b_S_gate 43 = .ok (.getfield 19, 3) := by decide +kernel
theorem d_S_gate_46 : decode b_S_gate 46 = .ok (.getfield 113, 3) := by decide +kernel
theorem d_S_gate_49 : decode b_S_gate 49 = .ok (.bipush (24), 2) := by decide +kernel
theorem d_S_gate_51 : decode b_S_gate 51 = .ok (.if_icmp .lt (13), 3) := by decide +kernel
theorem d_S_gate_54 : decode b_S_gate 54 = .ok (.new 100, 3) := by decide +kernel
theorem d_S_gate_57 : decode b_S_gate 57 = .ok (.dup, 1) := by decide +kernel
theorem d_S_gate_58 : decode b_S_gate 58 = .ok (.ldc 116, 2) := by decide +kernel
theorem d_S_gate_60 : decode b_S_gate 60 = .ok (.invokespecial 104, 3) := by decide +kernel
theorem d_S_gate_63 : decode b_S_gate 63 = .ok (.athrow, 1) := by decide +kernel
theorem d_S_gate_64 : decode b_S_gate 64 = .ok (.aload_n 0, 1) := by decide +kernel
theorem d_S_gate_65 : decode b_S_gate 65 = .ok (.getfield 19, 3) := by decide +kernel
theorem d_S_gate_68 : decode b_S_gate 68 = .ok (.iload_n 1, 1) := by decide +kernel
theorem d_S_gate_69 : decode b_S_gate 69 = .ok (.iload_n 2, 1) := by decide +kernel
theorem d_S_gate_70 : decode b_S_gate 70 = .ok (.iload 4, 2) := by decide +kernel
theorem d_S_gate_72 : decode b_S_gate 72 = .ok (.invokevirtual 118, 3) := by decide +kernel
theorem d_S_gate_75 : decode b_S_gate 75 = .ok (.ireturn, 1) := by decide +kernel
theorem d_S_output_0 : decode b_S_output 0 = .ok (.aload_n 0, 1) := by decide +kernel
theorem d_S_output_1 : decode b_S_output 1 = .ok (.iload_n 1, 1) := by decide +kernel
theorem d_S_output_2 : decode b_S_output 2 = .ok (.invokevirtual 110, 3) := by decide +kernel
theorem d_S_output_5 : decode b_S_output 5 = .ok (.aload_n 0, 1) := by decide +kernel
theorem d_S_output_6 : decode b_S_output 6 = .ok (.getfield 19, 3) := by decide +kernel
theorem d_S_output_9 : decode b_S_output 9 = .ok (.getfield 122, 3) := by decide +kernel
theorem d_S_output_12 : decode b_S_output 12 = .ok (.bipush (16), 2) := by decide +kernel
theorem d_S_output_14 : decode b_S_output 14 = .ok (.if_icmp .lt (13), 3) := by decide +kernel
theorem d_S_output_17 : decode b_S_output 17 = .ok (.new 100, 3) := by decide +kernel
theorem d_S_output_20 : decode b_S_output 20 = .ok (.dup, 1) := by decide +kernel
theorem d_S_output_21 : decode b_S_output 21 = .ok (.ldc 125, 2) := by decide +kernel
theorem d_S_output_23 : decode b_S_output 23 = .ok (.invokespecial 104, 3) := by decide +kernel
theorem d_S_output_26 : decode b_S_output 26 = .ok (.athrow, 1) := by decide +kernel
theorem d_S_output_27 : decode b_S_output 27 = .ok (.aload_n 0, 1) := by decide +kernel
theorem d_S_output_28 : decode b_S_output 28 = .ok (.getfield 19, 3) := by decide +kernel
theorem d_S_output_31 : decode b_S_output 31 = .ok (.iload_n 1, 1) := by decide +kernel
theorem d_S_output_32 : decode b_S_output 32 = .ok (.invokevirtual 127, 3) := by decide +kernel
theorem d_S_output_35 : decode b_S_output 35 = .ok (.ireturn, 1) := by decide +kernel
theorem d_S_answer_0 : decode b_S_answer 0 = .ok (.aload_n 0, 1) := by decide +kernel
theorem d_S_answer_1 : decode b_S_answer 1 = .ok (.iload_n 2, 1) := by decide +kernel
theorem d_S_answer_2 : decode b_S_answer 2 = .ok (.invokevirtual 131, 3) := by decide +kernel
theorem d_S_answer_5 : decode b_S_answer 5 = .ok (.aload_n 0, 1) := by decide +kernel
theorem d_S_answer_6 : decode b_S_answer 6 = .ok (.getfield 19, 3) := by decide +kernel
theorem d_S_answer_9 : decode b_S_answer 9 = .ok (.iload_n 1, 1) := by decide +kernel
theorem d_S_answer_10 : decode b_S_answer 10 = .ok (.iload_n 2, 1) := by decide +kernel
theorem d_S_answer_11 : decode b_S_answer 11 = .ok (.invokevirtual 134, 3) := by decide +kernel
theorem d_S_answer_14 : decode b_S_answer 14 = .ok (.ireturn, 1) := by decide +kernel
theorem d_S_session_0 : decode b_S_session 0 = .ok (.aload_n 0, 1) := by decide +kernel
theorem d_S_session_1 : decode b_S_session 1 = .ok (.iload_n 2, 1) := by decide +kernel
theorem d_S_session_2 : decode b_S_session 2 = .ok (.invokevirtual 131, 3) := by decide +kernel
theorem d_S_session_5 : decode b_S_session 5 = .ok (.aload_n 0, 1) := by decide +kernel
theorem d_S_session_6 : decode b_S_session 6 = .ok (.iload_n 1, 1) := by decide +kernel
theorem d_S_session_7 : decode b_S_session 7 = .ok (.invokevirtual 138, 3) := by decide +kernel
theorem d_S_session_10 : decode b_S_session 10 = .ok (.aload_n 0, 1) := by decide +kernel
theorem d_S_session_11 : decode b_S_session 11 = .ok (.getfield 34, 3) := by decide +kernel
theorem d_S_session_14 : decode b_S_session 14 = .ok (.lstore_n 3, 1) := by decide +kernel
theorem d_S_session_15 : decode b_S_session 15 = .ok (.lconst 0, 1) := by decide +kernel
theorem d_S_session_16 : decode b_S_session 16 = .ok (.lstore 5, 2) := by decide +kernel
theorem d_S_session_18 : decode b_S_session 18 = .ok (.iconst (0), 1) := by decide +kernel
theorem d_S_session_19 : decode b_S_session 19 = .ok (.istore 7, 2) := by decide +kernel
theorem d_S_session_21 : decode b_S_session 21 = .ok (.iload 7, 2) := by decide +kernel
theorem d_S_session_23 : decode b_S_session 23 = .ok (.iload_n 1, 1) := by decide +kernel
theorem d_S_session_24 : decode b_S_session 24 = .ok (.if_icmp .ge (55), 3) := by decide +kernel
theorem d_S_session_27 : decode b_S_session 27 = .ok (.aload_n 0, 1) := by decide +kernel
theorem d_S_session_28 : decode b_S_session 28 = .ok (.getfield 19, 3) := by decide +kernel
theorem d_S_session_31 : decode b_S_session 31 = .ok (.aload_n 0, 1) := by decide +kernel
theorem d_S_session_32 : decode b_S_session 32 = .ok (.lload_n 3, 1) := by decide +kernel
theorem d_S_session_33 : decode b_S_session 33 = .ok (.invokevirtual 105, 3) := by decide +kernel
theorem d_S_session_36 : decode b_S_session 36 = .ok (.iload_n 2, 1) := by decide +kernel
theorem d_S_session_37 : decode b_S_session 37 = .ok (.invokevirtual 134, 3) := by decide +kernel
theorem d_S_session_40 : decode b_S_session 40 = .ok (.istore 8, 2) := by decide +kernel
theorem d_S_session_42 : decode b_S_session 42 = .ok (.aload_n 0, 1) := by decide +kernel
theorem d_S_session_43 : decode b_S_session 43 = .ok (.getfield 12, 3) := by decide +kernel
theorem d_S_session_46 : decode b_S_session 46 = .ok (.lload 5, 2) := by decide +kernel
theorem d_S_session_48 : decode b_S_session 48 = .ok (.invokevirtual 141, 3) := by decide +kernel
theorem d_S_session_51 : decode b_S_session 51 = .ok (.aload_n 0, 1) := by decide +kernel
theorem d_S_session_52 : decode b_S_session 52 = .ok (.getfield 12, 3) := by decide +kernel
theorem d_S_session_55 : decode b_S_session 55 = .ok (.iload 8, 2) := by decide +kernel
theorem d_S_session_57 : decode b_S_session 57 = .ok (.i2l, 1) := by decide +kernel
theorem d_S_session_58 : decode b_S_session 58 = .ok (.invokevirtual 70, 3) := by decide +kernel
theorem d_S_session_61 : decode b_S_session 61 = .ok (.lxor, 1) := by decide +kernel
theorem d_S_session_62 : decode b_S_session 62 = .ok (.lstore 5, 2) := by decide +kernel
theorem d_S_session_64 : decode b_S_session 64 = .ok (.aload_n 0, 1) := by decide +kernel
theorem d_S_session_65 : decode b_S_session 65 = .ok (.getfield 12, 3) := by decide +kernel
theorem d_S_session_68 : decode b_S_session 68 = .ok (.lload_n 3, 1) := by decide +kernel
theorem d_S_session_69 : decode b_S_session 69 = .ok (.invokevirtual 141, 3) := by decide +kernel
theorem d_S_session_72 : decode b_S_session 72 = .ok (.lstore_n 3, 1) := by decide +kernel
theorem d_S_session_73 : decode b_S_session 73 = .ok (.iinc 7 (1), 3) := by decide +kernel
theorem d_S_session_76 : decode b_S_session 76 = .ok (.goto (-55), 3) := by decide +kernel
theorem d_S_session_79 : decode b_S_session 79 = .ok (.lload 5, 2) := by decide +kernel
theorem d_S_session_81 : decode b_S_session 81 = .ok (.lreturn, 1) := by decide +kernel
theorem d_S_faults_0 : decode b_S_faults 0 = .ok (.iload_n 2, 1) := by decide +kernel
theorem d_S_faults_1 : decode b_S_faults 1 = .ok (.ifCond .lt (8), 3) := by decide +kernel
theorem d_S_faults_4 : decode b_S_faults 4 = .ok (.iload_n 2, 1) := by decide +kernel
theorem d_S_faults_5 : decode b_S_faults 5 = .ok (.iconst (3), 1) := by decide +kernel
theorem d_S_faults_6 : decode b_S_faults 6 = .ok (.if_icmp .le (13), 3) := by decide +kernel
theorem d_S_faults_9 : decode b_S_faults 9 = .ok (.new 144, 3) := by decide +kernel
theorem d_S_faults_12 : decode b_S_faults 12 = .ok (.dup, 1) := by decide +kernel
theorem d_S_faults_13 : decode b_S_faults 13 = .ok (.ldc 146, 2) := by decide +kernel
theorem d_S_faults_15 : decode b_S_faults 15 = .ok (.invokespecial 148, 3) := by decide +kernel
theorem d_S_faults_18 : decode b_S_faults 18 = .ok (.athrow, 1) := by decide +kernel
theorem d_S_faults_19 : decode b_S_faults 19 = .ok (.aload_n 0, 1) := by decide +kernel
theorem d_S_faults_20 : decode b_S_faults 20 = .ok (.iload_n 1, 1) := by decide +kernel
theorem d_S_faults_21 : decode b_S_faults 21 = .ok (.invokevirtual 138, 3) := by decide +kernel
theorem d_S_faults_24 : decode b_S_faults 24 = .ok (.iload_n 2, 1) := by decide +kernel
theorem d_S_faults_25 : decode b_S_faults 25 = .ok (.ifCond .ne (11), 3) := by decide +kernel
theorem d_S_faults_28 : decode b_S_faults 28 = .ok (.aload_n 0, 1) := by decide +kernel
theorem d_S_faults_29 : decode b_S_faults 29 = .ok (.getfield 19, 3) := by decide +kernel
theorem d_S_faults_32 : decode b_S_faults 32 = .ok (.invokevirtual 149, 3) := by decide +kernel
theorem d_S_faults_35 : decode b_S_faults 35 = .ok (.ireturn, 1) := by decide +kernel
theorem d_S_faults_36 : decode b_S_faults 36 = .ok (.aload_n 0, 1) := by decide +kernel
theorem d_S_faults_37 : decode b_S_faults 37 = .ok (.iload_n 1, 1) := by decide +kernel
theorem d_S_faults_38 : decode b_S_faults 38 = .ok (.invokevirtual 153, 3) := by decide +kernel
theorem d_S_faults_41 : decode b_S_faults 41 = .ok (.iload_n 2, 1) := by decide +kernel
theorem d_S_faults_42 : decode b_S_faults 42 = .ok (.iconst (1), 1) := by decide +kernel
theorem d_S_faults_43 : decode b_S_faults 43 = .ok (.if_icmp .ne (14), 3) := by decide +kernel
theorem d_S_faults_46 : decode b_S_faults 46 = .ok (.aload_n 0, 1) := by decide +kernel
theorem d_S_faults_47 : decode b_S_faults 47 = .ok (.getfield 26, 3) := by decide +kernel
theorem d_S_faults_50 : decode b_S_faults 50 = .ok (.getfield 156, 3) := by decide +kernel
theorem d_S_faults_53 : decode b_S_faults 53 = .ok (.invokestatic 159, 3) := by decide +kernel
theorem d_S_faults_56 : decode b_S_faults 56 = .ok (.ireturn, 1) := by decide +kernel
theorem d_S_faults_57 : decode b_S_faults 57 = .ok (.aload_n 0, 1) := by decide +kernel
theorem d_S_faults_58 : decode b_S_faults 58 = .ok (.getfield 26, 3) := by decide +kernel
theorem d_S_faults_61 : decode b_S_faults 61 = .ok (.invokevirtual 164, 3) := by decide +kernel
theorem d_S_faults_64 : decode b_S_faults 64 = .ok (.lstore_n 3, 1) := by decide +kernel
theorem d_S_faults_65 : decode b_S_faults 65 = .ok (.iload_n 2, 1) := by decide +kernel
theorem d_S_faults_66 : decode b_S_faults 66 = .ok (.iconst (2), 1) := by decide +kernel
theorem d_S_faults_67 : decode b_S_faults 67 = .ok (.if_icmp .ne (10), 3) := by decide +kernel
theorem d_S_faults_70 : decode b_S_faults 70 = .ok (.lload_n 3, 1) := by decide +kernel
theorem d_S_faults_71 : decode b_S_faults 71 = .ok (.invokestatic 159, 3) := by decide +kernel
theorem d_S_faults_74 : decode b_S_faults 74 = .ok (.goto (19), 3) := by decide +kernel
theorem d_S_faults_77 : decode b_S_faults 77 = .ok (.aload_n 0, 1) := by decide +kernel
theorem d_S_faults_78 : decode b_S_faults 78 = .ok (.getfield 26, 3) := by decide +kernel
theorem d_S_faults_81 : decode b_S_faults 81 = .ok (.getfield 156, 3) := by decide +kernel
theorem d_S_faults_84 : decode b_S_faults 84 = .ok (.lload_n 3, 1) := by decide +kernel
theorem d_S_faults_85 : decode b_S_faults 85 = .ok (.ldc2_w 85, 3) := by decide +kernel
theorem d_S_faults_88 : decode b_S_faults 88 = .ok (.lxor, 1) := by decide +kernel
theorem d_S_faults_89 : decode b_S_faults 89 = .ok (.land, 1) := by decide +kernel
theorem d_S_faults_90 : decode b_S_faults 90 = .ok (.invokestatic 167, 3) := by decide +kernel
theorem d_S_faults_93 : decode b_S_faults 93 = .ok (.ireturn, 1) := by decide +kernel
theorem d_S_first_0 : decode b_S_first 0 = .ok (.aload_n 0, 1) := by decide +kernel
theorem d_S_first_1 : decode b_S_first 1 = .ok (.iload_n 2, 1) := by decide +kernel
theorem d_S_first_2 : decode b_S_first 2 = .ok (.invokevirtual 170, 3) := by decide +kernel
theorem d_S_first_5 : decode b_S_first 5 = .ok (.aload_n 0, 1) := by decide +kernel
theorem d_S_first_6 : decode b_S_first 6 = .ok (.iload_n 1, 1) := by decide +kernel
theorem d_S_first_7 : decode b_S_first 7 = .ok (.invokevirtual 138, 3) := by decide +kernel
theorem d_S_first_10 : decode b_S_first 10 = .ok (.aload_n 0, 1) := by decide +kernel
theorem d_S_first_11 : decode b_S_first 11 = .ok (.getfield 34, 3) := by decide +kernel
theorem d_S_first_14 : decode b_S_first 14 = .ok (.lstore_n 3, 1) := by decide +kernel
theorem d_S_first_15 : decode b_S_first 15 = .ok (.iconst (0), 1) := by decide +kernel
theorem d_S_first_16 : decode b_S_first 16 = .ok (.istore 5, 2) := by decide +kernel
theorem d_S_first_18 : decode b_S_first 18 = .ok (.iload 5, 2) := by decide +kernel
theorem d_S_first_20 : decode b_S_first 20 = .ok (.iload_n 1, 1) := by decide +kernel
theorem d_S_first_21 : decode b_S_first 21 = .ok (.if_icmp .ge (51), 3) := by decide +kernel
theorem d_S_first_24 : decode b_S_first 24 = .ok (.aload_n 0, 1) := by decide +kernel
theorem d_S_first_25 : decode b_S_first 25 = .ok (.lload_n 3, 1) := by decide +kernel
theorem d_S_first_26 : decode b_S_first 26 = .ok (.invokevirtual 105, 3) := by decide +kernel
theorem d_S_first_29 : decode b_S_first 29 = .ok (.istore 6, 2) := by decide +kernel
theorem d_S_first_31 : decode b_S_first 31 = .ok (.aload_n 0, 1) := by decide +kernel
theorem d_S_first_32 : decode b_S_first 32 = .ok (.getfield 19, 3) := by decide +kernel
theorem d_S_first_35 : decode b_S_first 35 = .ok (.iload 6, 2) := by decide +kernel
theorem d_S_first_37 : decode b_S_first 37 = .ok (.iload_n 2, 1) := by decide +kernel
theorem d_S_first_38 : decode b_S_first 38 = .ok (.invokevirtual 134, 3) := by decide +kernel
theorem d_S_first_41 : decode b_S_first 41 = .ok (.aload_n 0, 1) := by decide +kernel
theorem d_S_first_42 : decode b_S_first 42 = .ok (.getfield 19, 3) := by decide +kernel
theorem d_S_first_45 : decode b_S_first 45 = .ok (.iload 6, 2) := by decide +kernel
theorem d_S_first_47 : decode b_S_first 47 = .ok (.iconst (-1), 1) := by decide +kernel
theorem d_S_first_48 : decode b_S_first 48 = .ok (.invokevirtual 134, 3) := by decide +kernel
theorem d_S_first_51 : decode b_S_first 51 = .ok (.if_icmp .eq (6), 3) := by decide +kernel
theorem d_S_first_54 : decode b_S_first 54 = .ok (.iload 5, 2) := by decide +kernel
theorem d_S_first_56 : decode b_S_first 56 = .ok (.ireturn, 1) := by decide +kernel
theorem d_S_first_57 : decode b_S_first 57 = .ok (.aload_n 0, 1) := by decide +kernel
theorem d_S_first_58 : decode b_S_first 58 = .ok (.getfield 12, 3) := by decide +kernel
theorem d_S_first_61 : decode b_S_first 61 = .ok (.lload_n 3, 1) := by decide +kernel
theorem d_S_first_62 : decode b_S_first 62 = .ok (.invokevirtual 141, 3) := by decide +kernel
theorem d_S_first_65 : decode b_S_first 65 = .ok (.lstore_n 3, 1) := by decide +kernel
theorem d_S_first_66 : decode b_S_first 66 = .ok (.iinc 5 (1), 3) := by decide +kernel
theorem d_S_first_69 : decode b_S_first 69 = .ok (.goto (-51), 3) := by decide +kernel
theorem d_S_first_72 : decode b_S_first 72 = .ok (.iconst (-1), 1) := by decide +kernel
theorem d_S_first_73 : decode b_S_first 73 = .ok (.ireturn, 1) := by decide +kernel
theorem d_S_requireResidue_0 : decode b_S_requireResidue 0 = .ok (.aload_n 0, 1) := by decide +kernel
theorem d_S_requireResidue_1 : decode b_S_requireResidue 1 = .ok (.getfield 12, 3) := by decide +kernel
theorem d_S_requireResidue_4 : decode b_S_requireResidue 4 = .ok (.lload_n 1, 1) := by decide +kernel
theorem d_S_requireResidue_5 : decode b_S_requireResidue 5 = .ok (.invokevirtual 173, 3) := by decide +kernel
theorem d_S_requireResidue_8 : decode b_S_requireResidue 8 = .ok (.ifCond .ne (13), 3) := by decide +kernel
theorem d_S_requireResidue_11 : decode b_S_requireResidue 11 = .ok (.new 42, 3) := by decide +kernel
theorem d_S_requireResidue_14 : decode b_S_requireResidue 14 = .ok (.dup, 1) := by decide +kernel
theorem d_S_requireResidue_15 : decode b_S_requireResidue 15 = .ok (.ldc 177, 2) := by decide +kernel
theorem d_S_requireResidue_17 : decode b_S_requireResidue 17 = .ok (.invokespecial 46, 3) := by decide +kernel
theorem d_S_requireResidue_20 : decode b_S_requireResidue 20 = .ok (.athrow, 1) := by decide +kernel
theorem d_S_requireResidue_21 : decode b_S_requireResidue 21 = .ok (.return_, 1) := by decide +kernel
theorem d_S_requireNotNegative_0 : decode b_S_requireNotNegative 0 = .ok (.lload_n 1, 1) := by decide +kernel
theorem d_S_requireNotNegative_1 : decode b_S_requireNotNegative 1 = .ok (.lconst 0, 1) := by decide +kernel
theorem d_S_requireNotNegative_2 : decode b_S_requireNotNegative 2 = .ok (.lcmp, 1) := by decide +kernel
theorem d_S_requireNotNegative_3 : decode b_S_requireNotNegative 3 = .ok (.ifCond .ge (13), 3) := by decide +kernel
theorem d_S_requireNotNegative_6 : decode b_S_requireNotNegative 6 = .ok (.new 42, 3) := by decide +kernel
theorem d_S_requireNotNegative_9 : decode b_S_requireNotNegative 9 = .ok (.dup, 1) := by decide +kernel
theorem d_S_requireNotNegative_10 : decode b_S_requireNotNegative 10 = .ok (.ldc 179, 2) := by decide +kernel
theorem d_S_requireNotNegative_12 : decode b_S_requireNotNegative 12 = .ok (.invokespecial 46, 3) := by decide +kernel
theorem d_S_requireNotNegative_15 : decode b_S_requireNotNegative 15 = .ok (.athrow, 1) := by decide +kernel
theorem d_S_requireNotNegative_16 : decode b_S_requireNotNegative 16 = .ok (.return_, 1) := by decide +kernel
theorem d_S_requirePatterns_0 : decode b_S_requirePatterns 0 = .ok (.iload_n 1, 1) := by decide +kernel
theorem d_S_requirePatterns_1 : decode b_S_requirePatterns 1 = .ok (.ifCond .lt (10), 3) := by decide +kernel
theorem d_S_requirePatterns_4 : decode b_S_requirePatterns 4 = .ok (.iload_n 1, 1) := by decide +kernel
theorem d_S_requirePatterns_5 : decode b_S_requirePatterns 5 = .ok (.sipush (256), 3) := by decide +kernel
theorem d_S_requirePatterns_8 : decode b_S_requirePatterns 8 = .ok (.if_icmp .le (13), 3) := by decide +kernel
theorem d_S_requirePatterns_11 : decode b_S_requirePatterns 11 = .ok (.new 42, 3) := by decide +kernel
theorem d_S_requirePatterns_14 : decode b_S_requirePatterns 14 = .ok (.dup, 1) := by decide +kernel
theorem d_S_requirePatterns_15 : decode b_S_requirePatterns 15 = .ok (.ldc 181, 2) := by decide +kernel
theorem d_S_requirePatterns_17 : decode b_S_requirePatterns 17 = .ok (.invokespecial 46, 3) := by decide +kernel
theorem d_S_requirePatterns_20 : decode b_S_requirePatterns 20 = .ok (.athrow, 1) := by decide +kernel
theorem d_S_requirePatterns_21 : decode b_S_requirePatterns 21 = .ok (.return_, 1) := by decide +kernel
theorem d_S_requireLine_0 : decode b_S_requireLine 0 = .ok (.iload_n 1, 1) := by decide +kernel
theorem d_S_requireLine_1 : decode b_S_requireLine 1 = .ok (.ifCond .lt (14), 3) := by decide +kernel
theorem d_S_requireLine_4 : decode b_S_requireLine 4 = .ok (.iload_n 1, 1) := by decide +kernel
theorem d_S_requireLine_5 : decode b_S_requireLine 5 = .ok (.aload_n 0, 1) := by decide +kernel
theorem d_S_requireLine_6 : decode b_S_requireLine 6 = .ok (.getfield 19, 3) := by decide +kernel
theorem d_S_requireLine_9 : decode b_S_requireLine 9 = .ok (.invokevirtual 183, 3) := by decide +kernel
theorem d_S_requireLine_12 : decode b_S_requireLine 12 = .ok (.if_icmp .lt (13), 3) := by decide +kernel
theorem d_S_requireLine_15 : decode b_S_requireLine 15 = .ok (.new 144, 3) := by decide +kernel
theorem d_S_requireLine_18 : decode b_S_requireLine 18 = .ok (.dup, 1) := by decide +kernel
theorem d_S_requireLine_19 : decode b_S_requireLine 19 = .ok (.ldc 186, 2) := by decide +kernel
theorem d_S_requireLine_21 : decode b_S_requireLine 21 = .ok (.invokespecial 148, 3) := by decide +kernel
theorem d_S_requireLine_24 : decode b_S_requireLine 24 = .ok (.athrow, 1) := by decide +kernel
theorem d_S_requireLine_25 : decode b_S_requireLine 25 = .ok (.return_, 1) := by decide +kernel
theorem d_S_requireFault_0 : decode b_S_requireFault 0 = .ok (.iload_n 1, 1) := by decide +kernel
theorem d_S_requireFault_1 : decode b_S_requireFault 1 = .ok (.ifCond .lt (14), 3) := by decide +kernel
theorem d_S_requireFault_4 : decode b_S_requireFault 4 = .ok (.iload_n 1, 1) := by decide +kernel
theorem d_S_requireFault_5 : decode b_S_requireFault 5 = .ok (.aload_n 0, 1) := by decide +kernel
theorem d_S_requireFault_6 : decode b_S_requireFault 6 = .ok (.getfield 19, 3) := by decide +kernel
theorem d_S_requireFault_9 : decode b_S_requireFault 9 = .ok (.invokevirtual 149, 3) := by decide +kernel
theorem d_S_requireFault_12 : decode b_S_requireFault 12 = .ok (.if_icmp .lt (13), 3) := by decide +kernel
theorem d_S_requireFault_15 : decode b_S_requireFault 15 = .ok (.new 144, 3) := by decide +kernel
theorem d_S_requireFault_18 : decode b_S_requireFault 18 = .ok (.dup, 1) := by decide +kernel
theorem d_S_requireFault_19 : decode b_S_requireFault 19 = .ok (.ldc 188, 2) := by decide +kernel
theorem d_S_requireFault_21 : decode b_S_requireFault 21 = .ok (.invokespecial 148, 3) := by decide +kernel
theorem d_S_requireFault_24 : decode b_S_requireFault 24 = .ok (.athrow, 1) := by decide +kernel
theorem d_S_requireFault_25 : decode b_S_requireFault 25 = .ok (.return_, 1) := by decide +kernel
theorem d_S_requireFaultOrNone_0 : decode b_S_requireFaultOrNone 0 = .ok (.iload_n 1, 1) := by decide +kernel
theorem d_S_requireFaultOrNone_1 : decode b_S_requireFaultOrNone 1 = .ok (.iconst (-1), 1) := by decide +kernel
theorem d_S_requireFaultOrNone_2 : decode b_S_requireFaultOrNone 2 = .ok (.if_icmp .eq (8), 3) := by decide +kernel
theorem d_S_requireFaultOrNone_5 : decode b_S_requireFaultOrNone 5 = .ok (.aload_n 0, 1) := by decide +kernel
theorem d_S_requireFaultOrNone_6 : decode b_S_requireFaultOrNone 6 = .ok (.iload_n 1, 1) := by decide +kernel
theorem d_S_requireFaultOrNone_7 : decode b_S_requireFaultOrNone 7 = .ok (.invokevirtual 170, 3) := by decide +kernel
theorem d_S_requireFaultOrNone_10 : decode b_S_requireFaultOrNone 10 = .ok (.return_, 1) := by decide +kernel
theorem d_S_patternOf_0 : decode b_S_patternOf 0 = .ok (.iconst (0), 1) := by decide +kernel
theorem d_S_patternOf_1 : decode b_S_patternOf 1 = .ok (.istore_n 3, 1) := by decide +kernel
theorem d_S_patternOf_2 : decode b_S_patternOf 2 = .ok (.iconst (0), 1) := by decide +kernel
theorem d_S_patternOf_3 : decode b_S_patternOf 3 = .ok (.istore 4, 2) := by decide +kernel
theorem d_S_patternOf_5 : decode b_S_patternOf 5 = .ok (.iload 4, 2) := by decide +kernel
theorem d_S_patternOf_7 : decode b_S_patternOf 7 = .ok (.aload_n 0, 1) := by decide +kernel
theorem d_S_patternOf_8 : decode b_S_patternOf 8 = .ok (.getfield 19, 3) := by decide +kernel
theorem d_S_patternOf_11 : decode b_S_patternOf 11 = .ok (.getfield 97, 3) := by decide +kernel
theorem d_S_patternOf_14 : decode b_S_patternOf 14 = .ok (.if_icmp .ge (29), 3) := by decide +kernel
theorem d_S_patternOf_17 : decode b_S_patternOf 17 = .ok (.iload_n 3, 1) := by decide +kernel
theorem d_S_patternOf_18 : decode b_S_patternOf 18 = .ok (.lload_n 1, 1) := by decide +kernel
theorem d_S_patternOf_19 : decode b_S_patternOf 19 = .ok (.aload_n 0, 1) := by decide +kernel
theorem d_S_patternOf_20 : decode b_S_patternOf 20 = .ok (.getfield 30, 3) := by decide +kernel
theorem d_S_patternOf_23 : decode b_S_patternOf 23 = .ok (.iload 4, 2) := by decide +kernel
theorem d_S_patternOf_25 : decode b_S_patternOf 25 = .ok (.laload, 1) := by decide +kernel
theorem d_S_patternOf_26 : decode b_S_patternOf 26 = .ok (.land, 1) := by decide +kernel
theorem d_S_patternOf_27 : decode b_S_patternOf 27 = .ok (.invokestatic 159, 3) := by decide +kernel
theorem d_S_patternOf_30 : decode b_S_patternOf 30 = .ok (.iconst (1), 1) := by decide +kernel
theorem d_S_patternOf_31 : decode b_S_patternOf 31 = .ok (.iand, 1) := by decide +kernel
theorem d_S_patternOf_32 : decode b_S_patternOf 32 = .ok (.iload 4, 2) := by decide +kernel
theorem d_S_patternOf_34 : decode b_S_patternOf 34 = .ok (.ishl, 1) := by decide +kernel
theorem d_S_patternOf_35 : decode b_S_patternOf 35 = .ok (.ior, 1) := by decide +kernel
theorem d_S_patternOf_36 : decode b_S_patternOf 36 = .ok (.istore_n 3, 1) := by decide +kernel
theorem d_S_patternOf_37 : decode b_S_patternOf 37 = .ok (.iinc 4 (1), 3) := by decide +kernel
theorem d_S_patternOf_40 : decode b_S_patternOf 40 = .ok (.goto (-35), 3) := by decide +kernel
theorem d_S_patternOf_43 : decode b_S_patternOf 43 = .ok (.iload_n 3, 1) := by decide +kernel
theorem d_S_patternOf_44 : decode b_S_patternOf 44 = .ok (.ireturn, 1) := by decide +kernel
theorem d_S_compareAllFaults_0 : decode b_S_compareAllFaults 0 = .ok (.aload_n 0, 1) := by decide +kernel
theorem d_S_compareAllFaults_1 : decode b_S_compareAllFaults 1 = .ok (.getfield 26, 3) := by decide +kernel
theorem d_S_compareAllFaults_4 : decode b_S_compareAllFaults 4 = .ok (.invokevirtual 190, 3) := by decide +kernel
theorem d_S_compareAllFaults_7 : decode b_S_compareAllFaults 7 = .ok (.aload_n 0, 1) := by decide +kernel
theorem d_S_compareAllFaults_8 : decode b_S_compareAllFaults 8 = .ok (.getfield 34, 3) := by decide +kernel
theorem d_S_compareAllFaults_11 : decode b_S_compareAllFaults 11 = .ok (.lstore_n 2, 1) := by decide +kernel
theorem d_S_compareAllFaults_12 : decode b_S_compareAllFaults 12 = .ok (.iconst (0), 1) := by decide +kernel
theorem d_S_compareAllFaults_13 : decode b_S_compareAllFaults 13 = .ok (.istore 4, 2) := by decide +kernel
theorem d_S_compareAllFaults_15 : decode b_S_compareAllFaults 15 = .ok (.iload 4, 2) := by decide +kernel
theorem d_S_compareAllFaults_17 : decode b_S_compareAllFaults 17 = .ok (.iload_n 1, 1) := by decide +kernel
theorem d_S_compareAllFaults_18 : decode b_S_compareAllFaults 18 = .ok (.if_icmp .ge (52), 3) := by decide +kernel
theorem d_S_compareAllFaults_21 : decode b_S_compareAllFaults 21 = .ok (.aload_n 0, 1) := by decide +kernel
theorem d_S_compareAllFaults_22 : decode b_S_compareAllFaults 22 = .ok (.getfield 26, 3) := by decide +kernel
theorem d_S_compareAllFaults_25 : decode b_S_compareAllFaults 25 = .ok (.invokevirtual 193, 3) := by decide +kernel
theorem d_S_compareAllFaults_28 : decode b_S_compareAllFaults 28 = .ok (.aload_n 0, 1) := by decide +kernel
theorem d_S_compareAllFaults_29 : decode b_S_compareAllFaults 29 = .ok (.getfield 26, 3) := by decide +kernel
theorem d_S_compareAllFaults_32 : decode b_S_compareAllFaults 32 = .ok (.aload_n 0, 1) := by decide +kernel
theorem d_S_compareAllFaults_33 : decode b_S_compareAllFaults 33 = .ok (.getfield 19, 3) := by decide +kernel
theorem d_S_compareAllFaults_36 : decode b_S_compareAllFaults 36 = .ok (.aload_n 0, 1) := by decide +kernel
theorem d_S_compareAllFaults_37 : decode b_S_compareAllFaults 37 = .ok (.lload_n 2, 1) := by decide +kernel
theorem d_S_compareAllFaults_38 : decode b_S_compareAllFaults 38 = .ok (.invokevirtual 105, 3) := by decide +kernel
theorem d_S_compareAllFaults_41 : decode b_S_compareAllFaults 41 = .ok (.invokevirtual 196, 3) := by decide +kernel
theorem d_S_compareAllFaults_44 : decode b_S_compareAllFaults 44 = .ok (.aload_n 0, 1) := by decide +kernel
theorem d_S_compareAllFaults_45 : decode b_S_compareAllFaults 45 = .ok (.getfield 26, 3) := by decide +kernel
theorem d_S_compareAllFaults_48 : decode b_S_compareAllFaults 48 = .ok (.aload_n 0, 1) := by decide +kernel
theorem d_S_compareAllFaults_49 : decode b_S_compareAllFaults 49 = .ok (.getfield 12, 3) := by decide +kernel
theorem d_S_compareAllFaults_52 : decode b_S_compareAllFaults 52 = .ok (.invokevirtual 200, 3) := by decide +kernel
theorem d_S_compareAllFaults_55 : decode b_S_compareAllFaults 55 = .ok (.aload_n 0, 1) := by decide +kernel
theorem d_S_compareAllFaults_56 : decode b_S_compareAllFaults 56 = .ok (.getfield 12, 3) := by decide +kernel
theorem d_S_compareAllFaults_59 : decode b_S_compareAllFaults 59 = .ok (.lload_n 2, 1) := by decide +kernel
theorem d_S_compareAllFaults_60 : decode b_S_compareAllFaults 60 = .ok (.invokevirtual 141, 3) := by decide +kernel
theorem d_S_compareAllFaults_63 : decode b_S_compareAllFaults 63 = .ok (.lstore_n 2, 1) := by decide +kernel
theorem d_S_compareAllFaults_64 : decode b_S_compareAllFaults 64 = .ok (.iinc 4 (1), 3) := by decide +kernel
theorem d_S_compareAllFaults_67 : decode b_S_compareAllFaults 67 = .ok (.goto (-52), 3) := by decide +kernel
theorem d_S_compareAllFaults_70 : decode b_S_compareAllFaults 70 = .ok (.return_, 1) := by decide +kernel
theorem d_S_lowestBit_0 : decode b_S_lowestBit 0 = .ok (.lload_n 0, 1) := by decide +kernel
theorem d_S_lowestBit_1 : decode b_S_lowestBit 1 = .ok (.lconst 0, 1) := by decide +kernel
theorem d_S_lowestBit_2 : decode b_S_lowestBit 2 = .ok (.lcmp, 1) := by decide +kernel
theorem d_S_lowestBit_3 : decode b_S_lowestBit 3 = .ok (.ifCond .ne (7), 3) := by decide +kernel
theorem d_S_lowestBit_6 : decode b_S_lowestBit 6 = .ok (.iconst (-1), 1) := by decide +kernel
theorem d_S_lowestBit_7 : decode b_S_lowestBit 7 = .ok (.goto (7), 3) := by decide +kernel
theorem d_S_lowestBit_10 : decode b_S_lowestBit 10 = .ok (.lload_n 0, 1) := by decide +kernel
theorem d_S_lowestBit_11 : decode b_S_lowestBit 11 = .ok (.invokestatic 204, 3) := by decide +kernel
theorem d_S_lowestBit_14 : decode b_S_lowestBit 14 = .ok (.ireturn, 1) := by decide +kernel
theorem d_O_init_0 : decode b_O_init 0 = .ok (.aload_n 0, 1) := by decide +kernel
theorem d_O_init_1 : decode b_O_init 1 = .ok (.invokespecial 1, 3) := by decide +kernel
theorem d_O_init_4 : decode b_O_init 4 = .ok (.aload_n 0, 1) := by decide +kernel
theorem d_O_init_5 : decode b_O_init 5 = .ok (.ldc2_w 7, 3) := by decide +kernel
theorem d_O_init_8 : decode b_O_init 8 = .ok (.putfield 9, 3) := by decide +kernel
theorem d_O_init_11 : decode b_O_init 11 = .ok (.aload_n 0, 1) := by decide +kernel
theorem d_O_init_12 : decode b_O_init 12 = .ok (.iconst (1), 1) := by decide +kernel
theorem d_O_init_13 : decode b_O_init 13 = .ok (.putfield 15, 3) := by decide +kernel
theorem d_O_init_16 : decode b_O_init 16 = .ok (.aload_n 0, 1) := by decide +kernel
theorem d_O_init_17 : decode b_O_init 17 = .ok (.lconst 1, 1) := by decide +kernel
theorem d_O_init_18 : decode b_O_init 18 = .ok (.putfield 19, 3) := by decide +kernel
theorem d_O_init_21 : decode b_O_init 21 = .ok (.aload_n 0, 1) := by decide +kernel
theorem d_O_init_22 : decode b_O_init 22 = .ok (.bipush (8), 2) := by decide +kernel
theorem d_O_init_24 : decode b_O_init 24 = .ok (.newarray .long, 2) := by decide +kernel
theorem d_O_init_26 : decode b_O_init 26 = .ok (.putfield 22, 3) := by decide +kernel
theorem d_O_init_29 : decode b_O_init 29 = .ok (.aload_n 0, 1) := by decide +kernel
theorem d_O_init_30 : decode b_O_init 30 = .ok (.bipush (24), 2) := by decide +kernel
theorem d_O_init_32 : decode b_O_init 32 = .ok (.newarray .int, 2) := by decide +kernel
theorem d_O_init_34 : decode b_O_init 34 = .ok (.putfield 26, 3) := by decide +kernel
theorem d_O_init_37 : decode b_O_init 37 = .ok (.aload_n 0, 1) := by decide +kernel
theorem d_O_init_38 : decode b_O_init 38 = .ok (.bipush (24), 2) := by decide +kernel
theorem d_O_init_40 : decode b_O_init 40 = .ok (.newarray .int, 2) := by decide +kernel
theorem d_O_init_42 : decode b_O_init 42 = .ok (.putfield 30, 3) := by decide +kernel
theorem d_O_init_45 : decode b_O_init 45 = .ok (.aload_n 0, 1) := by decide +kernel
theorem d_O_init_46 : decode b_O_init 46 = .ok (.bipush (24), 2) := by decide +kernel
theorem d_O_init_48 : decode b_O_init 48 = .ok (.newarray .int, 2) := by decide +kernel
theorem d_O_init_50 : decode b_O_init 50 = .ok (.putfield 33, 3) := by decide +kernel
theorem d_O_init_53 : decode b_O_init 53 = .ok (.aload_n 0, 1) := by decide +kernel
theorem d_O_init_54 : decode b_O_init 54 = .ok (.bipush (16), 2) := by decide +kernel
theorem d_O_init_56 : decode b_O_init 56 = .ok (.newarray .int, 2) := by decide +kernel
theorem d_O_init_58 : decode b_O_init 58 = .ok (.putfield 36, 3) := by decide +kernel
theorem d_O_init_61 : decode b_O_init 61 = .ok (.aload_n 0, 1) := by decide +kernel
theorem d_O_init_62 : decode b_O_init 62 = .ok (.bipush (32), 2) := by decide +kernel
theorem d_O_init_64 : decode b_O_init 64 = .ok (.newarray .int, 2) := by decide +kernel
theorem d_O_init_66 : decode b_O_init 66 = .ok (.putfield 39, 3) := by decide +kernel
theorem d_O_init_69 : decode b_O_init 69 = .ok (.aload_n 0, 1) := by decide +kernel
theorem d_O_init_70 : decode b_O_init 70 = .ok (.sipush (256), 3) := by decide +kernel
theorem d_O_init_73 : decode b_O_init 73 = .ok (.newarray .int, 2) := by decide +kernel
theorem d_O_init_75 : decode b_O_init 75 = .ok (.putfield 42, 3) := by decide +kernel
theorem d_O_init_78 : decode b_O_init 78 = .ok (.aload_n 0, 1) := by decide +kernel
theorem d_O_init_79 : decode b_O_init 79 = .ok (.sipush (256), 3) := by decide +kernel
theorem d_O_init_82 : decode b_O_init 82 = .ok (.newarray .int, 2) := by decide +kernel
theorem d_O_init_84 : decode b_O_init 84 = .ok (.putfield 45, 3) := by decide +kernel
theorem d_O_init_87 : decode b_O_init 87 = .ok (.return_, 1) := by decide +kernel
theorem d_O_thrown_0 : decode b_O_thrown 0 = .ok (.aload_n 0, 1) := by decide +kernel
theorem d_O_thrown_1 : decode b_O_thrown 1 = .ok (.getfield 48, 3) := by decide +kernel
theorem d_O_thrown_4 : decode b_O_thrown 4 = .ok (.ireturn, 1) := by decide +kernel
theorem d_O_refused_0 : decode b_O_refused 0 = .ok (.aload_n 0, 1) := by decide +kernel
theorem d_O_refused_1 : decode b_O_refused 1 = .ok (.iload_n 1, 1) := by decide +kernel
theorem d_O_refused_2 : decode b_O_refused 2 = .ok (.putfield 48, 3) := by decide +kernel
theorem d_O_refused_5 : decode b_O_refused 5 = .ok (.iload_n 1, 1) := by decide +kernel
theorem d_O_refused_6 : decode b_O_refused 6 = .ok (.ifCond .le (7), 3) := by decide +kernel
theorem d_O_refused_9 : decode b_O_refused 9 = .ok (.iconst (1), 1) := by decide +kernel
theorem d_O_refused_10 : decode b_O_refused 10 = .ok (.goto (4), 3) := by decide +kernel
theorem d_O_refused_13 : decode b_O_refused 13 = .ok (.iconst (0), 1) := by decide +kernel
theorem d_O_refused_14 : decode b_O_refused 14 = .ok (.ireturn, 1) := by decide +kernel
theorem d_O_clearCircuit_0 : decode b_O_clearCircuit 0 = .ok (.aload_n 0, 1) := by decide +kernel
theorem d_O_clearCircuit_1 : decode b_O_clearCircuit 1 = .ok (.iconst (0), 1) := by decide +kernel
theorem d_O_clearCircuit_2 : decode b_O_clearCircuit 2 = .ok (.putfield 51, 3) := by decide +kernel
theorem d_O_clearCircuit_5 : decode b_O_clearCircuit 5 = .ok (.aload_n 0, 1) := by decide +kernel
theorem d_O_clearCircuit_6 : decode b_O_clearCircuit 6 = .ok (.iconst (0), 1) := by decide +kernel
theorem d_O_clearCircuit_7 : decode b_O_clearCircuit 7 = .ok (.putfield 54, 3) := by decide +kernel
theorem d_O_clearCircuit_10 : decode b_O_clearCircuit 10 = .ok (.return_, 1) := by decide +kernel
theorem d_O_polynomial_0 : decode b_O_polynomial 0 = .ok (.iconst (-1), 1) := by decide +kernel
theorem d_O_polynomial_1 : decode b_O_polynomial 1 = .ok (.istore_n 3, 1) := by decide +kernel
theorem d_O_polynomial_2 : decode b_O_polynomial 2 = .ok (.iconst (0), 1) := by decide +kernel
theorem d_O_polynomial_3 : decode b_O_polynomial 3 = .ok (.istore 4, 2) := by decide +kernel
theorem d_O_polynomial_5 : decode b_O_polynomial 5 = .ok (.iload 4, 2) := by decide +kernel
theorem d_O_polynomial_7 : decode b_O_polynomial 7 = .ok (.bipush (64), 2) := by decide +kernel
theorem d_O_polynomial_9 : decode b_O_polynomial 9 = .ok (.if_icmp .ge (27), 3) := by decide +kernel
theorem d_O_polynomial_12 : decode b_O_polynomial 12 = .ok (.lload_n 1, 1) := by decide +kernel
theorem d_O_polynomial_13 : decode b_O_polynomial 13 = .ok (.iload 4, 2) := by decide +kernel
theorem d_O_polynomial_15 : decode b_O_polynomial 15 = .ok (.lshr, 1) := by decide +kernel
theorem d_O_polynomial_16 : decode b_O_polynomial 16 = .ok (.lconst 1, 1) := by decide +kernel
theorem d_O_polynomial_17 : decode b_O_polynomial 17 = .ok (.land, 1) := by decide +kernel
theorem d_O_polynomial_18 : decode b_O_polynomial 18 = .ok (.lconst 1, 1) := by decide +kernel
theorem d_O_polynomial_19 : decode b_O_polynomial 19 = .ok (.lcmp, 1) := by decide +kernel
theorem d_O_polynomial_20 : decode b_O_polynomial 20 = .ok (.ifCond .ne (8), 3) := by decide +kernel
theorem d_O_polynomial_23 : decode b_O_polynomial 23 = .ok (.iload 4, 2) := by decide +kernel
theorem d_O_polynomial_25 : decode b_O_polynomial 25 = .ok (.goto (4), 3) := by decide +kernel
theorem d_O_polynomial_28 : decode b_O_polynomial 28 = .ok (.iload_n 3, 1) := by decide +kernel
theorem d_O_polynomial_29 : decode b_O_polynomial 29 = .ok (.istore_n 3, 1) := by decide +kernel
theorem d_O_polynomial_30 : decode b_O_polynomial 30 = .ok (.iinc 4 (1), 3) := by decide +kernel
theorem d_O_polynomial_33 : decode b_O_polynomial 33 = .ok (.goto (-28), 3) := by decide +kernel
theorem d_O_polynomial_36 : decode b_O_polynomial 36 = .ok (.aload_n 0, 1) := by decide +kernel
theorem d_O_polynomial_37 : decode b_O_polynomial 37 = .ok (.iload_n 3, 1) := by decide +kernel
theorem d_O_polynomial_38 : decode b_O_polynomial 38 = .ok (.iconst (1), 1) := by decide +kernel
theorem d_O_polynomial_39 : decode b_O_polynomial 39 = .ok (.if_icmp .lt (17), 3) := by decide +kernel
theorem d_O_polynomial_42 : decode b_O_polynomial 42 = .ok (.iload_n 3, 1) := by decide +kernel
theorem d_O_polynomial_43 : decode b_O_polynomial 43 = .ok (.bipush (32), 2) := by decide +kernel
theorem d_O_polynomial_45 : decode b_O_polynomial 45 = .ok (.if_icmp .gt (11), 3) := by decide +kernel
theorem d_O_polynomial_48 : decode b_O_polynomial 48 = .ok (.lload_n 1, 1) := by decide +kernel
theorem d_O_polynomial_49 : decode b_O_polynomial 49 = .ok (.lconst 1, 1) := by decide +kernel
theorem d_O_polynomial_50 : decode b_O_polynomial 50 = .ok (.land, 1) := by decide +kernel
theorem d_O_polynomial_51 : decode b_O_polynomial 51 = .ok (.lconst 0, 1) := by decide +kernel
theorem d_O_polynomial_52 : decode b_O_polynomial 52 = .ok (.lcmp, 1) := by decide +kernel
theorem d_O_polynomial_53 : decode b_O_polynomial 53 = .ok (.ifCond .ne (7), 3) := by decide +kernel
theorem d_O_polynomial_56 : decode b_O_polynomial 56 = .ok (.iconst (1), 1) := by decide +kernel
theorem d_O_polynomial_57 : decode b_O_polynomial 57 = .ok (.goto (4), 3) := by decide +kernel
theorem d_O_polynomial_60 : decode b_O_polynomial 60 = .ok (.iconst (0), 1) := by decide +kernel
theorem d_O_polynomial_61 : decode b_O_polynomial 61 = .ok (.invokevirtual 57, 3) := by decide +kernel
theorem d_O_polynomial_64 : decode b_O_polynomial 64 = .ok (.ifCond .eq (5), 3) := by decide +kernel
theorem d_O_polynomial_67 : decode b_O_polynomial 67 = .ok (.iconst (0), 1) := by decide +kernel
theorem d_O_polynomial_68 : decode b_O_polynomial 68 = .ok (.ireturn, 1) := by decide +kernel
theorem d_O_polynomial_69 : decode b_O_polynomial 69 = .ok (.aload_n 0, 1) := by decide +kernel
theorem d_O_polynomial_70 : decode b_O_polynomial 70 = .ok (.lload_n 1, 1) := by decide +kernel
theorem d_O_polynomial_71 : decode b_O_polynomial 71 = .ok (.putfield 9, 3) := by decide +kernel
theorem d_O_polynomial_74 : decode b_O_polynomial 74 = .ok (.aload_n 0, 1) := by decide +kernel
theorem d_O_polynomial_75 : decode b_O_polynomial 75 = .ok (.iload_n 3, 1) := by decide +kernel
theorem d_O_polynomial_76 : decode b_O_polynomial 76 = .ok (.putfield 15, 3) := by decide +kernel
theorem d_O_polynomial_79 : decode b_O_polynomial 79 = .ok (.aload_n 0, 1) := by decide +kernel
theorem d_O_polynomial_80 : decode b_O_polynomial 80 = .ok (.lconst 1, 1) := by decide +kernel
theorem d_O_polynomial_81 : decode b_O_polynomial 81 = .ok (.putfield 19, 3) := by decide +kernel
theorem d_O_polynomial_84 : decode b_O_polynomial 84 = .ok (.aload_n 0, 1) := by decide +kernel
theorem d_O_polynomial_85 : decode b_O_polynomial 85 = .ok (.iconst (0), 1) := by decide +kernel
theorem d_O_polynomial_86 : decode b_O_polynomial 86 = .ok (.putfield 61, 3) := by decide +kernel
theorem d_O_polynomial_89 : decode b_O_polynomial 89 = .ok (.aload_n 0, 1) := by decide +kernel
theorem d_O_polynomial_90 : decode b_O_polynomial 90 = .ok (.lconst 0, 1) := by decide +kernel
theorem d_O_polynomial_91 : decode b_O_polynomial 91 = .ok (.putfield 64, 3) := by decide +kernel
theorem d_O_polynomial_94 : decode b_O_polynomial 94 = .ok (.aload_n 0, 1) := by decide +kernel
theorem d_O_polynomial_95 : decode b_O_polynomial 95 = .ok (.iconst (0), 1) := by decide +kernel
theorem d_O_polynomial_96 : decode b_O_polynomial 96 = .ok (.putfield 67, 3) := by decide +kernel
theorem d_O_polynomial_99 : decode b_O_polynomial 99 = .ok (.aload_n 0, 1) := by decide +kernel
theorem d_O_polynomial_100 : decode b_O_polynomial 100 = .ok (.invokevirtual 70, 3) := by decide +kernel
theorem d_O_polynomial_103 : decode b_O_polynomial 103 = .ok (.iload_n 3, 1) := by decide +kernel
theorem d_O_polynomial_104 : decode b_O_polynomial 104 = .ok (.ireturn, 1) := by decide +kernel
theorem d_O_isResidue_0 : decode b_O_isResidue 0 = .ok (.lload_n 1, 1) := by decide +kernel
theorem d_O_isResidue_1 : decode b_O_isResidue 1 = .ok (.lconst 0, 1) := by decide +kernel
theorem d_O_isResidue_2 : decode b_O_isResidue 2 = .ok (.lcmp, 1) := by decide +kernel
theorem d_O_isResidue_3 : decode b_O_isResidue 3 = .ok (.ifCond .lt (18), 3) := by decide +kernel
theorem d_O_isResidue_6 : decode b_O_isResidue 6 = .ok (.lload_n 1, 1) := by decide +kernel
theorem d_O_isResidue_7 : decode b_O_isResidue 7 = .ok (.lconst 1, 1) := by decide +kernel
theorem d_O_isResidue_8 : decode b_O_isResidue 8 = .ok (.aload_n 0, 1) := by decide +kernel
theorem d_O_isResidue_9 : decode b_O_isResidue 9 = .ok (.getfield 15, 3) := by decide +kernel
theorem d_O_isResidue_12 : decode b_O_isResidue 12 = .ok (.lshl, 1) := by decide +kernel
theorem d_O_isResidue_13 : decode b_O_isResidue 13 = .ok (.lcmp, 1) := by decide +kernel
theorem d_O_isResidue_14 : decode b_O_isResidue 14 = .ok (.ifCond .ge (7), 3) := by decide +kernel
theorem d_O_isResidue_17 : decode b_O_isResidue 17 = .ok (.iconst (1), 1) := by decide +kernel
theorem d_O_isResidue_18 : decode b_O_isResidue 18 = .ok (.goto (4), 3) := by decide +kernel
theorem d_O_isResidue_21 : decode b_O_isResidue 21 = .ok (.iconst (0), 1) := by decide +kernel
theorem d_O_isResidue_22 : decode b_O_isResidue 22 = .ok (.ireturn, 1) := by decide +kernel
theorem d_O_step_0 : decode b_O_step 0 = .ok (.ldc2_w 73, 3) := by decide +kernel
theorem d_O_step_3 : decode b_O_step 3 = .ok (.lload_n 1, 1) := by decide +kernel
theorem d_O_step_4 : decode b_O_step 4 = .ok (.lmul, 1) := by decide +kernel
theorem d_O_step_5 : decode b_O_step 5 = .ok (.lstore_n 3, 1) := by decide +kernel
theorem d_O_step_6 : decode b_O_step 6 = .ok (.lload_n 3, 1) := by decide +kernel
theorem d_O_step_7 : decode b_O_step 7 = .ok (.aload_n 0, 1) := by decide +kernel
theorem d_O_step_8 : decode b_O_step 8 = .ok (.getfield 15, 3) := by decide +kernel
theorem d_O_step_11 : decode b_O_step 11 = .ok (.lshr, 1) := by decide +kernel
theorem d_O_step_12 : decode b_O_step 12 = .ok (.lconst 1, 1) := by decide +kernel
theorem d_O_step_13 : decode b_O_step 13 = .ok (.land, 1) := by decide +kernel
theorem d_O_step_14 : decode b_O_step 14 = .ok (.lconst 1, 1) := by decide +kernel
theorem d_O_step_15 : decode b_O_step 15 = .ok (.lcmp, 1) := by decide +kernel
theorem d_O_step_16 : decode b_O_step 16 = .ok (.ifCond .ne (12), 3) := by decide +kernel
theorem d_O_step_19 : decode b_O_step 19 = .ok (.lload_n 3, 1) := by decide +kernel
theorem d_O_step_20 : decode b_O_step 20 = .ok (.aload_n 0, 1) := by decide +kernel
theorem d_O_step_21 : decode b_O_step 21 = .ok (.getfield 9, 3) := by decide +kernel
theorem d_O_step_24 : decode b_O_step 24 = .ok (.lxor, 1) := by decide +kernel
theorem d_O_step_25 : decode b_O_step 25 = .ok (.goto (4), 3) := by decide +kernel
theorem d_O_step_28 : decode b_O_step 28 = .ok (.lload_n 3, 1) := by decide +kernel
theorem d_O_step_29 : decode b_O_step 29 = .ok (.lreturn, 1) := by decide +kernel
theorem d_O_product_0 : decode b_O_product 0 = .ok (.lconst 0, 1) := by decide +kernel
theorem d_O_product_1 : decode b_O_product 1 = .ok (.lstore 5, 2) := by decide +kernel
theorem d_O_product_3 : decode b_O_product 3 = .ok (.aload_n 0, 1) := by decide +kernel
theorem d_O_product_4 : decode b_O_product 4 = .ok (.getfield 15, 3) := by decide +kernel
theorem d_O_product_7 : decode b_O_product 7 = .ok (.iconst (1), 1) := by decide +kernel
theorem d_O_product_8 : decode b_O_product 8 = .ok (.isub, 1) := by decide +kernel
theorem d_O_product_9 : decode b_O_product 9 = .ok (.istore 7, 2) := by decide +kernel
theorem d_O_product_11 : decode b_O_product 11 = .ok (.iload 7, 2) := by decide +kernel
theorem d_O_product_13 : decode b_O_product 13 = .ok (.ifCond .lt (39), 3) := by decide +kernel
theorem d_O_product_16 : decode b_O_product 16 = .ok (.aload_n 0, 1) := by decide +kernel
theorem d_O_product_17 : decode b_O_product 17 = .ok (.lload 5, 2) := by decide +kernel
theorem d_O_product_19 : decode b_O_product 19 = .ok (.invokevirtual 75, 3) := by decide +kernel
theorem d_O_product_22 : decode b_O_product 22 = .ok (.lstore 5, 2) := by decide +kernel
theorem d_O_product_24 : decode b_O_product 24 = .ok (.lload_n 3, 1) := by decide +kernel
theorem d_O_product_25 : decode b_O_product 25 = .ok (.iload 7, 2) := by decide +kernel
theorem d_O_product_27 : decode b_O_product 27 = .ok (.lshr, 1) := by decide +kernel
theorem d_O_product_28 : decode b_O_product 28 = .ok (.lconst 1, 1) := by decide +kernel
theorem d_O_product_29 : decode b_O_product 29 = .ok (.land, 1) := by decide +kernel
theorem d_O_product_30 : decode b_O_product 30 = .ok (.lconst 1, 1) := by decide +kernel
theorem d_O_product_31 : decode b_O_product 31 = .ok (.lcmp, 1) := by decide +kernel
theorem d_O_product_32 : decode b_O_product 32 = .ok (.ifCond .ne (10), 3) := by decide +kernel
theorem d_O_product_35 : decode b_O_product 35 = .ok (.lload 5, 2) := by decide +kernel
theorem d_O_product_37 : decode b_O_product 37 = .ok (.lload_n 1, 1) := by decide +kernel
theorem d_O_product_38 : decode b_O_product 38 = .ok (.lxor, 1) := by decide +kernel
theorem d_O_product_39 : decode b_O_product 39 = .ok (.goto (5), 3) := by decide +kernel
theorem d_O_product_42 : decode b_O_product 42 = .ok (.lload 5, 2) := by decide +kernel
theorem d_O_product_44 : decode b_O_product 44 = .ok (.lstore 5, 2) := by decide +kernel
theorem d_O_product_46 : decode b_O_product 46 = .ok (.iinc 7 (-1), 3) := by decide +kernel
theorem d_O_product_49 : decode b_O_product 49 = .ok (.goto (-38), 3) := by decide +kernel
theorem d_O_product_52 : decode b_O_product 52 = .ok (.lload 5, 2) := by decide +kernel
