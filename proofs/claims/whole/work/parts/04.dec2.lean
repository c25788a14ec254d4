theorem d_O_answerTo_113 : decode b_O_answerTo 113 = .ok (.iconst (0), 1) := by decide +kernel
theorem d_O_answerTo_114 : decode b_O_answerTo 114 = .ok (.istore 4, 2) := by decide +kernel
theorem d_O_answerTo_116 : decode b_O_answerTo 116 = .ok (.iload 4, 2) := by decide +kernel
theorem d_O_answerTo_118 : decode b_O_answerTo 118 = .ok (.aload_n 0, 1) := by decide +kernel
theorem d_O_answerTo_119 : decode b_O_answerTo 119 = .ok (.getfield 54, 3) := by decide +kernel
theorem d_O_answerTo_122 : decode b_O_answerTo 122 = .ok (.if_icmp .ge (27), 3) := by decide +kernel
theorem d_O_answerTo_125 : decode b_O_answerTo 125 = .ok (.iload_n 3, 1) := by decide +kernel
theorem d_O_answerTo_126 : decode b_O_answerTo 126 = .ok (.aload_n 0, 1) := by decide +kernel
theorem d_O_answerTo_127 : decode b_O_answerTo 127 = .ok (.getfield 39, 3) := by decide +kernel
theorem d_O_answerTo_130 : decode b_O_answerTo 130 = .ok (.aload_n 0, 1) := by decide +kernel
theorem d_O_answerTo_131 : decode b_O_answerTo 131 = .ok (.getfield 36, 3) := by decide +kernel
theorem d_O_answerTo_134 : decode b_O_answerTo 134 = .ok (.iload 4, 2) := by decide +kernel
theorem d_O_answerTo_136 : decode b_O_answerTo 136 = .ok (.iaload, 1) := by decide +kernel
theorem d_O_answerTo_137 : decode b_O_answerTo 137 = .ok (.iaload, 1) := by decide +kernel
theorem d_O_answerTo_138 : decode b_O_answerTo 138 = .ok (.iload 4, 2) := by decide +kernel
theorem d_O_answerTo_140 : decode b_O_answerTo 140 = .ok (.ishl, 1) := by decide +kernel
theorem d_O_answerTo_141 : decode b_O_answerTo 141 = .ok (.ior, 1) := by decide +kernel
theorem d_O_answerTo_142 : decode b_O_answerTo 142 = .ok (.istore_n 3, 1) := by decide +kernel
theorem d_O_answerTo_143 : decode b_O_answerTo 143 = .ok (.iinc 4 (1), 3) := by decide +kernel
theorem d_O_answerTo_146 : decode b_O_answerTo 146 = .ok (.goto (-30), 3) := by decide +kernel
theorem d_O_answerTo_149 : decode b_O_answerTo 149 = .ok (.iload_n 3, 1) := by decide +kernel
theorem d_O_answerTo_150 : decode b_O_answerTo 150 = .ok (.ireturn, 1) := by decide +kernel
theorem d_O_isFault_0 : decode b_O_isFault 0 = .ok (.iload_n 1, 1) := by decide +kernel
theorem d_O_isFault_1 : decode b_O_isFault 1 = .ok (.ifCond .lt (22), 3) := by decide +kernel
theorem d_O_isFault_4 : decode b_O_isFault 4 = .ok (.iload_n 1, 1) := by decide +kernel
theorem d_O_isFault_5 : decode b_O_isFault 5 = .ok (.iconst (2), 1) := by decide +kernel
theorem d_O_isFault_6 : decode b_O_isFault 6 = .ok (.aload_n 0, 1) := by decide +kernel
theorem d_O_isFault_7 : decode b_O_isFault 7 = .ok (.getfield 67, 3) := by decide +kernel
theorem d_O_isFault_10 : decode b_O_isFault 10 = .ok (.aload_n 0, 1) := by decide +kernel
theorem d_O_isFault_11 : decode b_O_isFault 11 = .ok (.getfield 51, 3) := by decide +kernel
theorem d_O_isFault_14 : decode b_O_isFault 14 = .ok (.iadd, 1) := by decide +kernel
theorem d_O_isFault_15 : decode b_O_isFault 15 = .ok (.imul, 1) := by decide +kernel
theorem d_O_isFault_16 : decode b_O_isFault 16 = .ok (.if_icmp .ge (7), 3) := by decide +kernel
theorem d_O_isFault_19 : decode b_O_isFault 19 = .ok (.iconst (1), 1) := by decide +kernel
theorem d_O_isFault_20 : decode b_O_isFault 20 = .ok (.goto (4), 3) := by decide +kernel
theorem d_O_isFault_23 : decode b_O_isFault 23 = .ok (.iconst (0), 1) := by decide +kernel
theorem d_O_isFault_24 : decode b_O_isFault 24 = .ok (.ireturn, 1) := by decide +kernel
theorem d_O_answer_0 : decode b_O_answer 0 = .ok (.aload_n 0, 1) := by decide +kernel
theorem d_O_answer_1 : decode b_O_answer 1 = .ok (.iload_n 2, 1) := by decide +kernel
theorem d_O_answer_2 : decode b_O_answer 2 = .ok (.iconst (-1), 1) := by decide +kernel
theorem d_O_answer_3 : decode b_O_answer 3 = .ok (.if_icmp .eq (11), 3) := by decide +kernel
theorem d_O_answer_6 : decode b_O_answer 6 = .ok (.aload_n 0, 1) := by decide +kernel
theorem d_O_answer_7 : decode b_O_answer 7 = .ok (.iload_n 2, 1) := by decide +kernel
theorem d_O_answer_8 : decode b_O_answer 8 = .ok (.invokevirtual 114, 3) := by decide +kernel
theorem d_O_answer_11 : decode b_O_answer 11 = .ok (.ifCond .eq (7), 3) := by decide +kernel
theorem d_O_answer_14 : decode b_O_answer 14 = .ok (.iconst (0), 1) := by decide +kernel
theorem d_O_answer_15 : decode b_O_answer 15 = .ok (.goto (4), 3) := by decide +kernel
theorem d_O_answer_18 : decode b_O_answer 18 = .ok (.iconst (1), 1) := by decide +kernel
theorem d_O_answer_19 : decode b_O_answer 19 = .ok (.invokevirtual 57, 3) := by decide +kernel
theorem d_O_answer_22 : decode b_O_answer 22 = .ok (.ifCond .eq (7), 3) := by decide +kernel
theorem d_O_answer_25 : decode b_O_answer 25 = .ok (.iconst (0), 1) := by decide +kernel
theorem d_O_answer_26 : decode b_O_answer 26 = .ok (.goto (9), 3) := by decide +kernel
theorem d_O_answer_29 : decode b_O_answer 29 = .ok (.aload_n 0, 1) := by decide +kernel
theorem d_O_answer_30 : decode b_O_answer 30 = .ok (.iload_n 1, 1) := by decide +kernel
theorem d_O_answer_31 : decode b_O_answer 31 = .ok (.iload_n 2, 1) := by decide +kernel
theorem d_O_answer_32 : decode b_O_answer 32 = .ok (.invokevirtual 117, 3) := by decide +kernel
theorem d_O_answer_35 : decode b_O_answer 35 = .ok (.ireturn, 1) := by decide +kernel
theorem d_O_prepare_0 : decode b_O_prepare 0 = .ok (.aload_n 0, 1) := by decide +kernel
theorem d_O_prepare_1 : decode b_O_prepare 1 = .ok (.getfield 19, 3) := by decide +kernel
theorem d_O_prepare_4 : decode b_O_prepare 4 = .ok (.lstore_n 2, 1) := by decide +kernel
theorem d_O_prepare_5 : decode b_O_prepare 5 = .ok (.iconst (0), 1) := by decide +kernel
theorem d_O_prepare_6 : decode b_O_prepare 6 = .ok (.istore 4, 2) := by decide +kernel
theorem d_O_prepare_8 : decode b_O_prepare 8 = .ok (.iload 4, 2) := by decide +kernel
theorem d_O_prepare_10 : decode b_O_prepare 10 = .ok (.iload_n 1, 1) := by decide +kernel
theorem d_O_prepare_11 : decode b_O_prepare 11 = .ok (.if_icmp .ge (46), 3) := by decide +kernel
theorem d_O_prepare_14 : decode b_O_prepare 14 = .ok (.aload_n 0, 1) := by decide +kernel
theorem d_O_prepare_15 : decode b_O_prepare 15 = .ok (.getfield 42, 3) := by decide +kernel
theorem d_O_prepare_18 : decode b_O_prepare 18 = .ok (.iload 4, 2) := by decide +kernel
theorem d_O_prepare_20 : decode b_O_prepare 20 = .ok (.aload_n 0, 1) := by decide +kernel
theorem d_O_prepare_21 : decode b_O_prepare 21 = .ok (.lload_n 2, 1) := by decide +kernel
theorem d_O_prepare_22 : decode b_O_prepare 22 = .ok (.invokevirtual 103, 3) := by decide +kernel
theorem d_O_prepare_25 : decode b_O_prepare 25 = .ok (.iastore, 1) := by decide +kernel
theorem d_O_prepare_26 : decode b_O_prepare 26 = .ok (.aload_n 0, 1) := by decide +kernel
theorem d_O_prepare_27 : decode b_O_prepare 27 = .ok (.getfield 45, 3) := by decide +kernel
theorem d_O_prepare_30 : decode b_O_prepare 30 = .ok (.iload 4, 2) := by decide +kernel
theorem d_O_prepare_32 : decode b_O_prepare 32 = .ok (.aload_n 0, 1) := by decide +kernel
theorem d_O_prepare_33 : decode b_O_prepare 33 = .ok (.aload_n 0, 1) := by decide +kernel
theorem d_O_prepare_34 : decode b_O_prepare 34 = .ok (.getfield 42, 3) := by decide +kernel
theorem d_O_prepare_37 : decode b_O_prepare 37 = .ok (.iload 4, 2) := by decide +kernel
theorem d_O_prepare_39 : decode b_O_prepare 39 = .ok (.iaload, 1) := by decide +kernel
theorem d_O_prepare_40 : decode b_O_prepare 40 = .ok (.iconst (-1), 1) := by decide +kernel
theorem d_O_prepare_41 : decode b_O_prepare 41 = .ok (.invokevirtual 117, 3) := by decide +kernel
theorem d_O_prepare_44 : decode b_O_prepare 44 = .ok (.iastore, 1) := by decide +kernel
theorem d_O_prepare_45 : decode b_O_prepare 45 = .ok (.aload_n 0, 1) := by decide +kernel
theorem d_O_prepare_46 : decode b_O_prepare 46 = .ok (.lload_n 2, 1) := by decide +kernel
theorem d_O_prepare_47 : decode b_O_prepare 47 = .ok (.invokevirtual 75, 3) := by decide +kernel
theorem d_O_prepare_50 : decode b_O_prepare 50 = .ok (.lstore_n 2, 1) := by decide +kernel
theorem d_O_prepare_51 : decode b_O_prepare 51 = .ok (.iinc 4 (1), 3) := by decide +kernel
theorem d_O_prepare_54 : decode b_O_prepare 54 = .ok (.goto (-46), 3) := by decide +kernel
theorem d_O_prepare_57 : decode b_O_prepare 57 = .ok (.return_, 1) := by decide +kernel
theorem d_O_signature_0 : decode b_O_signature 0 = .ok (.lconst 0, 1) := by decide +kernel
theorem d_O_signature_1 : decode b_O_signature 1 = .ok (.lstore_n 3, 1) := by decide +kernel
theorem d_O_signature_2 : decode b_O_signature 2 = .ok (.iconst (0), 1) := by decide +kernel
theorem d_O_signature_3 : decode b_O_signature 3 = .ok (.istore 5, 2) := by decide +kernel
theorem d_O_signature_5 : decode b_O_signature 5 = .ok (.iload 5, 2) := by decide +kernel
theorem d_O_signature_7 : decode b_O_signature 7 = .ok (.iload_n 1, 1) := by decide +kernel
theorem d_O_signature_8 : decode b_O_signature 8 = .ok (.if_icmp .ge (33), 3) := by decide +kernel
theorem d_O_signature_11 : decode b_O_signature 11 = .ok (.aload_n 0, 1) := by decide +kernel
theorem d_O_signature_12 : decode b_O_signature 12 = .ok (.lload_n 3, 1) := by decide +kernel
theorem d_O_signature_13 : decode b_O_signature 13 = .ok (.invokevirtual 75, 3) := by decide +kernel
theorem d_O_signature_16 : decode b_O_signature 16 = .ok (.aload_n 0, 1) := by decide +kernel
theorem d_O_signature_17 : decode b_O_signature 17 = .ok (.aload_n 0, 1) := by decide +kernel
theorem d_O_signature_18 : decode b_O_signature 18 = .ok (.aload_n 0, 1) := by decide +kernel
theorem d_O_signature_19 : decode b_O_signature 19 = .ok (.getfield 42, 3) := by decide +kernel
theorem d_O_signature_22 : decode b_O_signature 22 = .ok (.iload 5, 2) := by decide +kernel
theorem d_O_signature_24 : decode b_O_signature 24 = .ok (.iaload, 1) := by decide +kernel
theorem d_O_signature_25 : decode b_O_signature 25 = .ok (.iload_n 2, 1) := by decide +kernel
theorem d_O_signature_26 : decode b_O_signature 26 = .ok (.invokevirtual 117, 3) := by decide +kernel
theorem d_O_signature_29 : decode b_O_signature 29 = .ok (.i2l, 1) := by decide +kernel
theorem d_O_signature_30 : decode b_O_signature 30 = .ok (.invokevirtual 79, 3) := by decide +kernel
theorem d_O_signature_33 : decode b_O_signature 33 = .ok (.lxor, 1) := by decide +kernel
theorem d_O_signature_34 : decode b_O_signature 34 = .ok (.lstore_n 3, 1) := by decide +kernel
theorem d_O_signature_35 : decode b_O_signature 35 = .ok (.iinc 5 (1), 3) := by decide +kernel
theorem d_O_signature_38 : decode b_O_signature 38 = .ok (.goto (-33), 3) := by decide +kernel
theorem d_O_signature_41 : decode b_O_signature 41 = .ok (.lload_n 3, 1) := by decide +kernel
theorem d_O_signature_42 : decode b_O_signature 42 = .ok (.lreturn, 1) := by decide +kernel
theorem d_O_firstSeen_0 : decode b_O_firstSeen 0 = .ok (.iconst (0), 1) := by decide +kernel
theorem d_O_firstSeen_1 : decode b_O_firstSeen 1 = .ok (.istore_n 3, 1) := by decide +kernel
theorem d_O_firstSeen_2 : decode b_O_firstSeen 2 = .ok (.iload_n 3, 1) := by decide +kernel
theorem d_O_firstSeen_3 : decode b_O_firstSeen 3 = .ok (.iload_n 1, 1) := by decide +kernel
theorem d_O_firstSeen_4 : decode b_O_firstSeen 4 = .ok (.if_icmp .ge (31), 3) := by decide +kernel
theorem d_O_firstSeen_7 : decode b_O_firstSeen 7 = .ok (.aload_n 0, 1) := by decide +kernel
theorem d_O_firstSeen_8 : decode b_O_firstSeen 8 = .ok (.aload_n 0, 1) := by decide +kernel
theorem d_O_firstSeen_9 : decode b_O_firstSeen 9 = .ok (.getfield 42, 3) := by decide +kernel
theorem d_O_firstSeen_12 : decode b_O_firstSeen 12 = .ok (.iload_n 3, 1) := by decide +kernel
theorem d_O_firstSeen_13 : decode b_O_firstSeen 13 = .ok (.iaload, 1) := by decide +kernel
theorem d_O_firstSeen_14 : decode b_O_firstSeen 14 = .ok (.iload_n 2, 1) := by decide +kernel
theorem d_O_firstSeen_15 : decode b_O_firstSeen 15 = .ok (.invokevirtual 117, 3) := by decide +kernel
theorem d_O_firstSeen_18 : decode b_O_firstSeen 18 = .ok (.aload_n 0, 1) := by decide +kernel
theorem d_O_firstSeen_19 : decode b_O_firstSeen 19 = .ok (.getfield 45, 3) := by decide +kernel
theorem d_O_firstSeen_22 : decode b_O_firstSeen 22 = .ok (.iload_n 3, 1) := by decide +kernel
theorem d_O_firstSeen_23 : decode b_O_firstSeen 23 = .ok (.iaload, 1) := by decide +kernel
theorem d_O_firstSeen_24 : decode b_O_firstSeen 24 = .ok (.if_icmp .eq (5), 3) := by decide +kernel
theorem d_O_firstSeen_27 : decode b_O_firstSeen 27 = .ok (.iload_n 3, 1) := by decide +kernel
theorem d_O_firstSeen_28 : decode b_O_firstSeen 28 = .ok (.ireturn, 1) := by decide +kernel
theorem d_O_firstSeen_29 : decode b_O_firstSeen 29 = .ok (.iinc 3 (1), 3) := by decide +kernel
theorem d_O_firstSeen_32 : decode b_O_firstSeen 32 = .ok (.goto (-30), 3) := by decide +kernel
theorem d_O_firstSeen_35 : decode b_O_firstSeen 35 = .ok (.iconst (-1), 1) := by decide +kernel
theorem d_O_firstSeen_36 : decode b_O_firstSeen 36 = .ok (.ireturn, 1) := by decide +kernel
theorem d_O_isCount_0 : decode b_O_isCount 0 = .ok (.iload_n 0, 1) := by decide +kernel
theorem d_O_isCount_1 : decode b_O_isCount 1 = .ok (.ifCond .lt (14), 3) := by decide +kernel
theorem d_O_isCount_4 : decode b_O_isCount 4 = .ok (.iload_n 0, 1) := by decide +kernel
theorem d_O_isCount_5 : decode b_O_isCount 5 = .ok (.sipush (256), 3) := by decide +kernel
theorem d_O_isCount_8 : decode b_O_isCount 8 = .ok (.if_icmp .gt (7), 3) := by decide +kernel
theorem d_O_isCount_11 : decode b_O_isCount 11 = .ok (.iconst (1), 1) := by decide +kernel
theorem d_O_isCount_12 : decode b_O_isCount 12 = .ok (.goto (4), 3) := by decide +kernel
theorem d_O_isCount_15 : decode b_O_isCount 15 = .ok (.iconst (0), 1) := by decide +kernel
theorem d_O_isCount_16 : decode b_O_isCount 16 = .ok (.ireturn, 1) := by decide +kernel
theorem d_O_session_0 : decode b_O_session 0 = .ok (.iload_n 2, 1) := by decide +kernel
theorem d_O_session_1 : decode b_O_session 1 = .ok (.iconst (-1), 1) := by decide +kernel
theorem d_O_session_2 : decode b_O_session 2 = .ok (.if_icmp .eq (11), 3) := by decide +kernel
theorem d_O_session_5 : decode b_O_session 5 = .ok (.aload_n 0, 1) := by decide +kernel
theorem d_O_session_6 : decode b_O_session 6 = .ok (.iload_n 2, 1) := by decide +kernel
theorem d_O_session_7 : decode b_O_session 7 = .ok (.invokevirtual 114, 3) := by decide +kernel
theorem d_O_session_10 : decode b_O_session 10 = .ok (.ifCond .eq (7), 3) := by decide +kernel
theorem d_O_session_13 : decode b_O_session 13 = .ok (.iconst (1), 1) := by decide +kernel
theorem d_O_session_14 : decode b_O_session 14 = .ok (.goto (4), 3) := by decide +kernel
theorem d_O_session_17 : decode b_O_session 17 = .ok (.iconst (0), 1) := by decide +kernel
theorem d_O_session_18 : decode b_O_session 18 = .ok (.istore_n 3, 1) := by decide +kernel
theorem d_O_session_19 : decode b_O_session 19 = .ok (.aload_n 0, 1) := by decide +kernel
theorem d_O_session_20 : decode b_O_session 20 = .ok (.iload_n 3, 1) := by decide +kernel
theorem d_O_session_21 : decode b_O_session 21 = .ok (.ifCond .ne (7), 3) := by decide +kernel
theorem d_O_session_24 : decode b_O_session 24 = .ok (.iconst (1), 1) := by decide +kernel
theorem d_O_session_25 : decode b_O_session 25 = .ok (.goto (15), 3) := by decide +kernel
theorem d_O_session_28 : decode b_O_session 28 = .ok (.iload_n 1, 1) := by decide +kernel
theorem d_O_session_29 : decode b_O_session 29 = .ok (.invokestatic 121, 3) := by decide +kernel
theorem d_O_session_32 : decode b_O_session 32 = .ok (.ifCond .ne (7), 3) := by decide +kernel
theorem d_O_session_35 : decode b_O_session 35 = .ok (.iconst (2), 1) := by decide +kernel
theorem d_O_session_36 : decode b_O_session 36 = .ok (.goto (4), 3) := by decide +kernel
theorem d_O_session_39 : decode b_O_session 39 = .ok (.iconst (0), 1) := by decide +kernel
theorem d_O_session_40 : decode b_O_session 40 = .ok (.invokevirtual 57, 3) := by decide +kernel
theorem d_O_session_43 : decode b_O_session 43 = .ok (.ifCond .eq (5), 3) := by decide +kernel
theorem d_O_session_46 : decode b_O_session 46 = .ok (.lconst 0, 1) := by decide +kernel
theorem d_O_session_47 : decode b_O_session 47 = .ok (.lreturn, 1) := by decide +kernel
theorem d_O_session_48 : decode b_O_session 48 = .ok (.aload_n 0, 1) := by decide +kernel
theorem d_O_session_49 : decode b_O_session 49 = .ok (.iload_n 1, 1) := by decide +kernel
theorem d_O_session_50 : decode b_O_session 50 = .ok (.invokevirtual 124, 3) := by decide +kernel
theorem d_O_session_53 : decode b_O_session 53 = .ok (.aload_n 0, 1) := by decide +kernel
theorem d_O_session_54 : decode b_O_session 54 = .ok (.iload_n 1, 1) := by decide +kernel
theorem d_O_session_55 : decode b_O_session 55 = .ok (.iload_n 2, 1) := by decide +kernel
theorem d_O_session_56 : decode b_O_session 56 = .ok (.invokevirtual 128, 3) := by decide +kernel
theorem d_O_session_59 : decode b_O_session 59 = .ok (.lreturn, 1) := by decide +kernel
theorem d_O_faults_0 : decode b_O_faults 0 = .ok (.aload_n 0, 1) := by decide +kernel
theorem d_O_faults_1 : decode b_O_faults 1 = .ok (.iload_n 2, 1) := by decide +kernel
theorem d_O_faults_2 : decode b_O_faults 2 = .ok (.ifCond .lt (8), 3) := by decide +kernel
theorem d_O_faults_5 : decode b_O_faults 5 = .ok (.iload_n 2, 1) := by decide +kernel
theorem d_O_faults_6 : decode b_O_faults 6 = .ok (.iconst (3), 1) := by decide +kernel
theorem d_O_faults_7 : decode b_O_faults 7 = .ok (.if_icmp .le (7), 3) := by decide +kernel
theorem d_O_faults_10 : decode b_O_faults 10 = .ok (.iconst (1), 1) := by decide +kernel
theorem d_O_faults_11 : decode b_O_faults 11 = .ok (.goto (15), 3) := by decide +kernel
theorem d_O_faults_14 : decode b_O_faults 14 = .ok (.iload_n 1, 1) := by decide +kernel
theorem d_O_faults_15 : decode b_O_faults 15 = .ok (.invokestatic 121, 3) := by decide +kernel
theorem d_O_faults_18 : decode b_O_faults 18 = .ok (.ifCond .ne (7), 3) := by decide +kernel
theorem d_O_faults_21 : decode b_O_faults 21 = .ok (.iconst (2), 1) := by decide +kernel
theorem d_O_faults_22 : decode b_O_faults 22 = .ok (.goto (4), 3) := by decide +kernel
theorem d_O_faults_25 : decode b_O_faults 25 = .ok (.iconst (0), 1) := by decide +kernel
theorem d_O_faults_26 : decode b_O_faults 26 = .ok (.invokevirtual 57, 3) := by decide +kernel
theorem d_O_faults_29 : decode b_O_faults 29 = .ok (.ifCond .eq (5), 3) := by decide +kernel
theorem d_O_faults_32 : decode b_O_faults 32 = .ok (.iconst (0), 1) := by decide +kernel
theorem d_O_faults_33 : decode b_O_faults 33 = .ok (.ireturn, 1) := by decide +kernel
theorem d_O_faults_34 : decode b_O_faults 34 = .ok (.aload_n 0, 1) := by decide +kernel
theorem d_O_faults_35 : decode b_O_faults 35 = .ok (.iload_n 1, 1) := by decide +kernel
theorem d_O_faults_36 : decode b_O_faults 36 = .ok (.invokevirtual 124, 3) := by decide +kernel
theorem d_O_faults_39 : decode b_O_faults 39 = .ok (.aload_n 0, 1) := by decide +kernel
theorem d_O_faults_40 : decode b_O_faults 40 = .ok (.iload_n 1, 1) := by decide +kernel
theorem d_O_faults_41 : decode b_O_faults 41 = .ok (.iconst (-1), 1) := by decide +kernel
theorem d_O_faults_42 : decode b_O_faults 42 = .ok (.invokevirtual 128, 3) := by decide +kernel
theorem d_O_faults_45 : decode b_O_faults 45 = .ok (.lstore_n 3, 1) := by decide +kernel
theorem d_O_faults_46 : decode b_O_faults 46 = .ok (.iconst (2), 1) := by decide +kernel
theorem d_O_faults_47 : decode b_O_faults 47 = .ok (.aload_n 0, 1) := by decide +kernel
theorem d_O_faults_48 : decode b_O_faults 48 = .ok (.getfield 67, 3) := by decide +kernel
theorem d_O_faults_51 : decode b_O_faults 51 = .ok (.aload_n 0, 1) := by decide +kernel
theorem d_O_faults_52 : decode b_O_faults 52 = .ok (.getfield 51, 3) := by decide +kernel
theorem d_O_faults_55 : decode b_O_faults 55 = .ok (.iadd, 1) := by decide +kernel
theorem d_O_faults_56 : decode b_O_faults 56 = .ok (.imul, 1) := by decide +kernel
theorem d_O_faults_57 : decode b_O_faults 57 = .ok (.istore 5, 2) := by decide +kernel
theorem d_O_faults_59 : decode b_O_faults 59 = .ok (.iconst (0), 1) := by decide +kernel
theorem d_O_faults_60 : decode b_O_faults 60 = .ok (.istore 6, 2) := by decide +kernel
theorem d_O_faults_62 : decode b_O_faults 62 = .ok (.iconst (0), 1) := by decide +kernel
theorem d_O_faults_63 : decode b_O_faults 63 = .ok (.istore 7, 2) := by decide +kernel
theorem d_O_faults_65 : decode b_O_faults 65 = .ok (.iconst (-1), 1) := by decide +kernel
theorem d_O_faults_66 : decode b_O_faults 66 = .ok (.istore 8, 2) := by decide +kernel
theorem d_O_faults_68 : decode b_O_faults 68 = .ok (.iload 5, 2) := by decide +kernel
theorem d_O_faults_70 : decode b_O_faults 70 = .ok (.iconst (1), 1) := by decide +kernel
theorem d_O_faults_71 : decode b_O_faults 71 = .ok (.isub, 1) := by decide +kernel
theorem d_O_faults_72 : decode b_O_faults 72 = .ok (.istore 9, 2) := by decide +kernel
theorem d_O_faults_74 : decode b_O_faults 74 = .ok (.iload 9, 2) := by decide +kernel
theorem d_O_faults_76 : decode b_O_faults 76 = .ok (.ifCond .lt (101), 3) := by decide +kernel
theorem d_O_faults_79 : decode b_O_faults 79 = .ok (.aload_n 0, 1) := by decide +kernel
theorem d_O_faults_80 : decode b_O_faults 80 = .ok (.iload_n 1, 1) := by decide +kernel
theorem d_O_faults_81 : decode b_O_faults 81 = .ok (.iload 9, 2) := by decide +kernel
theorem d_O_faults_83 : decode b_O_faults 83 = .ok (.invokevirtual 132, 3) := by decide +kernel
theorem d_O_faults_86 : decode b_O_faults 86 = .ok (.ifCond .lt (7), 3) := by decide +kernel
theorem d_O_faults_89 : decode b_O_faults 89 = .ok (.iconst (1), 1) := by decide +kernel
theorem d_O_faults_90 : decode b_O_faults 90 = .ok (.goto (4), 3) := by decide +kernel
theorem d_O_faults_93 : decode b_O_faults 93 = .ok (.iconst (0), 1) := by decide +kernel
theorem d_O_faults_94 : decode b_O_faults 94 = .ok (.istore 10, 2) := by decide +kernel
theorem d_O_faults_96 : decode b_O_faults 96 = .ok (.iload 10, 2) := by decide +kernel
theorem d_O_faults_98 : decode b_O_faults 98 = .ok (.ifCond .eq (19), 3) := by decide +kernel
theorem d_O_faults_101 : decode b_O_faults 101 = .ok (.aload_n 0, 1) := by decide +kernel
theorem d_O_faults_102 : decode b_O_faults 102 = .ok (.iload_n 1, 1) := by decide +kernel
theorem d_O_faults_103 : decode b_O_faults 103 = .ok (.iload 9, 2) := by decide +kernel
theorem d_O_faults_105 : decode b_O_faults 105 = .ok (.invokevirtual 128, 3) := by decide +kernel
theorem d_O_faults_108 : decode b_O_faults 108 = .ok (.lload_n 3, 1) := by decide +kernel
theorem d_O_faults_109 : decode b_O_faults 109 = .ok (.lcmp, 1) := by decide +kernel
theorem d_O_faults_110 : decode b_O_faults 110 = .ok (.ifCond .eq (7), 3) := by decide +kernel
theorem d_O_faults_113 : decode b_O_faults 113 = .ok (.iconst (1), 1) := by decide +kernel
theorem d_O_faults_114 : decode b_O_faults 114 = .ok (.goto (4), 3) := by decide +kernel
theorem d_O_faults_117 : decode b_O_faults 117 = .ok (.iconst (0), 1) := by decide +kernel
theorem d_O_faults_118 : decode b_O_faults 118 = .ok (.istore 11, 2) := by decide +kernel
theorem d_O_faults_120 : decode b_O_faults 120 = .ok (.iload 10, 2) := by decide +kernel
theorem d_O_faults_122 : decode b_O_faults 122 = .ok (.ifCond .eq (10), 3) := by decide +kernel
theorem d_O_faults_125 : decode b_O_faults 125 = .ok (.iload 6, 2) := by decide +kernel
theorem d_O_faults_127 : decode b_O_faults 127 = .ok (.iconst (1), 1) := by decide +kernel
theorem d_O_faults_128 : decode b_O_faults 128 = .ok (.iadd, 1) := by decide +kernel
theorem d_O_faults_129 : decode b_O_faults 129 = .ok (.goto (5), 3) := by decide +kernel
theorem d_O_faults_132 : decode b_O_faults 132 = .ok (.iload 6, 2) := by decide +kernel
theorem d_O_faults_134 : decode b_O_faults 134 = .ok (.istore 6, 2) := by decide +kernel
theorem d_O_faults_136 : decode b_O_faults 136 = .ok (.iload 11, 2) := by decide +kernel
theorem d_O_faults_138 : decode b_O_faults 138 = .ok (.ifCond .eq (10), 3) := by decide +kernel
theorem d_O_faults_141 : decode b_O_faults 141 = .ok (.iload 7, 2) := by decide +kernel
theorem d_O_faults_143 : decode b_O_faults 143 = .ok (.iconst (1), 1) := by decide +kernel
theorem d_O_faults_144 : decode b_O_faults 144 = .ok (.iadd, 1) := by decide +kernel
theorem d_O_faults_145 : decode b_O_faults 145 = .ok (.goto (5), 3) := by decide +kernel
theorem d_O_faults_148 : decode b_O_faults 148 = .ok (.iload 7, 2) := by decide +kernel
theorem d_O_faults_150 : decode b_O_faults 150 = .ok (.istore 7, 2) := by decide +kernel
theorem d_O_faults_152 : decode b_O_faults 152 = .ok (.iload 10, 2) := by decide +kernel
theorem d_O_faults_154 : decode b_O_faults 154 = .ok (.ifCond .eq (13), 3) := by decide +kernel
theorem d_O_faults_157 : decode b_O_faults 157 = .ok (.iload 11, 2) := by decide +kernel
theorem d_O_faults_159 : decode b_O_faults 159 = .ok (.ifCond .ne (8), 3) := by decide +kernel
theorem d_O_faults_162 : decode b_O_faults 162 = .ok (.iload 9, 2) := by decide +kernel
theorem d_O_faults_164 : decode b_O_faults 164 = .ok (.goto (5), 3) := by decide +kernel
theorem d_O_faults_167 : decode b_O_faults 167 = .ok (.iload 8, 2) := by decide +kernel
theorem d_O_faults_169 : decode b_O_faults 169 = .ok (.istore 8, 2) := by decide +kernel
theorem d_O_faults_171 : decode b_O_faults 171 = .ok (.iinc 9 (-1), 3) := by decide +kernel
theorem d_O_faults_174 : decode b_O_faults 174 = .ok (.goto (-100), 3) := by decide +kernel
theorem d_O_faults_177 : decode b_O_faults 177 = .ok (.iload_n 2, 1) := by decide +kernel
theorem d_O_faults_178 : decode b_O_faults 178 = .ok (.ifCond .ne (8), 3) := by decide +kernel
theorem d_O_faults_181 : decode b_O_faults 181 = .ok (.iload 5, 2) := by decide +kernel
theorem d_O_faults_183 : decode b_O_faults 183 = .ok (.goto (25), 3) := by decide +kernel
theorem d_O_faults_186 : decode b_O_faults 186 = .ok (.iload_n 2, 1) := by decide +kernel
theorem d_O_faults_187 : decode b_O_faults 187 = .ok (.iconst (1), 1) := by decide +kernel
theorem d_O_faults_188 : decode b_O_faults 188 = .ok (.if_icmp .ne (8), 3) := by decide +kernel
theorem d_O_faults_191 : decode b_O_faults 191 = .ok (.iload 6, 2) := by decide +kernel
theorem d_O_faults_193 : decode b_O_faults 193 = .ok (.goto (15), 3) := by decide +kernel
theorem d_O_faults_196 : decode b_O_faults 196 = .ok (.iload_n 2, 1) := by decide +kernel
theorem d_O_faults_197 : decode b_O_faults 197 = .ok (.iconst (2), 1) := by decide +kernel
theorem d_O_faults_198 : decode b_O_faults 198 = .ok (.if_icmp .ne (8), 3) := by decide +kernel
theorem d_O_faults_201 : decode b_O_faults 201 = .ok (.iload 7, 2) := by decide +kernel
theorem d_O_faults_203 : decode b_O_faults 203 = .ok (.goto (5), 3) := by decide +kernel
theorem d_O_faults_206 : decode b_O_faults 206 = .ok (.iload 8, 2) := by decide +kernel
theorem d_O_faults_208 : decode b_O_faults 208 = .ok (.ireturn, 1) := by decide +kernel
theorem d_O_first_0 : decode b_O_first 0 = .ok (.aload_n 0, 1) := by decide +kernel
theorem d_O_first_1 : decode b_O_first 1 = .ok (.aload_n 0, 1) := by decide +kernel
theorem d_O_first_2 : decode b_O_first 2 = .ok (.iload_n 2, 1) := by decide +kernel
theorem d_O_first_3 : decode b_O_first 3 = .ok (.invokevirtual 114, 3) := by decide +kernel
theorem d_O_first_6 : decode b_O_first 6 = .ok (.ifCond .ne (7), 3) := by decide +kernel
theorem d_O_first_9 : decode b_O_first 9 = .ok (.iconst (1), 1) := by decide +kernel
theorem d_O_first_10 : decode b_O_first 10 = .ok (.goto (15), 3) := by decide +kernel
theorem d_O_first_13 : decode b_O_first 13 = .ok (.iload_n 1, 1) := by decide +kernel
theorem d_O_first_14 : decode b_O_first 14 = .ok (.invokestatic 121, 3) := by decide +kernel
theorem d_O_first_17 : decode b_O_first 17 = .ok (.ifCond .ne (7), 3) := by decide +kernel
theorem d_O_first_20 : decode b_O_first 20 = .ok (.iconst (2), 1) := by decide +kernel
theorem d_O_first_21 : decode b_O_first 21 = .ok (.goto (4), 3) := by decide +kernel
theorem d_O_first_24 : decode b_O_first 24 = .ok (.iconst (0), 1) := by decide +kernel
theorem d_O_first_25 : decode b_O_first 25 = .ok (.invokevirtual 57, 3) := by decide +kernel
theorem d_O_first_28 : decode b_O_first 28 = .ok (.ifCond .eq (5), 3) := by decide +kernel
theorem d_O_first_31 : decode b_O_first 31 = .ok (.iconst (0), 1) := by decide +kernel
theorem d_O_first_32 : decode b_O_first 32 = .ok (.ireturn, 1) := by decide +kernel
theorem d_O_first_33 : decode b_O_first 33 = .ok (.aload_n 0, 1) := by decide +kernel
theorem d_O_first_34 : decode b_O_first 34 = .ok (.iload_n 1, 1) := by decide +kernel
theorem d_O_first_35 : decode b_O_first 35 = .ok (.invokevirtual 124, 3) := by decide +kernel
theorem d_O_first_38 : decode b_O_first 38 = .ok (.aload_n 0, 1) := by decide +kernel
theorem d_O_first_39 : decode b_O_first 39 = .ok (.iload_n 1, 1) := by decide +kernel
theorem d_O_first_40 : decode b_O_first 40 = .ok (.iload_n 2, 1) := by decide +kernel
theorem d_O_first_41 : decode b_O_first 41 = .ok (.invokevirtual 132, 3) := by decide +kernel
theorem d_O_first_44 : decode b_O_first 44 = .ok (.ireturn, 1) := by decide +kernel
theorem d_C_init_0 : decode b_C_init 0 = .ok (.aload_n 0, 1) := by decide +kernel
theorem d_C_init_1 : decode b_C_init 1 = .ok (.invokespecial 3, 3) := by decide +kernel
theorem d_C_init_4 : decode b_C_init 4 = .ok (.aload_n 0, 1) := by decide +kernel
theorem d_C_init_5 : decode b_C_init 5 = .ok (.bipush (24), 2) := by decide +kernel
theorem d_C_init_7 : decode b_C_init 7 = .ok (.newarray .int, 2) := by decide +kernel
theorem d_C_init_9 : decode b_C_init 9 = .ok (.putfield 9, 3) := by decide +kernel
theorem d_C_init_12 : decode b_C_init 12 = .ok (.aload_n 0, 1) := by decide +kernel
theorem d_C_init_13 : decode b_C_init 13 = .ok (.bipush (24), 2) := by decide +kernel
theorem d_C_init_15 : decode b_C_init 15 = .ok (.newarray .int, 2) := by decide +kernel
theorem d_C_init_17 : decode b_C_init 17 = .ok (.putfield 15, 3) := by decide +kernel
theorem d_C_init_20 : decode b_C_init 20 = .ok (.aload_n 0, 1) := by decide +kernel
theorem d_C_init_21 : decode b_C_init 21 = .ok (.bipush (24), 2) := by decide +kernel
theorem d_C_init_23 : decode b_C_init 23 = .ok (.newarray .int, 2) := by decide +kernel
theorem d_C_init_25 : decode b_C_init 25 = .ok (.putfield 18, 3) := by decide +kernel
theorem d_C_init_28 : decode b_C_init 28 = .ok (.aload_n 0, 1) := by decide +kernel
theorem d_C_init_29 : decode b_C_init 29 = .ok (.bipush (16), 2) := by decide +kernel
theorem d_C_init_31 : decode b_C_init 31 = .ok (.newarray .int, 2) := by decide +kernel
theorem d_C_init_33 : decode b_C_init 33 = .ok (.putfield 21, 3) := by decide +kernel
theorem d_C_init_36 : decode b_C_init 36 = .ok (.aload_n 0, 1) := by decide +kernel
theorem d_C_init_37 : decode b_C_init 37 = .ok (.bipush (32), 2) := by decide +kernel
theorem d_C_init_39 : decode b_C_init 39 = .ok (.newarray .long, 2) := by decide +kernel
theorem d_C_init_41 : decode b_C_init 41 = .ok (.putfield 24, 3) := by decide +kernel
theorem d_C_init_44 : decode b_C_init 44 = .ok (.return_, 1) := by decide +kernel
theorem d_C_restart_0 : decode b_C_restart 0 = .ok (.aload_n 0, 1) := by decide +kernel
theorem d_C_restart_1 : decode b_C_restart 1 = .ok (.iload_n 1, 1) := by decide +kernel
theorem d_C_restart_2 : decode b_C_restart 2 = .ok (.putfield 28, 3) := by decide +kernel
theorem d_C_restart_5 : decode b_C_restart 5 = .ok (.aload_n 0, 1) := by decide +kernel
theorem d_C_restart_6 : decode b_C_restart 6 = .ok (.iconst (0), 1) := by decide +kernel
theorem d_C_restart_7 : decode b_C_restart 7 = .ok (.putfield 32, 3) := by decide +kernel
theorem d_C_restart_10 : decode b_C_restart 10 = .ok (.aload_n 0, 1) := by decide +kernel
theorem d_C_restart_11 : decode b_C_restart 11 = .ok (.iconst (0), 1) := by decide +kernel
theorem d_C_restart_12 : decode b_C_restart 12 = .ok (.putfield 35, 3) := by decide +kernel
theorem d_C_restart_15 : decode b_C_restart 15 = .ok (.return_, 1) := by decide +kernel
theorem d_C_countLines_0 : decode b_C_countLines 0 = .ok (.aload_n 0, 1) := by decide +kernel
theorem d_C_countLines_1 : decode b_C_countLines 1 = .ok (.getfield 28, 3) := by decide +kernel
theorem d_C_countLines_4 : decode b_C_countLines 4 = .ok (.aload_n 0, 1) := by decide +kernel
theorem d_C_countLines_5 : decode b_C_countLines 5 = .ok (.getfield 32, 3) := by decide +kernel
theorem d_C_countLines_8 : decode b_C_countLines 8 = .ok (.iadd, 1) := by decide +kernel
theorem d_C_countLines_9 : decode b_C_countLines 9 = .ok (.ireturn, 1) := by decide +kernel
theorem d_C_countFaults_0 : decode b_C_countFaults 0 = .ok (.iconst (2), 1) := by decide +kernel
theorem d_C_countFaults_1 : decode b_C_countFaults 1 = .ok (.aload_n 0, 1) := by decide +kernel
theorem d_C_countFaults_2 : decode b_C_countFaults 2 = .ok (.invokevirtual 38, 3) := by decide +kernel
theorem d_C_countFaults_5 : decode b_C_countFaults 5 = .ok (.imul, 1) := by decide +kernel
theorem d_C_countFaults_6 : decode b_C_countFaults 6 = .ok (.ireturn, 1) := by decide +kernel
theorem d_C_addGate_0 : decode b_C_addGate 0 = .ok (.aload_n 0, 1) := by decide +kernel
theorem d_C_addGate_1 : decode b_C_addGate 1 = .ok (.invokevirtual 38, 3) := by decide +kernel
theorem d_C_addGate_4 : decode b_C_addGate 4 = .ok (.istore 4, 2) := by decide +kernel
theorem d_C_addGate_6 : decode b_C_addGate 6 = .ok (.aload_n 0, 1) := by decide +kernel
theorem d_C_addGate_7 : decode b_C_addGate 7 = .ok (.getfield 9, 3) := by decide +kernel
theorem d_C_addGate_10 : decode b_C_addGate 10 = .ok (.aload_n 0, 1) := by decide +kernel
theorem d_C_addGate_11 : decode b_C_addGate 11 = .ok (.getfield 32, 3) := by decide +kernel
theorem d_C_addGate_14 : decode b_C_addGate 14 = .ok (.iload_n 1, 1) := by decide +kernel
theorem d_C_addGate_15 : decode b_C_addGate 15 = .ok (.iastore, 1) := by decide +kernel
theorem d_C_addGate_16 : decode b_C_addGate 16 = .ok (.aload_n 0, 1) := by decide +kernel
theorem d_C_addGate_17 : decode b_C_addGate 17 = .ok (.getfield 15, 3) := by decide +kernel
theorem d_C_addGate_20 : decode b_C_addGate 20 = .ok (.aload_n 0, 1) := by decide +kernel
theorem d_C_addGate_21 : decode b_C_addGate 21 = .ok (.getfield 32, 3) := by decide +kernel
theorem d_C_addGate_24 : decode b_C_addGate 24 = .ok (.iload_n 2, 1) := by decide +kernel
theorem d_C_addGate_25 : decode b_C_addGate 25 = .ok (.iastore, 1) := by decide +kernel
theorem d_C_addGate_26 : decode b_C_addGate 26 = .ok (.aload_n 0, 1) := by decide +kernel
theorem d_C_addGate_27 : decode b_C_addGate 27 = .ok (.getfield 18, 3) := by decide +kernel
theorem d_C_addGate_30 : decode b_C_addGate 30 = .ok (.aload_n 0, 1) := by decide +kernel
theorem d_C_addGate_31 : decode b_C_addGate 31 = .ok (.getfield 32, 3) := by decide +kernel
theorem d_C_addGate_34 : decode b_C_addGate 34 = .ok (.iload_n 3, 1) := by decide +kernel
theorem d_C_addGate_35 : decode b_C_addGate 35 = .ok (.iastore, 1) := by decide +kernel
theorem d_C_addGate_36 : decode b_C_addGate 36 = .ok (.aload_n 0, 1) := by decide +kernel
theorem d_C_addGate_37 : decode b_C_addGate 37 = .ok (.dup, 1) := by decide +kernel
theorem d_C_addGate_38 : decode b_C_addGate 38 = .ok (.getfield 32, 3) := by decide +kernel
theorem d_C_addGate_41 : decode b_C_addGate 41 = .ok (.iconst (1), 1) := by decide +kernel
theorem d_C_addGate_42 : decode b_C_addGate 42 = .ok (.iadd, 1) := by decide +kernel
theorem d_C_addGate_43 : decode b_C_addGate 43 = .ok (.putfield 32, 3) := by decide +kernel
theorem d_C_addGate_46 : decode b_C_addGate 46 = .ok (.iload 4, 2) := by decide +kernel
theorem d_C_addGate_48 : decode b_C_addGate 48 = .ok (.ireturn, 1) := by decide +kernel
theorem d_C_addOutput_0 : decode b_C_addOutput 0 = .ok (.aload_n 0, 1) := by decide +kernel
theorem d_C_addOutput_1 : decode b_C_addOutput 1 = .ok (.getfield 21, 3) := by decide +kernel
theorem d_C_addOutput_4 : decode b_C_addOutput 4 = .ok (.aload_n 0, 1) := by decide +kernel
theorem d_C_addOutput_5 : decode b_C_addOutput 5 = .ok (.getfield 35, 3) := by decide +kernel
theorem d_C_addOutput_8 : decode b_C_addOutput 8 = .ok (.iload_n 1, 1) := by decide +kernel
theorem d_C_addOutput_9 : decode b_C_addOutput 9 = .ok (.iastore, 1) := by decide +kernel
theorem d_C_addOutput_10 : decode b_C_addOutput 10 = .ok (.aload_n 0, 1) := by decide +kernel
theorem d_C_addOutput_11 : decode b_C_addOutput 11 = .ok (.dup, 1) := by decide +kernel
theorem d_C_addOutput_12 : decode b_C_addOutput 12 = .ok (.getfield 35, 3) := by decide +kernel
theorem d_C_addOutput_15 : decode b_C_addOutput 15 = .ok (.iconst (1), 1) := by decide +kernel
theorem d_C_addOutput_16 : decode b_C_addOutput 16 = .ok (.iadd, 1) := by decide +kernel
theorem d_C_addOutput_17 : decode b_C_addOutput 17 = .ok (.putfield 35, 3) := by decide +kernel
theorem d_C_addOutput_20 : decode b_C_addOutput 20 = .ok (.aload_n 0, 1) := by decide +kernel
theorem d_C_addOutput_21 : decode b_C_addOutput 21 = .ok (.getfield 35, 3) := by decide +kernel
theorem d_C_addOutput_24 : decode b_C_addOutput 24 = .ok (.iconst (1), 1) := by decide +kernel
theorem d_C_addOutput_25 : decode b_C_addOutput 25 = .ok (.isub, 1) := by decide +kernel
theorem d_C_addOutput_26 : decode b_C_addOutput 26 = .ok (.ireturn, 1) := by decide +kernel
theorem d_C_answerTo_0 : decode b_C_answerTo 0 = .ok (.aload_n 0, 1) := by decide +kernel
theorem d_C_answerTo_1 : decode b_C_answerTo 1 = .ok (.iload_n 1, 1) := by decide +kernel
theorem d_C_answerTo_2 : decode b_C_answerTo 2 = .ok (.iload_n 2, 1) := by decide +kernel
theorem d_C_answerTo_3 : decode b_C_answerTo 3 = .ok (.iconst (-1), 1) := by decide +kernel
theorem d_C_answerTo_4 : decode b_C_answerTo 4 = .ok (.if_icmp .eq (7), 3) := by decide +kernel
theorem d_C_answerTo_7 : decode b_C_answerTo 7 = .ok (.iconst (1), 1) := by decide +kernel
theorem d_C_answerTo_8 : decode b_C_answerTo 8 = .ok (.goto (4), 3) := by decide +kernel
theorem d_C_answerTo_11 : decode b_C_answerTo 11 = .ok (.iconst (0), 1) := by decide +kernel
theorem d_C_answerTo_12 : decode b_C_answerTo 12 = .ok (.invokevirtual 42, 3) := by decide +kernel
theorem d_C_answerTo_15 : decode b_C_answerTo 15 = .ok (.iload_n 2, 1) := by decide +kernel
theorem d_C_answerTo_16 : decode b_C_answerTo 16 = .ok (.iconst (-1), 1) := by decide +kernel
theorem d_C_answerTo_17 : decode b_C_answerTo 17 = .ok (.if_icmp .ne (7), 3) := by decide +kernel
theorem d_C_answerTo_20 : decode b_C_answerTo 20 = .ok (.iconst (0), 1) := by decide +kernel
theorem d_C_answerTo_21 : decode b_C_answerTo 21 = .ok (.goto (4), 3) := by decide +kernel
theorem d_C_answerTo_24 : decode b_C_answerTo 24 = .ok (.iload_n 2, 1) := by decide +kernel
theorem d_C_answerTo_25 : decode b_C_answerTo 25 = .ok (.istore_n 3, 1) := by decide +kernel
theorem d_C_answerTo_26 : decode b_C_answerTo 26 = .ok (.iconst (0), 1) := by decide +kernel
theorem d_C_answerTo_27 : decode b_C_answerTo 27 = .ok (.istore 4, 2) := by decide +kernel
theorem d_C_answerTo_29 : decode b_C_answerTo 29 = .ok (.iconst (0), 1) := by decide +kernel
theorem d_C_answerTo_30 : decode b_C_answerTo 30 = .ok (.istore 5, 2) := by decide +kernel
theorem d_C_answerTo_32 : decode b_C_answerTo 32 = .ok (.iload 5, 2) := by decide +kernel
theorem d_C_answerTo_34 : decode b_C_answerTo 34 = .ok (.aload_n 0, 1) := by decide +kernel
theorem d_C_answerTo_35 : decode b_C_answerTo 35 = .ok (.getfield 35, 3) := by decide +kernel
theorem d_C_answerTo_38 : decode b_C_answerTo 38 = .ok (.if_icmp .ge (28), 3) := by decide +kernel
theorem d_C_answerTo_41 : decode b_C_answerTo 41 = .ok (.iload 4, 2) := by decide +kernel
theorem d_C_answerTo_43 : decode b_C_answerTo 43 = .ok (.aload_n 0, 1) := by decide +kernel
theorem d_C_answerTo_44 : decode b_C_answerTo 44 = .ok (.iload 5, 2) := by decide +kernel
theorem d_C_answerTo_46 : decode b_C_answerTo 46 = .ok (.invokevirtual 46, 3) := by decide +kernel
theorem d_C_answerTo_49 : decode b_C_answerTo 49 = .ok (.iload_n 3, 1) := by decide +kernel
theorem d_C_answerTo_50 : decode b_C_answerTo 50 = .ok (.lushr, 1) := by decide +kernel
theorem d_C_answerTo_51 : decode b_C_answerTo 51 = .ok (.lconst 1, 1) := by decide +kernel
theorem d_C_answerTo_52 : decode b_C_answerTo 52 = .ok (.land, 1) := by decide +kernel
theorem d_C_answerTo_53 : decode b_C_answerTo 53 = .ok (.l2i, 1) := by decide +kernel
theorem d_C_answerTo_54 : decode b_C_answerTo 54 = .ok (.iload 5, 2) := by decide +kernel
theorem d_C_answerTo_56 : decode b_C_answerTo 56 = .ok (.ishl, 1) := by decide +kernel
theorem d_C_answerTo_57 : decode b_C_answerTo 57 = .ok (.ior, 1) := by decide +kernel
theorem d_C_answerTo_58 : decode b_C_answerTo 58 = .ok (.istore 4, 2) := by decide +kernel
theorem d_C_answerTo_60 : decode b_C_answerTo 60 = .ok (.iinc 5 (1), 3) := by decide +kernel
theorem d_C_answerTo_63 : decode b_C_answerTo 63 = .ok (.goto (-31), 3) := by decide +kernel
theorem d_C_answerTo_66 : decode b_C_answerTo 66 = .ok (.iload 4, 2) := by decide +kernel
theorem d_C_answerTo_68 : decode b_C_answerTo 68 = .ok (.ireturn, 1) := by decide +kernel
theorem d_C_valuesOfOutput_0 : decode b_C_valuesOfOutput 0 = .ok (.aload_n 0, 1) := by decide +kernel
theorem d_C_valuesOfOutput_1 : decode b_C_valuesOfOutput 1 = .ok (.getfield 24, 3) := by decide +kernel
theorem d_C_valuesOfOutput_4 : decode b_C_valuesOfOutput 4 = .ok (.aload_n 0, 1) := by decide +kernel
theorem d_C_valuesOfOutput_5 : decode b_C_valuesOfOutput 5 = .ok (.getfield 21, 3) := by decide +kernel
theorem d_C_valuesOfOutput_8 : decode b_C_valuesOfOutput 8 = .ok (.iload_n 1, 1) := by decide +kernel
theorem d_C_valuesOfOutput_9 : decode b_C_valuesOfOutput 9 = .ok (.iaload, 1) := by decide +kernel
theorem d_C_valuesOfOutput_10 : decode b_C_valuesOfOutput 10 = .ok (.laload, 1) := by decide +kernel
theorem d_C_valuesOfOutput_11 : decode b_C_valuesOfOutput 11 = .ok (.lreturn, 1) := by decide +kernel
theorem d_C_settle_0 : decode b_C_settle 0 = .ok (.aload_n 0, 1) := by decide +kernel
theorem d_C_settle_1 : decode b_C_settle 1 = .ok (.invokevirtual 38, 3) := by decide +kernel
theorem d_C_settle_4 : decode b_C_settle 4 = .ok (.istore_n 3, 1) := by decide +kernel
theorem d_C_settle_5 : decode b_C_settle 5 = .ok (.iconst (0), 1) := by decide +kernel
theorem d_C_settle_6 : decode b_C_settle 6 = .ok (.istore 4, 2) := by decide +kernel
theorem d_C_settle_8 : decode b_C_settle 8 = .ok (.iload 4, 2) := by decide +kernel
theorem d_C_settle_10 : decode b_C_settle 10 = .ok (.iload_n 3, 1) := by decide +kernel
theorem d_C_settle_11 : decode b_C_settle 11 = .ok (.if_icmp .ge (64), 3) := by decide +kernel
theorem d_C_settle_14 : decode b_C_settle 14 = .ok (.iload 4, 2) := by decide +kernel
theorem d_C_settle_16 : decode b_C_settle 16 = .ok (.aload_n 0, 1) := by decide +kernel
theorem d_C_settle_17 : decode b_C_settle 17 = .ok (.getfield 28, 3) := by decide +kernel
theorem d_C_settle_20 : decode b_C_settle 20 = .ok (.if_icmp .ge (13), 3) := by decide +kernel
theorem d_C_settle_23 : decode b_C_settle 23 = .ok (.iload_n 1, 1) := by decide +kernel
theorem d_C_settle_24 : decode b_C_settle 24 = .ok (.iload 4, 2) := by decide +kernel
theorem d_C_settle_26 : decode b_C_settle 26 = .ok (.iushr, 1) := by decide +kernel
theorem d_C_settle_27 : decode b_C_settle 27 = .ok (.invokestatic 50, 3) := by decide +kernel
theorem d_C_settle_30 : decode b_C_settle 30 = .ok (.goto (14), 3) := by decide +kernel
theorem d_C_settle_33 : decode b_C_settle 33 = .ok (.aload_n 0, 1) := by decide +kernel
theorem d_C_settle_34 : decode b_C_settle 34 = .ok (.iload 4, 2) := by decide +kernel
theorem d_C_settle_36 : decode b_C_settle 36 = .ok (.aload_n 0, 1) := by decide +kernel
theorem d_C_settle_37 : decode b_C_settle 37 = .ok (.getfield 28, 3) := by decide +kernel
theorem d_C_settle_40 : decode b_C_settle 40 = .ok (.isub, 1) := by decide +kernel
theorem d_C_settle_41 : decode b_C_settle 41 = .ok (.invokevirtual 53, 3) := by decide +kernel
theorem d_C_settle_44 : decode b_C_settle 44 = .ok (.lstore 5, 2) := by decide +kernel
theorem d_C_settle_46 : decode b_C_settle 46 = .ok (.aload_n 0, 1) := by decide +kernel
theorem d_C_settle_47 : decode b_C_settle 47 = .ok (.getfield 24, 3) := by decide +kernel
theorem d_C_settle_50 : decode b_C_settle 50 = .ok (.iload 4, 2) := by decide +kernel
theorem d_C_settle_52 : decode b_C_settle 52 = .ok (.iload_n 2, 1) := by decide +kernel
theorem d_C_settle_53 : decode b_C_settle 53 = .ok (.ifCond .eq (13), 3) := by decide +kernel
theorem d_C_settle_56 : decode b_C_settle 56 = .ok (.lload 5, 2) := by decide +kernel
theorem d_C_settle_58 : decode b_C_settle 58 = .ok (.iload 4, 2) := by decide +kernel
theorem d_C_settle_60 : decode b_C_settle 60 = .ok (.invokestatic 56, 3) := by decide +kernel
theorem d_C_settle_63 : decode b_C_settle 63 = .ok (.goto (5), 3) := by decide +kernel
theorem d_C_settle_66 : decode b_C_settle 66 = .ok (.lload 5, 2) := by decide +kernel
theorem d_C_settle_68 : decode b_C_settle 68 = .ok (.lastore, 1) := by decide +kernel
theorem d_C_settle_69 : decode b_C_settle 69 = .ok (.iinc 4 (1), 3) := by decide +kernel
theorem d_C_settle_72 : decode b_C_settle 72 = .ok (.goto (-64), 3) := by decide +kernel
theorem d_C_settle_75 : decode b_C_settle 75 = .ok (.return_, 1) := by decide +kernel
theorem d_C_valuesOfGate_0 : decode b_C_valuesOfGate 0 = .ok (.aload_n 0, 1) := by decide +kernel
theorem d_C_valuesOfGate_1 : decode b_C_valuesOfGate 1 = .ok (.getfield 24, 3) := by decide +kernel
theorem d_C_valuesOfGate_4 : decode b_C_valuesOfGate 4 = .ok (.aload_n 0, 1) := by decide +kernel
theorem d_C_valuesOfGate_5 : decode b_C_valuesOfGate 5 = .ok (.getfield 15, 3) := by decide +kernel
theorem d_C_valuesOfGate_8 : decode b_C_valuesOfGate 8 = .ok (.iload_n 1, 1) := by decide +kernel
theorem d_C_valuesOfGate_9 : decode b_C_valuesOfGate 9 = .ok (.iaload, 1) := by decide +kernel
theorem d_C_valuesOfGate_10 : decode b_C_valuesOfGate 10 = .ok (.laload, 1) := by decide +kernel
theorem d_C_valuesOfGate_11 : decode b_C_valuesOfGate 11 = .ok (.lstore_n 2, 1) := by decide +kernel
theorem d_C_valuesOfGate_12 : decode b_C_valuesOfGate 12 = .ok (.aload_n 0, 1) := by decide +kernel
theorem d_C_valuesOfGate_13 : decode b_C_valuesOfGate 13 = .ok (.getfield 24, 3) := by decide +kernel
theorem d_C_valuesOfGate_16 : decode b_C_valuesOfGate 16 = .ok (.aload_n 0, 1) := by decide +kernel
theorem d_C_valuesOfGate_17 : decode b_C_valuesOfGate 17 = .ok (.getfield 18, 3) := by decide +kernel
theorem d_C_valuesOfGate_20 : decode b_C_valuesOfGate 20 = .ok (.iload_n 1, 1) := by decide +kernel
theorem d_C_valuesOfGate_21 : decode b_C_valuesOfGate 21 = .ok (.iaload, 1) := by decide +kernel
theorem d_C_valuesOfGate_22 : decode b_C_valuesOfGate 22 = .ok (.laload, 1) := by decide +kernel
theorem d_C_valuesOfGate_23 : decode b_C_valuesOfGate 23 = .ok (.lstore 4, 2) := by decide +kernel
theorem d_C_valuesOfGate_25 : decode b_C_valuesOfGate 25 = .ok (.aload_n 0, 1) := by decide +kernel
theorem d_C_valuesOfGate_26 : decode b_C_valuesOfGate 26 = .ok (.getfield 9, 3) := by decide +kernel
theorem d_C_valuesOfGate_29 : decode b_C_valuesOfGate 29 = .ok (.iload_n 1, 1) := by decide +kernel
theorem d_C_valuesOfGate_30 : decode b_C_valuesOfGate 30 = .ok (.iaload, 1) := by decide +kernel
theorem d_C_valuesOfGate_31 : decode b_C_valuesOfGate 31 = .ok (.tableswitch (66) (0) (4) #[(33), (38), (43), (48), (57)], 33) := by decide +kernel
theorem d_C_valuesOfGate_64 : decode b_C_valuesOfGate 64 = .ok (.lload_n 2, 1) := by decide +kernel
theorem d_C_valuesOfGate_65 : decode b_C_valuesOfGate 65 = .ok (.lload 4, 2) := by decide +kernel
theorem d_C_valuesOfGate_67 : decode b_C_valuesOfGate 67 = .ok (.land, 1) := by decide +kernel
theorem d_C_valuesOfGate_68 : decode b_C_valuesOfGate 68 = .ok (.lreturn, 1) := by decide +kernel
theorem d_C_valuesOfGate_69 : decode b_C_valuesOfGate 69 = .ok (.lload_n 2, 1) := by decide +kernel
theorem d_C_valuesOfGate_70 : decode b_C_valuesOfGate 70 = .ok (.lload 4, 2) := by decide +kernel
theorem d_C_valuesOfGate_72 : decode b_C_valuesOfGate 72 = .ok (.lor, 1) := by decide +kernel
theorem d_C_valuesOfGate_73 : decode b_C_valuesOfGate 73 = .ok (.lreturn, 1) := by decide +kernel
theorem d_C_valuesOfGate_74 : decode b_C_valuesOfGate 74 = .ok (.lload_n 2, 1) := by decide +kernel
theorem d_C_valuesOfGate_75 : decode b_C_valuesOfGate 75 = .ok (.lload 4, 2) := by decide +kernel
theorem d_C_valuesOfGate_77 : decode b_C_valuesOfGate 77 = .ok (.lxor, 1) := by decide +kernel
theorem d_C_valuesOfGate_78 : decode b_C_valuesOfGate 78 = .ok (.lreturn, 1) := by decide +kernel
theorem d_C_valuesOfGate_79 : decode b_C_valuesOfGate 79 = .ok (.lload_n 2, 1) := by decide +kernel
theorem d_C_valuesOfGate_80 : decode b_C_valuesOfGate 80 = .ok (.lload 4, 2) := by decide +kernel
theorem d_C_valuesOfGate_82 : decode b_C_valuesOfGate 82 = .ok (.land, 1) := by decide +kernel
theorem d_C_valuesOfGate_83 : decode b_C_valuesOfGate 83 = .ok (.ldc2_w 60, 3) := by decide +kernel
theorem d_C_valuesOfGate_86 : decode b_C_valuesOfGate 86 = .ok (.lxor, 1) := by decide +kernel
theorem d_C_valuesOfGate_87 : decode b_C_valuesOfGate 87 = .ok (.lreturn, 1) := by decide +kernel
theorem d_C_valuesOfGate_88 : decode b_C_valuesOfGate 88 = .ok (.lload_n 2, 1) := by decide +kernel
theorem d_C_valuesOfGate_89 : decode b_C_valuesOfGate 89 = .ok (.lload 4, 2) := by decide +kernel
theorem d_C_valuesOfGate_91 : decode b_C_valuesOfGate 91 = .ok (.lor, 1) := by decide +kernel
theorem d_C_valuesOfGate_92 : decode b_C_valuesOfGate 92 = .ok (.ldc2_w 60, 3) := by decide +kernel
theorem d_C_valuesOfGate_95 : decode b_C_valuesOfGate 95 = .ok (.lxor, 1) := by decide +kernel
theorem d_C_valuesOfGate_96 : decode b_C_valuesOfGate 96 = .ok (.lreturn, 1) := by decide +kernel
theorem d_C_valuesOfGate_97 : decode b_C_valuesOfGate 97 = .ok (.lload_n 2, 1) := by decide +kernel
theorem d_C_valuesOfGate_98 : decode b_C_valuesOfGate 98 = .ok (.ldc2_w 60, 3) := by decide +kernel
theorem d_C_valuesOfGate_101 : decode b_C_valuesOfGate 101 = .ok (.lxor, 1) := by decide +kernel
theorem d_C_valuesOfGate_102 : decode b_C_valuesOfGate 102 = .ok (.lreturn, 1) := by decide +kernel
theorem d_C_withStuck_0 : decode b_C_withStuck 0 = .ok (.lconst 1, 1) := by decide +kernel
theorem d_C_withStuck_1 : decode b_C_withStuck 1 = .ok (.iconst (2), 1) := by decide +kernel
theorem d_C_withStuck_2 : decode b_C_withStuck 2 = .ok (.iload_n 2, 1) := by decide +kernel
theorem d_C_withStuck_3 : decode b_C_withStuck 3 = .ok (.imul, 1) := by decide +kernel
theorem d_C_withStuck_4 : decode b_C_withStuck 4 = .ok (.lshl, 1) := by decide +kernel
theorem d_C_withStuck_5 : decode b_C_withStuck 5 = .ok (.lstore_n 3, 1) := by decide +kernel
theorem d_C_withStuck_6 : decode b_C_withStuck 6 = .ok (.lload_n 3, 1) := by decide +kernel
theorem d_C_withStuck_7 : decode b_C_withStuck 7 = .ok (.iconst (1), 1) := by decide +kernel
theorem d_C_withStuck_8 : decode b_C_withStuck 8 = .ok (.lshl, 1) := by decide +kernel
theorem d_C_withStuck_9 : decode b_C_withStuck 9 = .ok (.lstore 5, 2) := by decide +kernel
theorem d_C_withStuck_11 : decode b_C_withStuck 11 = .ok (.lload_n 0, 1) := by decide +kernel
theorem d_C_withStuck_12 : decode b_C_withStuck 12 = .ok (.lload_n 3, 1) := by decide +kernel
theorem d_C_withStuck_13 : decode b_C_withStuck 13 = .ok (.ldc2_w 60, 3) := by decide +kernel
theorem d_C_withStuck_16 : decode b_C_withStuck 16 = .ok (.lxor, 1) := by decide +kernel
theorem d_C_withStuck_17 : decode b_C_withStuck 17 = .ok (.land, 1) := by decide +kernel
theorem d_C_withStuck_18 : decode b_C_withStuck 18 = .ok (.lload 5, 2) := by decide +kernel
theorem d_C_withStuck_20 : decode b_C_withStuck 20 = .ok (.lor, 1) := by decide +kernel
theorem d_C_withStuck_21 : decode b_C_withStuck 21 = .ok (.lreturn, 1) := by decide +kernel
theorem d_C_spread_0 : decode b_C_spread 0 = .ok (.iload_n 0, 1) := by decide +kernel
theorem d_C_spread_1 : decode b_C_spread 1 = .ok (.iconst (1), 1) := by decide +kernel
theorem d_C_spread_2 : decode b_C_spread 2 = .ok (.iand, 1) := by decide +kernel
theorem d_C_spread_3 : decode b_C_spread 3 = .ok (.i2l, 1) := by decide +kernel
theorem d_C_spread_4 : decode b_C_spread 4 = .ok (.lneg, 1) := by decide +kernel
theorem d_C_spread_5 : decode b_C_spread 5 = .ok (.lreturn, 1) := by decide +kernel
theorem d_D_init_0 : decode b_D_init 0 = .ok (.aload_n 0, 1) := by decide +kernel
theorem d_D_init_1 : decode b_D_init 1 = .ok (.invokespecial 3, 3) := by decide +kernel
theorem d_D_init_4 : decode b_D_init 4 = .ok (.aload_n 0, 1) := by decide +kernel
theorem d_D_init_5 : decode b_D_init 5 = .ok (.bipush (33), 2) := by decide +kernel
theorem d_D_init_7 : decode b_D_init 7 = .ok (.newarray .long, 2) := by decide +kernel
theorem d_D_init_9 : decode b_D_init 9 = .ok (.putfield 9, 3) := by decide +kernel
theorem d_D_init_12 : decode b_D_init 12 = .ok (.return_, 1) := by decide +kernel
theorem d_D_clear_0 : decode b_D_clear 0 = .ok (.aload_n 0, 1) := by decide +kernel
theorem d_D_clear_1 : decode b_D_clear 1 = .ok (.lconst 0, 1) := by decide +kernel
theorem d_D_clear_2 : decode b_D_clear 2 = .ok (.putfield 15, 3) := by decide +kernel
theorem d_D_clear_5 : decode b_D_clear 5 = .ok (.iconst (0), 1) := by decide +kernel
theorem d_D_clear_6 : decode b_D_clear 6 = .ok (.istore_n 1, 1) := by decide +kernel
theorem d_D_clear_7 : decode b_D_clear 7 = .ok (.iload_n 1, 1) := by decide +kernel
theorem d_D_clear_8 : decode b_D_clear 8 = .ok (.aload_n 0, 1) := by decide +kernel
theorem d_D_clear_9 : decode b_D_clear 9 = .ok (.getfield 9, 3) := by decide +kernel
theorem d_D_clear_12 : decode b_D_clear 12 = .ok (.arraylength, 1) := by decide +kernel
theorem d_D_clear_13 : decode b_D_clear 13 = .ok (.if_icmp .ge (16), 3) := by decide +kernel
theorem d_D_clear_16 : decode b_D_clear 16 = .ok (.aload_n 0, 1) := by decide +kernel
theorem d_D_clear_17 : decode b_D_clear 17 = .ok (.getfield 9, 3) := by decide +kernel
theorem d_D_clear_20 : decode b_D_clear 20 = .ok (.iload_n 1, 1) := by decide +kernel
theorem d_D_clear_21 : decode b_D_clear 21 = .ok (.lconst 0, 1) := by decide +kernel
theorem d_D_clear_22 : decode b_D_clear 22 = .ok (.lastore, 1) := by decide +kernel
theorem d_D_clear_23 : decode b_D_clear 23 = .ok (.iinc 1 (1), 3) := by decide +kernel
theorem d_D_clear_26 : decode b_D_clear 26 = .ok (.goto (-19), 3) := by decide +kernel
theorem d_D_clear_29 : decode b_D_clear 29 = .ok (.return_, 1) := by decide +kernel
theorem d_D_timesX_0 : decode b_D_timesX 0 = .ok (.aload_n 0, 1) := by decide +kernel
theorem d_D_timesX_1 : decode b_D_timesX 1 = .ok (.getfield 9, 3) := by decide +kernel
theorem d_D_timesX_4 : decode b_D_timesX 4 = .ok (.arraylength, 1) := by decide +kernel
theorem d_D_timesX_5 : decode b_D_timesX 5 = .ok (.iconst (1), 1) := by decide +kernel
theorem d_D_timesX_6 : decode b_D_timesX 6 = .ok (.isub, 1) := by decide +kernel
theorem d_D_timesX_7 : decode b_D_timesX 7 = .ok (.istore_n 1, 1) := by decide +kernel
theorem d_D_timesX_8 : decode b_D_timesX 8 = .ok (.iload_n 1, 1) := by decide +kernel
theorem d_D_timesX_9 : decode b_D_timesX 9 = .ok (.ifCond .le (23), 3) := by decide +kernel
theorem d_D_timesX_12 : decode b_D_timesX 12 = .ok (.aload_n 0, 1) := by decide +kernel
theorem d_D_timesX_13 : decode b_D_timesX 13 = .ok (.getfield 9, 3) := by decide +kernel
theorem d_D_timesX_16 : decode b_D_timesX 16 = .ok (.iload_n 1, 1) := by decide +kernel
theorem d_D_timesX_17 : decode b_D_timesX 17 = .ok (.aload_n 0, 1) := by decide +kernel
theorem d_D_timesX_18 : decode b_D_timesX 18 = .ok (.getfield 9, 3) := by decide +kernel
theorem d_D_timesX_21 : decode b_D_timesX 21 = .ok (.iload_n 1, 1) := by decide +kernel
theorem d_D_timesX_22 : decode b_D_timesX 22 = .ok (.iconst (1), 1) := by decide +kernel
theorem d_D_timesX_23 : decode b_D_timesX 23 = .ok (.isub, 1) := by decide +kernel
theorem d_D_timesX_24 : decode b_D_timesX 24 = .ok (.laload, 1) := by decide +kernel
theorem d_D_timesX_25 : decode b_D_timesX 25 = .ok (.lastore, 1) := by decide +kernel
theorem d_D_timesX_26 : decode b_D_timesX 26 = .ok (.iinc 1 (-1), 3) := by decide +kernel
theorem d_D_timesX_29 : decode b_D_timesX 29 = .ok (.goto (-21), 3) := by decide +kernel
theorem d_D_timesX_32 : decode b_D_timesX 32 = .ok (.aload_n 0, 1) := by decide +kernel
theorem d_D_timesX_33 : decode b_D_timesX 33 = .ok (.getfield 9, 3) := by decide +kernel
theorem d_D_timesX_36 : decode b_D_timesX 36 = .ok (.iconst (0), 1) := by decide +kernel
theorem d_D_timesX_37 : decode b_D_timesX 37 = .ok (.lconst 0, 1) := by decide +kernel
theorem d_D_timesX_38 : decode b_D_timesX 38 = .ok (.lastore, 1) := by decide +kernel
theorem d_D_timesX_39 : decode b_D_timesX 39 = .ok (.return_, 1) := by decide +kernel
theorem d_D_addAnswers_0 : decode b_D_addAnswers 0 = .ok (.aload_n 1, 1) := by decide +kernel
theorem d_D_addAnswers_1 : decode b_D_addAnswers 1 = .ok (.iload_n 2, 1) := by decide +kernel
theorem d_D_addAnswers_2 : decode b_D_addAnswers 2 = .ok (.iconst (-1), 1) := by decide +kernel
theorem d_D_addAnswers_3 : decode b_D_addAnswers 3 = .ok (.invokevirtual 19, 3) := by decide +kernel
theorem d_D_addAnswers_6 : decode b_D_addAnswers 6 = .ok (.istore_n 3, 1) := by decide +kernel
theorem d_D_addAnswers_7 : decode b_D_addAnswers 7 = .ok (.aload_n 1, 1) := by decide +kernel
theorem d_D_addAnswers_8 : decode b_D_addAnswers 8 = .ok (.iload_n 2, 1) := by decide +kernel
theorem d_D_addAnswers_9 : decode b_D_addAnswers 9 = .ok (.iconst (1), 1) := by decide +kernel
theorem d_D_addAnswers_10 : decode b_D_addAnswers 10 = .ok (.invokevirtual 25, 3) := by decide +kernel
theorem d_D_addAnswers_13 : decode b_D_addAnswers 13 = .ok (.iconst (0), 1) := by decide +kernel
theorem d_D_addAnswers_14 : decode b_D_addAnswers 14 = .ok (.istore 4, 2) := by decide +kernel
theorem d_D_addAnswers_16 : decode b_D_addAnswers 16 = .ok (.iload 4, 2) := by decide +kernel
theorem d_D_addAnswers_18 : decode b_D_addAnswers 18 = .ok (.aload_n 1, 1) := by decide +kernel
theorem d_D_addAnswers_19 : decode b_D_addAnswers 19 = .ok (.getfield 29, 3) := by decide +kernel
theorem d_D_addAnswers_22 : decode b_D_addAnswers 22 = .ok (.if_icmp .ge (48), 3) := by decide +kernel
theorem d_D_addAnswers_25 : decode b_D_addAnswers 25 = .ok (.aload_n 1, 1) := by decide +kernel
theorem d_D_addAnswers_26 : decode b_D_addAnswers 26 = .ok (.iload 4, 2) := by decide +kernel
theorem d_D_addAnswers_28 : decode b_D_addAnswers 28 = .ok (.invokevirtual 33, 3) := by decide +kernel
theorem d_D_addAnswers_31 : decode b_D_addAnswers 31 = .ok (.iload_n 3, 1) := by decide +kernel
theorem d_D_addAnswers_32 : decode b_D_addAnswers 32 = .ok (.iload 4, 2) := by decide +kernel
theorem d_D_addAnswers_34 : decode b_D_addAnswers 34 = .ok (.iushr, 1) := by decide +kernel
theorem d_D_addAnswers_35 : decode b_D_addAnswers 35 = .ok (.invokestatic 37, 3) := by decide +kernel
theorem d_D_addAnswers_38 : decode b_D_addAnswers 38 = .ok (.lxor, 1) := by decide +kernel
theorem d_D_addAnswers_39 : decode b_D_addAnswers 39 = .ok (.lstore 5, 2) := by decide +kernel
theorem d_D_addAnswers_41 : decode b_D_addAnswers 41 = .ok (.aload_n 0, 1) := by decide +kernel
theorem d_D_addAnswers_42 : decode b_D_addAnswers 42 = .ok (.getfield 9, 3) := by decide +kernel
theorem d_D_addAnswers_45 : decode b_D_addAnswers 45 = .ok (.iload 4, 2) := by decide +kernel
theorem d_D_addAnswers_47 : decode b_D_addAnswers 47 = .ok (.dup2, 1) := by decide +kernel
theorem d_D_addAnswers_48 : decode b_D_addAnswers 48 = .ok (.laload, 1) := by decide +kernel
theorem d_D_addAnswers_49 : decode b_D_addAnswers 49 = .ok (.lload 5, 2) := by decide +kernel
theorem d_D_addAnswers_51 : decode b_D_addAnswers 51 = .ok (.lxor, 1) := by decide +kernel
theorem d_D_addAnswers_52 : decode b_D_addAnswers 52 = .ok (.lastore, 1) := by decide +kernel
theorem d_D_addAnswers_53 : decode b_D_addAnswers 53 = .ok (.aload_n 0, 1) := by decide +kernel
theorem d_D_addAnswers_54 : decode b_D_addAnswers 54 = .ok (.dup, 1) := by decide +kernel
theorem d_D_addAnswers_55 : decode b_D_addAnswers 55 = .ok (.getfield 15, 3) := by decide +kernel
theorem d_D_addAnswers_58 : decode b_D_addAnswers 58 = .ok (.lload 5, 2) := by decide +kernel
theorem d_D_addAnswers_60 : decode b_D_addAnswers 60 = .ok (.lor, 1) := by decide +kernel
theorem d_D_addAnswers_61 : decode b_D_addAnswers 61 = .ok (.putfield 15, 3) := by decide +kernel
theorem d_D_addAnswers_64 : decode b_D_addAnswers 64 = .ok (.iinc 4 (1), 3) := by decide +kernel
theorem d_D_addAnswers_67 : decode b_D_addAnswers 67 = .ok (.goto (-51), 3) := by decide +kernel
theorem d_D_addAnswers_70 : decode b_D_addAnswers 70 = .ok (.return_, 1) := by decide +kernel
theorem d_D_reduce_0 : decode b_D_reduce 0 = .ok (.aload_n 0, 1) := by decide +kernel
theorem d_D_reduce_1 : decode b_D_reduce 1 = .ok (.getfield 9, 3) := by decide +kernel
theorem d_D_reduce_4 : decode b_D_reduce 4 = .ok (.arraylength, 1) := by decide +kernel
theorem d_D_reduce_5 : decode b_D_reduce 5 = .ok (.iconst (1), 1) := by decide +kernel
theorem d_D_reduce_6 : decode b_D_reduce 6 = .ok (.isub, 1) := by decide +kernel
theorem d_D_reduce_7 : decode b_D_reduce 7 = .ok (.istore_n 2, 1) := by decide +kernel
theorem d_D_reduce_8 : decode b_D_reduce 8 = .ok (.iload_n 2, 1) := by decide +kernel
theorem d_D_reduce_9 : decode b_D_reduce 9 = .ok (.aload_n 1, 1) := by decide +kernel
theorem d_D_reduce_10 : decode b_D_reduce 10 = .ok (.getfield 40, 3) := by decide +kernel
theorem d_D_reduce_13 : decode b_D_reduce 13 = .ok (.if_icmp .lt (37), 3) := by decide +kernel
theorem d_D_reduce_16 : decode b_D_reduce 16 = .ok (.aload_n 0, 1) := by decide +kernel
theorem d_D_reduce_17 : decode b_D_reduce 17 = .ok (.getfield 9, 3) := by decide +kernel
theorem d_D_reduce_20 : decode b_D_reduce 20 = .ok (.iload_n 2, 1) := by decide +kernel
theorem d_D_reduce_21 : decode b_D_reduce 21 = .ok (.laload, 1) := by decide +kernel
theorem d_D_reduce_22 : decode b_D_reduce 22 = .ok (.lstore_n 3, 1) := by decide +kernel
theorem d_D_reduce_23 : decode b_D_reduce 23 = .ok (.lload_n 3, 1) := by decide +kernel
theorem d_D_reduce_24 : decode b_D_reduce 24 = .ok (.lconst 0, 1) := by decide +kernel
theorem d_D_reduce_25 : decode b_D_reduce 25 = .ok (.lcmp, 1) := by decide +kernel
theorem d_D_reduce_26 : decode b_D_reduce 26 = .ok (.ifCond .eq (18), 3) := by decide +kernel
theorem d_D_reduce_29 : decode b_D_reduce 29 = .ok (.aload_n 0, 1) := by decide +kernel
theorem d_D_reduce_30 : decode b_D_reduce 30 = .ok (.lload_n 3, 1) := by decide +kernel
theorem d_D_reduce_31 : decode b_D_reduce 31 = .ok (.aload_n 1, 1) := by decide +kernel
theorem d_D_reduce_32 : decode b_D_reduce 32 = .ok (.getfield 45, 3) := by decide +kernel
theorem d_D_reduce_35 : decode b_D_reduce 35 = .ok (.iload_n 2, 1) := by decide +kernel
theorem d_D_reduce_36 : decode b_D_reduce 36 = .ok (.aload_n 1, 1) := by decide +kernel
theorem d_D_reduce_37 : decode b_D_reduce 37 = .ok (.getfield 40, 3) := by decide +kernel
theorem d_D_reduce_40 : decode b_D_reduce 40 = .ok (.isub, 1) := by decide +kernel
theorem d_D_reduce_41 : decode b_D_reduce 41 = .ok (.invokevirtual 48, 3) := by decide +kernel
theorem d_D_reduce_44 : decode b_D_reduce 44 = .ok (.iinc 2 (-1), 3) := by decide +kernel
theorem d_D_reduce_47 : decode b_D_reduce 47 = .ok (.goto (-39), 3) := by decide +kernel
theorem d_D_reduce_50 : decode b_D_reduce 50 = .ok (.return_, 1) := by decide +kernel
theorem d_D_subtract_0 : decode b_D_subtract 0 = .ok (.iconst (0), 1) := by decide +kernel
theorem d_D_subtract_1 : decode b_D_subtract 1 = .ok (.istore 6, 2) := by decide +kernel
theorem d_D_subtract_3 : decode b_D_subtract 3 = .ok (.iload 6, 2) := by decide +kernel
theorem d_D_subtract_5 : decode b_D_subtract 5 = .ok (.iload 5, 2) := by decide +kernel
theorem d_D_subtract_7 : decode b_D_subtract 7 = .ok (.iadd, 1) := by decide +kernel
theorem d_D_subtract_8 : decode b_D_subtract 8 = .ok (.aload_n 0, 1) := by decide +kernel
theorem d_D_subtract_9 : decode b_D_subtract 9 = .ok (.getfield 9, 3) := by decide +kernel
theorem d_D_subtract_12 : decode b_D_subtract 12 = .ok (.arraylength, 1) := by decide +kernel
theorem d_D_subtract_13 : decode b_D_subtract 13 = .ok (.if_icmp .ge (34), 3) := by decide +kernel
theorem d_D_subtract_16 : decode b_D_subtract 16 = .ok (.lload_n 3, 1) := by decide +kernel
