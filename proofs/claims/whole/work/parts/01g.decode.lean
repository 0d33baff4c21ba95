/-! decode rows, by program -/
theorem d_MO_fits_94 : decode b_MO_fits 94 = .ok (.istore 5, 2) := by decide +kernel
theorem d_MO_fits_96 : decode b_MO_fits 96 = .ok (.aload_n 0, 1) := by decide +kernel
theorem d_MO_fits_97 : decode b_MO_fits 97 = .ok (.getfield 34, 3) := by decide +kernel
theorem d_MO_fits_100 : decode b_MO_fits 100 = .ok (.iload 7, 2) := by decide +kernel
theorem d_MO_fits_102 : decode b_MO_fits 102 = .ok (.iload 4, 2) := by decide +kernel
theorem d_MO_fits_104 : decode b_MO_fits 104 = .ok (.iload 7, 2) := by decide +kernel
theorem d_MO_fits_106 : decode b_MO_fits 106 = .ok (.ishr, 1) := by decide +kernel
theorem d_MO_fits_107 : decode b_MO_fits 107 = .ok (.iconst 1, 1) := by decide +kernel
theorem d_MO_fits_108 : decode b_MO_fits 108 = .ok (.iand, 1) := by decide +kernel
theorem d_MO_fits_109 : decode b_MO_fits 109 = .ok (.ifCond .ne 8, 3) := by decide +kernel
theorem d_MO_fits_112 : decode b_MO_fits 112 = .ok (.iload 8, 2) := by decide +kernel
theorem d_MO_fits_114 : decode b_MO_fits 114 = .ok (.goto 10, 3) := by decide +kernel
theorem d_MO_fits_117 : decode b_MO_fits 117 = .ok (.aload_n 0, 1) := by decide +kernel
theorem d_MO_fits_118 : decode b_MO_fits 118 = .ok (.getfield 34, 3) := by decide +kernel
theorem d_MO_fits_121 : decode b_MO_fits 121 = .ok (.iload 7, 2) := by decide +kernel
theorem d_MO_fits_123 : decode b_MO_fits 123 = .ok (.iaload, 1) := by decide +kernel
theorem d_MO_fits_124 : decode b_MO_fits 124 = .ok (.iastore, 1) := by decide +kernel
theorem d_MO_fits_125 : decode b_MO_fits 125 = .ok (.iload 4, 2) := by decide +kernel
theorem d_MO_fits_127 : decode b_MO_fits 127 = .ok (.iconst 1, 1) := by decide +kernel
theorem d_MO_fits_128 : decode b_MO_fits 128 = .ok (.iload 7, 2) := by decide +kernel
theorem d_MO_fits_130 : decode b_MO_fits 130 = .ok (.ishl, 1) := by decide +kernel
theorem d_MO_fits_131 : decode b_MO_fits 131 = .ok (.ior, 1) := by decide +kernel
theorem d_MO_fits_132 : decode b_MO_fits 132 = .ok (.istore 4, 2) := by decide +kernel
theorem d_MO_fits_134 : decode b_MO_fits 134 = .ok (.iinc 6 1, 3) := by decide +kernel
theorem d_MO_fits_137 : decode b_MO_fits 137 = .ok (.goto (-117), 3) := by decide +kernel
theorem d_MO_fits_140 : decode b_MO_fits 140 = .ok (.iload 5, 2) := by decide +kernel
theorem d_MO_fits_142 : decode b_MO_fits 142 = .ok (.ireturn, 1) := by decide +kernel
theorem d_MO_before_0 : decode b_MO_before 0 = .ok (.iconst 0, 1) := by decide +kernel
theorem d_MO_before_1 : decode b_MO_before 1 = .ok (.istore_n 2, 1) := by decide +kernel
theorem d_MO_before_2 : decode b_MO_before 2 = .ok (.iconst 0, 1) := by decide +kernel
theorem d_MO_before_3 : decode b_MO_before 3 = .ok (.istore_n 3, 1) := by decide +kernel
theorem d_MO_before_4 : decode b_MO_before 4 = .ok (.iload_n 3, 1) := by decide +kernel
theorem d_MO_before_5 : decode b_MO_before 5 = .ok (.iload_n 1, 1) := by decide +kernel
theorem d_MO_before_6 : decode b_MO_before 6 = .ok (.if_icmp .ge 17, 3) := by decide +kernel
theorem d_MO_before_9 : decode b_MO_before 9 = .ok (.iload_n 2, 1) := by decide +kernel
theorem d_MO_before_10 : decode b_MO_before 10 = .ok (.aload_n 0, 1) := by decide +kernel
theorem d_MO_before_11 : decode b_MO_before 11 = .ok (.iload_n 3, 1) := by decide +kernel
theorem d_MO_before_12 : decode b_MO_before 12 = .ok (.invokevirtual 83, 3) := by decide +kernel
theorem d_MO_before_15 : decode b_MO_before 15 = .ok (.ior, 1) := by decide +kernel
theorem d_MO_before_16 : decode b_MO_before 16 = .ok (.istore_n 2, 1) := by decide +kernel
theorem d_MO_before_17 : decode b_MO_before 17 = .ok (.iinc 3 1, 3) := by decide +kernel
theorem d_MO_before_20 : decode b_MO_before 20 = .ok (.goto (-16), 3) := by decide +kernel
theorem d_MO_before_23 : decode b_MO_before 23 = .ok (.iload_n 2, 1) := by decide +kernel
theorem d_MO_before_24 : decode b_MO_before 24 = .ok (.ireturn, 1) := by decide +kernel
theorem d_MO_live_0 : decode b_MO_live 0 = .ok (.aload_n 0, 1) := by decide +kernel
theorem d_MO_live_1 : decode b_MO_live 1 = .ok (.aload_n 0, 1) := by decide +kernel
theorem d_MO_live_2 : decode b_MO_live 2 = .ok (.invokevirtual 93, 3) := by decide +kernel
theorem d_MO_live_5 : decode b_MO_live 5 = .ok (.ifCond .ne 7, 3) := by decide +kernel
theorem d_MO_live_8 : decode b_MO_live 8 = .ok (.iconst 1, 1) := by decide +kernel
theorem d_MO_live_9 : decode b_MO_live 9 = .ok (.goto 16, 3) := by decide +kernel
theorem d_MO_live_12 : decode b_MO_live 12 = .ok (.aload_n 0, 1) := by decide +kernel
theorem d_MO_live_13 : decode b_MO_live 13 = .ok (.iload_n 1, 1) := by decide +kernel
theorem d_MO_live_14 : decode b_MO_live 14 = .ok (.invokevirtual 97, 3) := by decide +kernel
theorem d_MO_live_17 : decode b_MO_live 17 = .ok (.ifCond .ne 7, 3) := by decide +kernel
theorem d_MO_live_20 : decode b_MO_live 20 = .ok (.iconst 2, 1) := by decide +kernel
theorem d_MO_live_21 : decode b_MO_live 21 = .ok (.goto 4, 3) := by decide +kernel
theorem d_MO_live_24 : decode b_MO_live 24 = .ok (.iconst 0, 1) := by decide +kernel
theorem d_MO_live_25 : decode b_MO_live 25 = .ok (.putfield 49, 3) := by decide +kernel
theorem d_MO_live_28 : decode b_MO_live 28 = .ok (.aload_n 0, 1) := by decide +kernel
theorem d_MO_live_29 : decode b_MO_live 29 = .ok (.getfield 49, 3) := by decide +kernel
theorem d_MO_live_32 : decode b_MO_live 32 = .ok (.ifCond .le 5, 3) := by decide +kernel
theorem d_MO_live_35 : decode b_MO_live 35 = .ok (.iconst 0, 1) := by decide +kernel
theorem d_MO_live_36 : decode b_MO_live 36 = .ok (.ireturn, 1) := by decide +kernel
theorem d_MO_live_37 : decode b_MO_live 37 = .ok (.aload_n 0, 1) := by decide +kernel
theorem d_MO_live_38 : decode b_MO_live 38 = .ok (.invokevirtual 118, 3) := by decide +kernel
theorem d_MO_live_41 : decode b_MO_live 41 = .ok (.iconst 0, 1) := by decide +kernel
theorem d_MO_live_42 : decode b_MO_live 42 = .ok (.istore_n 2, 1) := by decide +kernel
theorem d_MO_live_43 : decode b_MO_live 43 = .ok (.iconst 0, 1) := by decide +kernel
theorem d_MO_live_44 : decode b_MO_live 44 = .ok (.istore_n 3, 1) := by decide +kernel
theorem d_MO_live_45 : decode b_MO_live 45 = .ok (.iload_n 3, 1) := by decide +kernel
theorem d_MO_live_46 : decode b_MO_live 46 = .ok (.bipush 12, 2) := by decide +kernel
theorem d_MO_live_48 : decode b_MO_live 48 = .ok (.if_icmp .ge 22, 3) := by decide +kernel
theorem d_MO_live_51 : decode b_MO_live 51 = .ok (.iload_n 2, 1) := by decide +kernel
theorem d_MO_live_52 : decode b_MO_live 52 = .ok (.aload_n 0, 1) := by decide +kernel
theorem d_MO_live_53 : decode b_MO_live 53 = .ok (.getfield 40, 3) := by decide +kernel
theorem d_MO_live_56 : decode b_MO_live 56 = .ok (.iload_n 1, 1) := by decide +kernel
theorem d_MO_live_57 : decode b_MO_live 57 = .ok (.iaload, 1) := by decide +kernel
theorem d_MO_live_58 : decode b_MO_live 58 = .ok (.iload_n 3, 1) := by decide +kernel
theorem d_MO_live_59 : decode b_MO_live 59 = .ok (.ishr, 1) := by decide +kernel
theorem d_MO_live_60 : decode b_MO_live 60 = .ok (.iconst 1, 1) := by decide +kernel
theorem d_MO_live_61 : decode b_MO_live 61 = .ok (.iand, 1) := by decide +kernel
theorem d_MO_live_62 : decode b_MO_live 62 = .ok (.iadd, 1) := by decide +kernel
theorem d_MO_live_63 : decode b_MO_live 63 = .ok (.istore_n 2, 1) := by decide +kernel
theorem d_MO_live_64 : decode b_MO_live 64 = .ok (.iinc 3 1, 3) := by decide +kernel
theorem d_MO_live_67 : decode b_MO_live 67 = .ok (.goto (-22), 3) := by decide +kernel
theorem d_MO_live_70 : decode b_MO_live 70 = .ok (.iload_n 2, 1) := by decide +kernel
theorem d_MO_live_71 : decode b_MO_live 71 = .ok (.ireturn, 1) := by decide +kernel
theorem d_MO_answers_0 : decode b_MO_answers 0 = .ok (.aload_n 0, 1) := by decide +kernel
theorem d_MO_answers_1 : decode b_MO_answers 1 = .ok (.aload_n 0, 1) := by decide +kernel
theorem d_MO_answers_2 : decode b_MO_answers 2 = .ok (.invokevirtual 124, 3) := by decide +kernel
theorem d_MO_answers_5 : decode b_MO_answers 5 = .ok (.putfield 49, 3) := by decide +kernel
theorem d_MO_answers_8 : decode b_MO_answers 8 = .ok (.aload_n 0, 1) := by decide +kernel
theorem d_MO_answers_9 : decode b_MO_answers 9 = .ok (.getfield 49, 3) := by decide +kernel
theorem d_MO_answers_12 : decode b_MO_answers 12 = .ok (.ifCond .le 7, 3) := by decide +kernel
theorem d_MO_answers_15 : decode b_MO_answers 15 = .ok (.iconst 0, 1) := by decide +kernel
theorem d_MO_answers_16 : decode b_MO_answers 16 = .ok (.goto 7, 3) := by decide +kernel
theorem d_MO_answers_19 : decode b_MO_answers 19 = .ok (.aload_n 0, 1) := by decide +kernel
theorem d_MO_answers_20 : decode b_MO_answers 20 = .ok (.getfield 114, 3) := by decide +kernel
theorem d_MO_answers_23 : decode b_MO_answers 23 = .ok (.ireturn, 1) := by decide +kernel
theorem d_MO_codeOfAnswers_0 : decode b_MO_codeOfAnswers 0 = .ok (.aload_n 0, 1) := by decide +kernel
theorem d_MO_codeOfAnswers_1 : decode b_MO_codeOfAnswers 1 = .ok (.invokevirtual 93, 3) := by decide +kernel
theorem d_MO_codeOfAnswers_4 : decode b_MO_codeOfAnswers 4 = .ok (.ifCond .ne 5, 3) := by decide +kernel
theorem d_MO_codeOfAnswers_7 : decode b_MO_codeOfAnswers 7 = .ok (.iconst 1, 1) := by decide +kernel
theorem d_MO_codeOfAnswers_8 : decode b_MO_codeOfAnswers 8 = .ok (.ireturn, 1) := by decide +kernel
theorem d_MO_codeOfAnswers_9 : decode b_MO_codeOfAnswers 9 = .ok (.aload_n 0, 1) := by decide +kernel
theorem d_MO_codeOfAnswers_10 : decode b_MO_codeOfAnswers 10 = .ok (.invokevirtual 121, 3) := by decide +kernel
theorem d_MO_codeOfAnswers_13 : decode b_MO_codeOfAnswers 13 = .ok (.ifCond .ne 5, 3) := by decide +kernel
theorem d_MO_codeOfAnswers_16 : decode b_MO_codeOfAnswers 16 = .ok (.iconst 2, 1) := by decide +kernel
theorem d_MO_codeOfAnswers_17 : decode b_MO_codeOfAnswers 17 = .ok (.ireturn, 1) := by decide +kernel
theorem d_MO_codeOfAnswers_18 : decode b_MO_codeOfAnswers 18 = .ok (.aload_n 0, 1) := by decide +kernel
theorem d_MO_codeOfAnswers_19 : decode b_MO_codeOfAnswers 19 = .ok (.invokevirtual 118, 3) := by decide +kernel
theorem d_MO_codeOfAnswers_22 : decode b_MO_codeOfAnswers 22 = .ok (.aload_n 0, 1) := by decide +kernel
theorem d_MO_codeOfAnswers_23 : decode b_MO_codeOfAnswers 23 = .ok (.getfield 114, 3) := by decide +kernel
theorem d_MO_codeOfAnswers_26 : decode b_MO_codeOfAnswers 26 = .ok (.bipush 64, 2) := by decide +kernel
theorem d_MO_codeOfAnswers_28 : decode b_MO_codeOfAnswers 28 = .ok (.if_icmp .le 7, 3) := by decide +kernel
theorem d_MO_codeOfAnswers_31 : decode b_MO_codeOfAnswers 31 = .ok (.iconst 3, 1) := by decide +kernel
theorem d_MO_codeOfAnswers_32 : decode b_MO_codeOfAnswers 32 = .ok (.goto 4, 3) := by decide +kernel
theorem d_MO_codeOfAnswers_35 : decode b_MO_codeOfAnswers 35 = .ok (.iconst 0, 1) := by decide +kernel
theorem d_MO_codeOfAnswers_36 : decode b_MO_codeOfAnswers 36 = .ok (.ireturn, 1) := by decide +kernel
theorem d_MO_isHeadBound_0 : decode b_MO_isHeadBound 0 = .ok (.iconst 1, 1) := by decide +kernel
theorem d_MO_isHeadBound_1 : decode b_MO_isHeadBound 1 = .ok (.istore_n 1, 1) := by decide +kernel
theorem d_MO_isHeadBound_2 : decode b_MO_isHeadBound 2 = .ok (.iconst 0, 1) := by decide +kernel
theorem d_MO_isHeadBound_3 : decode b_MO_isHeadBound 3 = .ok (.istore_n 2, 1) := by decide +kernel
theorem d_MO_isHeadBound_4 : decode b_MO_isHeadBound 4 = .ok (.iload_n 2, 1) := by decide +kernel
theorem d_MO_isHeadBound_5 : decode b_MO_isHeadBound 5 = .ok (.aload_n 0, 1) := by decide +kernel
theorem d_MO_isHeadBound_6 : decode b_MO_isHeadBound 6 = .ok (.getfield 74, 3) := by decide +kernel
theorem d_MO_isHeadBound_9 : decode b_MO_isHeadBound 9 = .ok (.if_icmp .ge 40, 3) := by decide +kernel
theorem d_MO_isHeadBound_12 : decode b_MO_isHeadBound 12 = .ok (.iload_n 1, 1) := by decide +kernel
theorem d_MO_isHeadBound_13 : decode b_MO_isHeadBound 13 = .ok (.ifCond .eq 28, 3) := by decide +kernel
theorem d_MO_isHeadBound_16 : decode b_MO_isHeadBound 16 = .ok (.aload_n 0, 1) := by decide +kernel
theorem d_MO_isHeadBound_17 : decode b_MO_isHeadBound 17 = .ok (.aload_n 0, 1) := by decide +kernel
theorem d_MO_isHeadBound_18 : decode b_MO_isHeadBound 18 = .ok (.getfield 56, 3) := by decide +kernel
theorem d_MO_isHeadBound_21 : decode b_MO_isHeadBound 21 = .ok (.invokevirtual 100, 3) := by decide +kernel
theorem d_MO_isHeadBound_24 : decode b_MO_isHeadBound 24 = .ok (.aload_n 0, 1) := by decide +kernel
theorem d_MO_isHeadBound_25 : decode b_MO_isHeadBound 25 = .ok (.getfield 25, 3) := by decide +kernel
theorem d_MO_isHeadBound_28 : decode b_MO_isHeadBound 28 = .ok (.iload_n 2, 1) := by decide +kernel
theorem d_MO_isHeadBound_29 : decode b_MO_isHeadBound 29 = .ok (.iaload, 1) := by decide +kernel
theorem d_MO_isHeadBound_30 : decode b_MO_isHeadBound 30 = .ok (.ishr, 1) := by decide +kernel
theorem d_MO_isHeadBound_31 : decode b_MO_isHeadBound 31 = .ok (.iconst 1, 1) := by decide +kernel
theorem d_MO_isHeadBound_32 : decode b_MO_isHeadBound 32 = .ok (.iand, 1) := by decide +kernel
theorem d_MO_isHeadBound_33 : decode b_MO_isHeadBound 33 = .ok (.iconst 1, 1) := by decide +kernel
theorem d_MO_isHeadBound_34 : decode b_MO_isHeadBound 34 = .ok (.if_icmp .ne 7, 3) := by decide +kernel
theorem d_MO_isHeadBound_37 : decode b_MO_isHeadBound 37 = .ok (.iconst 1, 1) := by decide +kernel
theorem d_MO_isHeadBound_38 : decode b_MO_isHeadBound 38 = .ok (.goto 4, 3) := by decide +kernel
theorem d_MO_isHeadBound_41 : decode b_MO_isHeadBound 41 = .ok (.iconst 0, 1) := by decide +kernel
theorem d_MO_isHeadBound_42 : decode b_MO_isHeadBound 42 = .ok (.istore_n 1, 1) := by decide +kernel
theorem d_MO_isHeadBound_43 : decode b_MO_isHeadBound 43 = .ok (.iinc 2 1, 3) := by decide +kernel
theorem d_MO_isHeadBound_46 : decode b_MO_isHeadBound 46 = .ok (.goto (-42), 3) := by decide +kernel
theorem d_MO_isHeadBound_49 : decode b_MO_isHeadBound 49 = .ok (.iload_n 1, 1) := by decide +kernel
theorem d_MO_isHeadBound_50 : decode b_MO_isHeadBound 50 = .ok (.ireturn, 1) := by decide +kernel
theorem d_MO_answer_0 : decode b_MO_answer 0 = .ok (.aload_n 0, 1) := by decide +kernel
theorem d_MO_answer_1 : decode b_MO_answer 1 = .ok (.aload_n 0, 1) := by decide +kernel
theorem d_MO_answer_2 : decode b_MO_answer 2 = .ok (.invokevirtual 124, 3) := by decide +kernel
theorem d_MO_answer_5 : decode b_MO_answer 5 = .ok (.putfield 49, 3) := by decide +kernel
theorem d_MO_answer_8 : decode b_MO_answer 8 = .ok (.aload_n 0, 1) := by decide +kernel
theorem d_MO_answer_9 : decode b_MO_answer 9 = .ok (.getfield 49, 3) := by decide +kernel
theorem d_MO_answer_12 : decode b_MO_answer 12 = .ok (.ifCond .le 5, 3) := by decide +kernel
theorem d_MO_answer_15 : decode b_MO_answer 15 = .ok (.iconst 0, 1) := by decide +kernel
theorem d_MO_answer_16 : decode b_MO_answer 16 = .ok (.ireturn, 1) := by decide +kernel
theorem d_MO_answer_17 : decode b_MO_answer 17 = .ok (.iload_n 1, 1) := by decide +kernel
theorem d_MO_answer_18 : decode b_MO_answer 18 = .ok (.ifCond .lt 23, 3) := by decide +kernel
theorem d_MO_answer_21 : decode b_MO_answer 21 = .ok (.iload_n 1, 1) := by decide +kernel
theorem d_MO_answer_22 : decode b_MO_answer 22 = .ok (.aload_n 0, 1) := by decide +kernel
theorem d_MO_answer_23 : decode b_MO_answer 23 = .ok (.getfield 114, 3) := by decide +kernel
theorem d_MO_answer_26 : decode b_MO_answer 26 = .ok (.if_icmp .ge 15, 3) := by decide +kernel
theorem d_MO_answer_29 : decode b_MO_answer 29 = .ok (.iload_n 2, 1) := by decide +kernel
theorem d_MO_answer_30 : decode b_MO_answer 30 = .ok (.ifCond .lt 11, 3) := by decide +kernel
theorem d_MO_answer_33 : decode b_MO_answer 33 = .ok (.iload_n 2, 1) := by decide +kernel
theorem d_MO_answer_34 : decode b_MO_answer 34 = .ok (.aload_n 0, 1) := by decide +kernel
theorem d_MO_answer_35 : decode b_MO_answer 35 = .ok (.getfield 74, 3) := by decide +kernel
theorem d_MO_answer_38 : decode b_MO_answer 38 = .ok (.if_icmp .lt 10, 3) := by decide +kernel
theorem d_MO_answer_41 : decode b_MO_answer 41 = .ok (.aload_n 0, 1) := by decide +kernel
theorem d_MO_answer_42 : decode b_MO_answer 42 = .ok (.iconst 4, 1) := by decide +kernel
theorem d_MO_answer_43 : decode b_MO_answer 43 = .ok (.putfield 49, 3) := by decide +kernel
theorem d_MO_answer_46 : decode b_MO_answer 46 = .ok (.iconst 0, 1) := by decide +kernel
theorem d_MO_answer_47 : decode b_MO_answer 47 = .ok (.ireturn, 1) := by decide +kernel
theorem d_MO_answer_48 : decode b_MO_answer 48 = .ok (.aload_n 0, 1) := by decide +kernel
theorem d_MO_answer_49 : decode b_MO_answer 49 = .ok (.getfield 46, 3) := by decide +kernel
theorem d_MO_answer_52 : decode b_MO_answer 52 = .ok (.iload_n 1, 1) := by decide +kernel
theorem d_MO_answer_53 : decode b_MO_answer 53 = .ok (.iaload, 1) := by decide +kernel
theorem d_MO_answer_54 : decode b_MO_answer 54 = .ok (.iconst 4, 1) := by decide +kernel
theorem d_MO_answer_55 : decode b_MO_answer 55 = .ok (.aload_n 0, 1) := by decide +kernel
theorem d_MO_answer_56 : decode b_MO_answer 56 = .ok (.getfield 74, 3) := by decide +kernel
theorem d_MO_answer_59 : decode b_MO_answer 59 = .ok (.iconst 1, 1) := by decide +kernel
theorem d_MO_answer_60 : decode b_MO_answer 60 = .ok (.isub, 1) := by decide +kernel
theorem d_MO_answer_61 : decode b_MO_answer 61 = .ok (.iload_n 2, 1) := by decide +kernel
theorem d_MO_answer_62 : decode b_MO_answer 62 = .ok (.isub, 1) := by decide +kernel
theorem d_MO_answer_63 : decode b_MO_answer 63 = .ok (.imul, 1) := by decide +kernel
theorem d_MO_answer_64 : decode b_MO_answer 64 = .ok (.ishr, 1) := by decide +kernel
theorem d_MO_answer_65 : decode b_MO_answer 65 = .ok (.bipush 15, 2) := by decide +kernel
theorem d_MO_answer_67 : decode b_MO_answer 67 = .ok (.iand, 1) := by decide +kernel
theorem d_MO_answer_68 : decode b_MO_answer 68 = .ok (.ireturn, 1) := by decide +kernel
theorem d_LA_law_0 : decode code 0 = .ok (.new 8, 3) := by decide +kernel
theorem d_LA_law_3 : decode code 3 = .ok (.dup, 1) := by decide +kernel
theorem d_LA_law_4 : decode code 4 = .ok (.invokespecial 33, 3) := by decide +kernel
theorem d_LA_law_7 : decode code 7 = .ok (.astore_n 1, 1) := by decide +kernel
theorem d_LA_law_8 : decode code 8 = .ok (.new 34, 3) := by decide +kernel
theorem d_LA_law_11 : decode code 11 = .ok (.dup, 1) := by decide +kernel
theorem d_LA_law_12 : decode code 12 = .ok (.invokespecial 36, 3) := by decide +kernel
theorem d_LA_law_15 : decode code 15 = .ok (.astore_n 2, 1) := by decide +kernel
theorem d_LA_law_16 : decode code 16 = .ok (.iconst 1, 1) := by decide +kernel
theorem d_LA_law_17 : decode code 17 = .ok (.newarray .long, 2) := by decide +kernel
theorem d_LA_law_19 : decode code 19 = .ok (.astore_n 3, 1) := by decide +kernel
theorem d_LA_law_20 : decode code 20 = .ok (.iconst 0, 1) := by decide +kernel
theorem d_LA_law_21 : decode code 21 = .ok (.istore 4, 2) := by decide +kernel
theorem d_LA_law_23 : decode code 23 = .ok (.iload 4, 2) := by decide +kernel
theorem d_LA_law_25 : decode code 25 = .ok (.aload_n 0, 1) := by decide +kernel
theorem d_LA_law_26 : decode code 26 = .ok (.arraylength, 1) := by decide +kernel
theorem d_LA_law_27 : decode code 27 = .ok (.iconst 5, 1) := by decide +kernel
theorem d_LA_law_28 : decode code 28 = .ok (.isub, 1) := by decide +kernel
theorem d_LA_law_29 : decode code 29 = .ok (.if_icmp .gt 630, 3) := by decide +kernel
theorem d_LA_law_32 : decode code 32 = .ok (.aload_n 0, 1) := by decide +kernel
theorem d_LA_law_33 : decode code 33 = .ok (.iload 4, 2) := by decide +kernel
theorem d_LA_law_35 : decode code 35 = .ok (.iaload, 1) := by decide +kernel
theorem d_LA_law_36 : decode code 36 = .ok (.bipush 15, 2) := by decide +kernel
theorem d_LA_law_38 : decode code 38 = .ok (.iand, 1) := by decide +kernel
theorem d_LA_law_39 : decode code 39 = .ok (.tableswitch 614 0 13 #[69, 94, 155, 216, 241, 302, 327, 340, 353, 378, 403, 446, 502, 546], 69) := by decide +kernel
theorem d_LA_law_108 : decode code 108 = .ok (.aload_n 1, 1) := by decide +kernel
theorem d_LA_law_109 : decode code 109 = .ok (.aload_n 0, 1) := by decide +kernel
theorem d_LA_law_110 : decode code 110 = .ok (.iload 4, 2) := by decide +kernel
theorem d_LA_law_112 : decode code 112 = .ok (.iconst 1, 1) := by decide +kernel
theorem d_LA_law_113 : decode code 113 = .ok (.iadd, 1) := by decide +kernel
theorem d_LA_law_114 : decode code 114 = .ok (.iaload, 1) := by decide +kernel
theorem d_LA_law_115 : decode code 115 = .ok (.invokevirtual 37, 3) := by decide +kernel
theorem d_LA_law_118 : decode code 118 = .ok (.aload_n 2, 1) := by decide +kernel
theorem d_LA_law_119 : decode code 119 = .ok (.aload_n 0, 1) := by decide +kernel
theorem d_LA_law_120 : decode code 120 = .ok (.iload 4, 2) := by decide +kernel
theorem d_LA_law_122 : decode code 122 = .ok (.iconst 1, 1) := by decide +kernel
theorem d_LA_law_123 : decode code 123 = .ok (.iadd, 1) := by decide +kernel
theorem d_LA_law_124 : decode code 124 = .ok (.iaload, 1) := by decide +kernel
theorem d_LA_law_125 : decode code 125 = .ok (.invokevirtual 40, 3) := by decide +kernel
theorem d_LA_law_128 : decode code 128 = .ok (.if_icmp .eq 525, 3) := by decide +kernel
theorem d_LA_law_131 : decode code 131 = .ok (.iconst 0, 1) := by decide +kernel
theorem d_LA_law_132 : decode code 132 = .ok (.ireturn, 1) := by decide +kernel
theorem d_LA_law_133 : decode code 133 = .ok (.aload_n 1, 1) := by decide +kernel
theorem d_LA_law_134 : decode code 134 = .ok (.aload_n 0, 1) := by decide +kernel
theorem d_LA_law_135 : decode code 135 = .ok (.iload 4, 2) := by decide +kernel
theorem d_LA_law_137 : decode code 137 = .ok (.iconst 1, 1) := by decide +kernel
theorem d_LA_law_138 : decode code 138 = .ok (.iadd, 1) := by decide +kernel
theorem d_LA_law_139 : decode code 139 = .ok (.iaload, 1) := by decide +kernel
theorem d_LA_law_140 : decode code 140 = .ok (.aload_n 0, 1) := by decide +kernel
theorem d_LA_law_141 : decode code 141 = .ok (.iload 4, 2) := by decide +kernel
theorem d_LA_law_143 : decode code 143 = .ok (.iconst 2, 1) := by decide +kernel
theorem d_LA_law_144 : decode code 144 = .ok (.iadd, 1) := by decide +kernel
theorem d_LA_law_145 : decode code 145 = .ok (.iaload, 1) := by decide +kernel
theorem d_LA_law_146 : decode code 146 = .ok (.aload_n 0, 1) := by decide +kernel
theorem d_LA_law_147 : decode code 147 = .ok (.iload 4, 2) := by decide +kernel
theorem d_LA_law_149 : decode code 149 = .ok (.iconst 3, 1) := by decide +kernel
theorem d_LA_law_150 : decode code 150 = .ok (.iadd, 1) := by decide +kernel
theorem d_LA_law_151 : decode code 151 = .ok (.iaload, 1) := by decide +kernel
theorem d_LA_law_152 : decode code 152 = .ok (.aload_n 0, 1) := by decide +kernel
theorem d_LA_law_153 : decode code 153 = .ok (.iload 4, 2) := by decide +kernel
theorem d_LA_law_155 : decode code 155 = .ok (.iconst 4, 1) := by decide +kernel
theorem d_LA_law_156 : decode code 156 = .ok (.iadd, 1) := by decide +kernel
theorem d_LA_law_157 : decode code 157 = .ok (.iaload, 1) := by decide +kernel
theorem d_LA_law_158 : decode code 158 = .ok (.invokevirtual 41, 3) := by decide +kernel
theorem d_LA_law_161 : decode code 161 = .ok (.aload_n 2, 1) := by decide +kernel
theorem d_LA_law_162 : decode code 162 = .ok (.aload_n 0, 1) := by decide +kernel
theorem d_LA_law_163 : decode code 163 = .ok (.iload 4, 2) := by decide +kernel
theorem d_LA_law_165 : decode code 165 = .ok (.iconst 1, 1) := by decide +kernel
theorem d_LA_law_166 : decode code 166 = .ok (.iadd, 1) := by decide +kernel
theorem d_LA_law_167 : decode code 167 = .ok (.iaload, 1) := by decide +kernel
theorem d_LA_law_168 : decode code 168 = .ok (.aload_n 0, 1) := by decide +kernel
theorem d_LA_law_169 : decode code 169 = .ok (.iload 4, 2) := by decide +kernel
theorem d_LA_law_171 : decode code 171 = .ok (.iconst 2, 1) := by decide +kernel
theorem d_LA_law_172 : decode code 172 = .ok (.iadd, 1) := by decide +kernel
theorem d_LA_law_173 : decode code 173 = .ok (.iaload, 1) := by decide +kernel
theorem d_LA_law_174 : decode code 174 = .ok (.aload_n 0, 1) := by decide +kernel
theorem d_LA_law_175 : decode code 175 = .ok (.iload 4, 2) := by decide +kernel
theorem d_LA_law_177 : decode code 177 = .ok (.iconst 3, 1) := by decide +kernel
theorem d_LA_law_178 : decode code 178 = .ok (.iadd, 1) := by decide +kernel
theorem d_LA_law_179 : decode code 179 = .ok (.iaload, 1) := by decide +kernel
theorem d_LA_law_180 : decode code 180 = .ok (.aload_n 0, 1) := by decide +kernel
theorem d_LA_law_181 : decode code 181 = .ok (.iload 4, 2) := by decide +kernel
theorem d_LA_law_183 : decode code 183 = .ok (.iconst 4, 1) := by decide +kernel
theorem d_LA_law_184 : decode code 184 = .ok (.iadd, 1) := by decide +kernel
theorem d_LA_law_185 : decode code 185 = .ok (.iaload, 1) := by decide +kernel
theorem d_LA_law_186 : decode code 186 = .ok (.invokevirtual 45, 3) := by decide +kernel
theorem d_LA_law_189 : decode code 189 = .ok (.if_icmp .eq 464, 3) := by decide +kernel
theorem d_LA_law_192 : decode code 192 = .ok (.iconst 0, 1) := by decide +kernel
theorem d_LA_law_193 : decode code 193 = .ok (.ireturn, 1) := by decide +kernel
theorem d_LA_law_194 : decode code 194 = .ok (.aload_n 1, 1) := by decide +kernel
theorem d_LA_law_195 : decode code 195 = .ok (.aload_n 0, 1) := by decide +kernel
theorem d_LA_law_196 : decode code 196 = .ok (.iload 4, 2) := by decide +kernel
theorem d_LA_law_198 : decode code 198 = .ok (.iconst 1, 1) := by decide +kernel
theorem d_LA_law_199 : decode code 199 = .ok (.iadd, 1) := by decide +kernel
theorem d_LA_law_200 : decode code 200 = .ok (.iaload, 1) := by decide +kernel
theorem d_LA_law_201 : decode code 201 = .ok (.aload_n 0, 1) := by decide +kernel
theorem d_LA_law_202 : decode code 202 = .ok (.iload 4, 2) := by decide +kernel
theorem d_LA_law_204 : decode code 204 = .ok (.iconst 2, 1) := by decide +kernel
theorem d_LA_law_205 : decode code 205 = .ok (.iadd, 1) := by decide +kernel
theorem d_LA_law_206 : decode code 206 = .ok (.iaload, 1) := by decide +kernel
theorem d_LA_law_207 : decode code 207 = .ok (.aload_n 0, 1) := by decide +kernel
theorem d_LA_law_208 : decode code 208 = .ok (.iload 4, 2) := by decide +kernel
theorem d_LA_law_210 : decode code 210 = .ok (.iconst 3, 1) := by decide +kernel
theorem d_LA_law_211 : decode code 211 = .ok (.iadd, 1) := by decide +kernel
theorem d_LA_law_212 : decode code 212 = .ok (.iaload, 1) := by decide +kernel
theorem d_LA_law_213 : decode code 213 = .ok (.aload_n 0, 1) := by decide +kernel
theorem d_LA_law_214 : decode code 214 = .ok (.iload 4, 2) := by decide +kernel
theorem d_LA_law_216 : decode code 216 = .ok (.iconst 4, 1) := by decide +kernel
theorem d_LA_law_217 : decode code 217 = .ok (.iadd, 1) := by decide +kernel
theorem d_LA_law_218 : decode code 218 = .ok (.iaload, 1) := by decide +kernel
theorem d_LA_law_219 : decode code 219 = .ok (.invokevirtual 46, 3) := by decide +kernel
theorem d_LA_law_222 : decode code 222 = .ok (.aload_n 2, 1) := by decide +kernel
theorem d_LA_law_223 : decode code 223 = .ok (.aload_n 0, 1) := by decide +kernel
theorem d_LA_law_224 : decode code 224 = .ok (.iload 4, 2) := by decide +kernel
theorem d_LA_law_226 : decode code 226 = .ok (.iconst 1, 1) := by decide +kernel
theorem d_LA_law_227 : decode code 227 = .ok (.iadd, 1) := by decide +kernel
theorem d_LA_law_228 : decode code 228 = .ok (.iaload, 1) := by decide +kernel
theorem d_LA_law_229 : decode code 229 = .ok (.aload_n 0, 1) := by decide +kernel
theorem d_LA_law_230 : decode code 230 = .ok (.iload 4, 2) := by decide +kernel
theorem d_LA_law_232 : decode code 232 = .ok (.iconst 2, 1) := by decide +kernel
theorem d_LA_law_233 : decode code 233 = .ok (.iadd, 1) := by decide +kernel
theorem d_LA_law_234 : decode code 234 = .ok (.iaload, 1) := by decide +kernel
theorem d_LA_law_235 : decode code 235 = .ok (.aload_n 0, 1) := by decide +kernel
theorem d_LA_law_236 : decode code 236 = .ok (.iload 4, 2) := by decide +kernel
theorem d_LA_law_238 : decode code 238 = .ok (.iconst 3, 1) := by decide +kernel
theorem d_LA_law_239 : decode code 239 = .ok (.iadd, 1) := by decide +kernel
theorem d_LA_law_240 : decode code 240 = .ok (.iaload, 1) := by decide +kernel
theorem d_LA_law_241 : decode code 241 = .ok (.aload_n 0, 1) := by decide +kernel
theorem d_LA_law_242 : decode code 242 = .ok (.iload 4, 2) := by decide +kernel
theorem d_LA_law_244 : decode code 244 = .ok (.iconst 4, 1) := by decide +kernel
theorem d_LA_law_245 : decode code 245 = .ok (.iadd, 1) := by decide +kernel
theorem d_LA_law_246 : decode code 246 = .ok (.iaload, 1) := by decide +kernel
theorem d_LA_law_247 : decode code 247 = .ok (.invokevirtual 49, 3) := by decide +kernel
theorem d_LA_law_250 : decode code 250 = .ok (.if_icmp .eq 403, 3) := by decide +kernel
theorem d_LA_law_253 : decode code 253 = .ok (.iconst 0, 1) := by decide +kernel
theorem d_LA_law_254 : decode code 254 = .ok (.ireturn, 1) := by decide +kernel
theorem d_LA_law_255 : decode code 255 = .ok (.aload_n 1, 1) := by decide +kernel
theorem d_LA_law_256 : decode code 256 = .ok (.aload_n 0, 1) := by decide +kernel
theorem d_LA_law_257 : decode code 257 = .ok (.iload 4, 2) := by decide +kernel
theorem d_LA_law_259 : decode code 259 = .ok (.iconst 1, 1) := by decide +kernel
theorem d_LA_law_260 : decode code 260 = .ok (.iadd, 1) := by decide +kernel
theorem d_LA_law_261 : decode code 261 = .ok (.iaload, 1) := by decide +kernel
theorem d_LA_law_262 : decode code 262 = .ok (.invokevirtual 50, 3) := by decide +kernel
theorem d_LA_law_265 : decode code 265 = .ok (.aload_n 2, 1) := by decide +kernel
theorem d_LA_law_266 : decode code 266 = .ok (.aload_n 0, 1) := by decide +kernel
theorem d_LA_law_267 : decode code 267 = .ok (.iload 4, 2) := by decide +kernel
theorem d_LA_law_269 : decode code 269 = .ok (.iconst 1, 1) := by decide +kernel
theorem d_LA_law_270 : decode code 270 = .ok (.iadd, 1) := by decide +kernel
theorem d_LA_law_271 : decode code 271 = .ok (.iaload, 1) := by decide +kernel
theorem d_LA_law_272 : decode code 272 = .ok (.invokevirtual 53, 3) := by decide +kernel
theorem d_LA_law_275 : decode code 275 = .ok (.if_icmp .eq 378, 3) := by decide +kernel
theorem d_LA_law_278 : decode code 278 = .ok (.iconst 0, 1) := by decide +kernel
theorem d_LA_law_279 : decode code 279 = .ok (.ireturn, 1) := by decide +kernel
theorem d_LA_law_280 : decode code 280 = .ok (.aload_n 1, 1) := by decide +kernel
theorem d_LA_law_281 : decode code 281 = .ok (.aload_n 0, 1) := by decide +kernel
theorem d_LA_law_282 : decode code 282 = .ok (.iload 4, 2) := by decide +kernel
theorem d_LA_law_284 : decode code 284 = .ok (.iconst 1, 1) := by decide +kernel
theorem d_LA_law_285 : decode code 285 = .ok (.iadd, 1) := by decide +kernel
theorem d_LA_law_286 : decode code 286 = .ok (.iaload, 1) := by decide +kernel
theorem d_LA_law_287 : decode code 287 = .ok (.aload_n 0, 1) := by decide +kernel
theorem d_LA_law_288 : decode code 288 = .ok (.iload 4, 2) := by decide +kernel
theorem d_LA_law_290 : decode code 290 = .ok (.iconst 2, 1) := by decide +kernel
theorem d_LA_law_291 : decode code 291 = .ok (.iadd, 1) := by decide +kernel
theorem d_LA_law_292 : decode code 292 = .ok (.iaload, 1) := by decide +kernel
theorem d_LA_law_293 : decode code 293 = .ok (.aload_n 0, 1) := by decide +kernel
theorem d_LA_law_294 : decode code 294 = .ok (.iload 4, 2) := by decide +kernel
theorem d_LA_law_296 : decode code 296 = .ok (.iconst 3, 1) := by decide +kernel
theorem d_LA_law_297 : decode code 297 = .ok (.iadd, 1) := by decide +kernel
theorem d_LA_law_298 : decode code 298 = .ok (.iaload, 1) := by decide +kernel
theorem d_LA_law_299 : decode code 299 = .ok (.aload_n 0, 1) := by decide +kernel
theorem d_LA_law_300 : decode code 300 = .ok (.iload 4, 2) := by decide +kernel
theorem d_LA_law_302 : decode code 302 = .ok (.iconst 4, 1) := by decide +kernel
theorem d_LA_law_303 : decode code 303 = .ok (.iadd, 1) := by decide +kernel
theorem d_LA_law_304 : decode code 304 = .ok (.iaload, 1) := by decide +kernel
theorem d_LA_law_305 : decode code 305 = .ok (.invokevirtual 54, 3) := by decide +kernel
theorem d_LA_law_308 : decode code 308 = .ok (.aload_n 2, 1) := by decide +kernel
theorem d_LA_law_309 : decode code 309 = .ok (.aload_n 0, 1) := by decide +kernel
theorem d_LA_law_310 : decode code 310 = .ok (.iload 4, 2) := by decide +kernel
theorem d_LA_law_312 : decode code 312 = .ok (.iconst 1, 1) := by decide +kernel
theorem d_LA_law_313 : decode code 313 = .ok (.iadd, 1) := by decide +kernel
theorem d_LA_law_314 : decode code 314 = .ok (.iaload, 1) := by decide +kernel
theorem d_LA_law_315 : decode code 315 = .ok (.aload_n 0, 1) := by decide +kernel
theorem d_LA_law_316 : decode code 316 = .ok (.iload 4, 2) := by decide +kernel
theorem d_LA_law_318 : decode code 318 = .ok (.iconst 2, 1) := by decide +kernel
theorem d_LA_law_319 : decode code 319 = .ok (.iadd, 1) := by decide +kernel
theorem d_LA_law_320 : decode code 320 = .ok (.iaload, 1) := by decide +kernel
theorem d_LA_law_321 : decode code 321 = .ok (.aload_n 0, 1) := by decide +kernel
theorem d_LA_law_322 : decode code 322 = .ok (.iload 4, 2) := by decide +kernel
theorem d_LA_law_324 : decode code 324 = .ok (.iconst 3, 1) := by decide +kernel
theorem d_LA_law_325 : decode code 325 = .ok (.iadd, 1) := by decide +kernel
theorem d_LA_law_326 : decode code 326 = .ok (.iaload, 1) := by decide +kernel
theorem d_LA_law_327 : decode code 327 = .ok (.aload_n 0, 1) := by decide +kernel
theorem d_LA_law_328 : decode code 328 = .ok (.iload 4, 2) := by decide +kernel
theorem d_LA_law_330 : decode code 330 = .ok (.iconst 4, 1) := by decide +kernel
theorem d_LA_law_331 : decode code 331 = .ok (.iadd, 1) := by decide +kernel
theorem d_LA_law_332 : decode code 332 = .ok (.iaload, 1) := by decide +kernel
theorem d_LA_law_333 : decode code 333 = .ok (.invokevirtual 58, 3) := by decide +kernel
theorem d_LA_law_336 : decode code 336 = .ok (.if_icmp .eq 317, 3) := by decide +kernel
theorem d_LA_law_339 : decode code 339 = .ok (.iconst 0, 1) := by decide +kernel
theorem d_LA_law_340 : decode code 340 = .ok (.ireturn, 1) := by decide +kernel
theorem d_LA_law_341 : decode code 341 = .ok (.aload_n 1, 1) := by decide +kernel
theorem d_LA_law_342 : decode code 342 = .ok (.aload_n 0, 1) := by decide +kernel
theorem d_LA_law_343 : decode code 343 = .ok (.iload 4, 2) := by decide +kernel
theorem d_LA_law_345 : decode code 345 = .ok (.iconst 1, 1) := by decide +kernel
theorem d_LA_law_346 : decode code 346 = .ok (.iadd, 1) := by decide +kernel
theorem d_LA_law_347 : decode code 347 = .ok (.iaload, 1) := by decide +kernel
theorem d_LA_law_348 : decode code 348 = .ok (.invokevirtual 59, 3) := by decide +kernel
theorem d_LA_law_351 : decode code 351 = .ok (.aload_n 2, 1) := by decide +kernel
theorem d_LA_law_352 : decode code 352 = .ok (.aload_n 0, 1) := by decide +kernel
theorem d_LA_law_353 : decode code 353 = .ok (.iload 4, 2) := by decide +kernel
theorem d_LA_law_355 : decode code 355 = .ok (.iconst 1, 1) := by decide +kernel
theorem d_LA_law_356 : decode code 356 = .ok (.iadd, 1) := by decide +kernel
theorem d_LA_law_357 : decode code 357 = .ok (.iaload, 1) := by decide +kernel
theorem d_LA_law_358 : decode code 358 = .ok (.invokevirtual 62, 3) := by decide +kernel
theorem d_LA_law_361 : decode code 361 = .ok (.if_icmp .eq 292, 3) := by decide +kernel
theorem d_LA_law_364 : decode code 364 = .ok (.iconst 0, 1) := by decide +kernel
theorem d_LA_law_365 : decode code 365 = .ok (.ireturn, 1) := by decide +kernel
theorem d_LA_law_366 : decode code 366 = .ok (.aload_n 1, 1) := by decide +kernel
theorem d_LA_law_367 : decode code 367 = .ok (.invokevirtual 63, 3) := by decide +kernel
theorem d_LA_law_370 : decode code 370 = .ok (.aload_n 2, 1) := by decide +kernel
theorem d_LA_law_371 : decode code 371 = .ok (.invokevirtual 66, 3) := by decide +kernel
theorem d_LA_law_374 : decode code 374 = .ok (.if_icmp .eq 279, 3) := by decide +kernel
theorem d_LA_law_377 : decode code 377 = .ok (.iconst 0, 1) := by decide +kernel
theorem d_LA_law_378 : decode code 378 = .ok (.ireturn, 1) := by decide +kernel
theorem d_LA_law_379 : decode code 379 = .ok (.aload_n 1, 1) := by decide +kernel
theorem d_LA_law_380 : decode code 380 = .ok (.invokevirtual 67, 3) := by decide +kernel
theorem d_LA_law_383 : decode code 383 = .ok (.aload_n 2, 1) := by decide +kernel
theorem d_LA_law_384 : decode code 384 = .ok (.invokevirtual 71, 3) := by decide +kernel
theorem d_LA_law_387 : decode code 387 = .ok (.if_icmp .eq 266, 3) := by decide +kernel
theorem d_LA_law_390 : decode code 390 = .ok (.iconst 0, 1) := by decide +kernel
theorem d_LA_law_391 : decode code 391 = .ok (.ireturn, 1) := by decide +kernel
theorem d_LA_law_392 : decode code 392 = .ok (.aload_n 1, 1) := by decide +kernel
theorem d_LA_law_393 : decode code 393 = .ok (.aload_n 0, 1) := by decide +kernel
theorem d_LA_law_394 : decode code 394 = .ok (.iload 4, 2) := by decide +kernel
theorem d_LA_law_396 : decode code 396 = .ok (.iconst 1, 1) := by decide +kernel
theorem d_LA_law_397 : decode code 397 = .ok (.iadd, 1) := by decide +kernel
theorem d_LA_law_398 : decode code 398 = .ok (.iaload, 1) := by decide +kernel
theorem d_LA_law_399 : decode code 399 = .ok (.invokevirtual 72, 3) := by decide +kernel
theorem d_LA_law_402 : decode code 402 = .ok (.aload_n 2, 1) := by decide +kernel
theorem d_LA_law_403 : decode code 403 = .ok (.aload_n 0, 1) := by decide +kernel
theorem d_LA_law_404 : decode code 404 = .ok (.iload 4, 2) := by decide +kernel
theorem d_LA_law_406 : decode code 406 = .ok (.iconst 1, 1) := by decide +kernel
theorem d_LA_law_407 : decode code 407 = .ok (.iadd, 1) := by decide +kernel
theorem d_LA_law_408 : decode code 408 = .ok (.iaload, 1) := by decide +kernel
theorem d_LA_law_409 : decode code 409 = .ok (.invokevirtual 75, 3) := by decide +kernel
theorem d_LA_law_412 : decode code 412 = .ok (.if_icmp .eq 241, 3) := by decide +kernel
theorem d_LA_law_415 : decode code 415 = .ok (.iconst 0, 1) := by decide +kernel
theorem d_LA_law_416 : decode code 416 = .ok (.ireturn, 1) := by decide +kernel
theorem d_LA_law_417 : decode code 417 = .ok (.aload_n 1, 1) := by decide +kernel
theorem d_LA_law_418 : decode code 418 = .ok (.aload_n 0, 1) := by decide +kernel
theorem d_LA_law_419 : decode code 419 = .ok (.iload 4, 2) := by decide +kernel
theorem d_LA_law_421 : decode code 421 = .ok (.iconst 1, 1) := by decide +kernel
theorem d_LA_law_422 : decode code 422 = .ok (.iadd, 1) := by decide +kernel
theorem d_LA_law_423 : decode code 423 = .ok (.iaload, 1) := by decide +kernel
theorem d_LA_law_424 : decode code 424 = .ok (.invokevirtual 76, 3) := by decide +kernel
theorem d_LA_law_427 : decode code 427 = .ok (.aload_n 2, 1) := by decide +kernel
theorem d_LA_law_428 : decode code 428 = .ok (.aload_n 0, 1) := by decide +kernel
theorem d_LA_law_429 : decode code 429 = .ok (.iload 4, 2) := by decide +kernel
theorem d_LA_law_431 : decode code 431 = .ok (.iconst 1, 1) := by decide +kernel
theorem d_LA_law_432 : decode code 432 = .ok (.iadd, 1) := by decide +kernel
theorem d_LA_law_433 : decode code 433 = .ok (.iaload, 1) := by decide +kernel
theorem d_LA_law_434 : decode code 434 = .ok (.invokevirtual 79, 3) := by decide +kernel
theorem d_LA_law_437 : decode code 437 = .ok (.if_icmp .eq 216, 3) := by decide +kernel
theorem d_LA_law_440 : decode code 440 = .ok (.iconst 0, 1) := by decide +kernel
theorem d_LA_law_441 : decode code 441 = .ok (.ireturn, 1) := by decide +kernel
theorem d_LA_law_442 : decode code 442 = .ok (.aload_n 1, 1) := by decide +kernel
theorem d_LA_law_443 : decode code 443 = .ok (.aload_n 3, 1) := by decide +kernel
theorem d_LA_law_444 : decode code 444 = .ok (.invokestatic 80, 3) := by decide +kernel
theorem d_LA_law_447 : decode code 447 = .ok (.istore 5, 2) := by decide +kernel
theorem d_LA_law_449 : decode code 449 = .ok (.aload_n 2, 1) := by decide +kernel
theorem d_LA_law_450 : decode code 450 = .ok (.invokevirtual 85, 3) := by decide +kernel
theorem d_LA_law_453 : decode code 453 = .ok (.lstore 6, 2) := by decide +kernel
theorem d_LA_law_455 : decode code 455 = .ok (.aload_n 2, 1) := by decide +kernel
theorem d_LA_law_456 : decode code 456 = .ok (.invokevirtual 86, 3) := by decide +kernel
theorem d_LA_law_459 : decode code 459 = .ok (.iload 5, 2) := by decide +kernel
theorem d_LA_law_461 : decode code 461 = .ok (.if_icmp .eq 5, 3) := by decide +kernel
theorem d_LA_law_464 : decode code 464 = .ok (.iconst 0, 1) := by decide +kernel
theorem d_LA_law_465 : decode code 465 = .ok (.ireturn, 1) := by decide +kernel
theorem d_LA_law_466 : decode code 466 = .ok (.iload 5, 2) := by decide +kernel
theorem d_LA_law_468 : decode code 468 = .ok (.ifCond .ne 14, 3) := by decide +kernel
theorem d_LA_law_471 : decode code 471 = .ok (.aload_n 3, 1) := by decide +kernel
theorem d_LA_law_472 : decode code 472 = .ok (.iconst 0, 1) := by decide +kernel
theorem d_LA_law_473 : decode code 473 = .ok (.laload, 1) := by decide +kernel
theorem d_LA_law_474 : decode code 474 = .ok (.lload 6, 2) := by decide +kernel
theorem d_LA_law_476 : decode code 476 = .ok (.lcmp, 1) := by decide +kernel
theorem d_LA_law_477 : decode code 477 = .ok (.ifCond .eq 5, 3) := by decide +kernel
theorem d_LA_law_480 : decode code 480 = .ok (.iconst 0, 1) := by decide +kernel
theorem d_LA_law_481 : decode code 481 = .ok (.ireturn, 1) := by decide +kernel
theorem d_LA_law_482 : decode code 482 = .ok (.goto 171, 3) := by decide +kernel
theorem d_LA_law_485 : decode code 485 = .ok (.aload_n 1, 1) := by decide +kernel
theorem d_LA_law_486 : decode code 486 = .ok (.aload_n 0, 1) := by decide +kernel
theorem d_LA_law_487 : decode code 487 = .ok (.iload 4, 2) := by decide +kernel
theorem d_LA_law_489 : decode code 489 = .ok (.iconst 1, 1) := by decide +kernel
theorem d_LA_law_490 : decode code 490 = .ok (.iadd, 1) := by decide +kernel
theorem d_LA_law_491 : decode code 491 = .ok (.iaload, 1) := by decide +kernel
theorem d_LA_law_492 : decode code 492 = .ok (.aload_n 3, 1) := by decide +kernel
theorem d_LA_law_493 : decode code 493 = .ok (.invokestatic 89, 3) := by decide +kernel
theorem d_LA_law_496 : decode code 496 = .ok (.istore 5, 2) := by decide +kernel
theorem d_LA_law_498 : decode code 498 = .ok (.aload_n 2, 1) := by decide +kernel
theorem d_LA_law_499 : decode code 499 = .ok (.aload_n 0, 1) := by decide +kernel
theorem d_LA_law_500 : decode code 500 = .ok (.iload 4, 2) := by decide +kernel
theorem d_LA_law_502 : decode code 502 = .ok (.iconst 1, 1) := by decide +kernel
theorem d_LA_law_503 : decode code 503 = .ok (.iadd, 1) := by decide +kernel
theorem d_LA_law_504 : decode code 504 = .ok (.iaload, 1) := by decide +kernel
theorem d_LA_law_505 : decode code 505 = .ok (.invokevirtual 92, 3) := by decide +kernel
theorem d_LA_law_508 : decode code 508 = .ok (.istore 6, 2) := by decide +kernel
theorem d_LA_law_510 : decode code 510 = .ok (.aload_n 2, 1) := by decide +kernel
theorem d_LA_law_511 : decode code 511 = .ok (.invokevirtual 86, 3) := by decide +kernel
theorem d_LA_law_514 : decode code 514 = .ok (.iload 5, 2) := by decide +kernel
theorem d_LA_law_516 : decode code 516 = .ok (.if_icmp .eq 5, 3) := by decide +kernel
theorem d_LA_law_519 : decode code 519 = .ok (.iconst 0, 1) := by decide +kernel
theorem d_LA_law_520 : decode code 520 = .ok (.ireturn, 1) := by decide +kernel
theorem d_LA_law_521 : decode code 521 = .ok (.iload 5, 2) := by decide +kernel
theorem d_LA_law_523 : decode code 523 = .ok (.ifCond .ne 15, 3) := by decide +kernel
theorem d_LA_law_526 : decode code 526 = .ok (.aload_n 3, 1) := by decide +kernel
theorem d_LA_law_527 : decode code 527 = .ok (.iconst 0, 1) := by decide +kernel
theorem d_LA_law_528 : decode code 528 = .ok (.laload, 1) := by decide +kernel
theorem d_LA_law_529 : decode code 529 = .ok (.iload 6, 2) := by decide +kernel
theorem d_LA_law_531 : decode code 531 = .ok (.i2l, 1) := by decide +kernel
theorem d_LA_law_532 : decode code 532 = .ok (.lcmp, 1) := by decide +kernel
theorem d_LA_law_533 : decode code 533 = .ok (.ifCond .eq 5, 3) := by decide +kernel
theorem d_LA_law_536 : decode code 536 = .ok (.iconst 0, 1) := by decide +kernel
theorem d_LA_law_537 : decode code 537 = .ok (.ireturn, 1) := by decide +kernel
theorem d_LA_law_538 : decode code 538 = .ok (.goto 115, 3) := by decide +kernel
theorem d_LA_law_541 : decode code 541 = .ok (.aload_n 1, 1) := by decide +kernel
theorem d_LA_law_542 : decode code 542 = .ok (.aload_n 3, 1) := by decide +kernel
theorem d_LA_law_543 : decode code 543 = .ok (.invokestatic 93, 3) := by decide +kernel
theorem d_LA_law_546 : decode code 546 = .ok (.istore 5, 2) := by decide +kernel
theorem d_LA_law_548 : decode code 548 = .ok (.aload_n 2, 1) := by decide +kernel
theorem d_LA_law_549 : decode code 549 = .ok (.invokevirtual 95, 3) := by decide +kernel
theorem d_LA_law_552 : decode code 552 = .ok (.istore 6, 2) := by decide +kernel
theorem d_LA_law_554 : decode code 554 = .ok (.aload_n 2, 1) := by decide +kernel
theorem d_LA_law_555 : decode code 555 = .ok (.invokevirtual 86, 3) := by decide +kernel
theorem d_LA_law_558 : decode code 558 = .ok (.iload 5, 2) := by decide +kernel
theorem d_LA_law_560 : decode code 560 = .ok (.if_icmp .eq 5, 3) := by decide +kernel
theorem d_LA_law_563 : decode code 563 = .ok (.iconst 0, 1) := by decide +kernel
theorem d_LA_law_564 : decode code 564 = .ok (.ireturn, 1) := by decide +kernel
theorem d_LA_law_565 : decode code 565 = .ok (.iload 5, 2) := by decide +kernel
theorem d_LA_law_567 : decode code 567 = .ok (.ifCond .ne 15, 3) := by decide +kernel
theorem d_LA_law_570 : decode code 570 = .ok (.aload_n 3, 1) := by decide +kernel
theorem d_LA_law_571 : decode code 571 = .ok (.iconst 0, 1) := by decide +kernel
theorem d_LA_law_572 : decode code 572 = .ok (.laload, 1) := by decide +kernel
theorem d_LA_law_573 : decode code 573 = .ok (.iload 6, 2) := by decide +kernel
theorem d_LA_law_575 : decode code 575 = .ok (.i2l, 1) := by decide +kernel
theorem d_LA_law_576 : decode code 576 = .ok (.lcmp, 1) := by decide +kernel
theorem d_LA_law_577 : decode code 577 = .ok (.ifCond .eq 5, 3) := by decide +kernel
theorem d_LA_law_580 : decode code 580 = .ok (.iconst 0, 1) := by decide +kernel
theorem d_LA_law_581 : decode code 581 = .ok (.ireturn, 1) := by decide +kernel
theorem d_LA_law_582 : decode code 582 = .ok (.goto 71, 3) := by decide +kernel
theorem d_LA_law_585 : decode code 585 = .ok (.aload_n 1, 1) := by decide +kernel
theorem d_LA_law_586 : decode code 586 = .ok (.aload_n 0, 1) := by decide +kernel
theorem d_LA_law_587 : decode code 587 = .ok (.iload 4, 2) := by decide +kernel
theorem d_LA_law_589 : decode code 589 = .ok (.iconst 1, 1) := by decide +kernel
theorem d_LA_law_590 : decode code 590 = .ok (.iadd, 1) := by decide +kernel
theorem d_LA_law_591 : decode code 591 = .ok (.iaload, 1) := by decide +kernel
theorem d_LA_law_592 : decode code 592 = .ok (.aload_n 0, 1) := by decide +kernel
theorem d_LA_law_593 : decode code 593 = .ok (.iload 4, 2) := by decide +kernel
theorem d_LA_law_595 : decode code 595 = .ok (.iconst 2, 1) := by decide +kernel
theorem d_LA_law_596 : decode code 596 = .ok (.iadd, 1) := by decide +kernel
theorem d_LA_law_597 : decode code 597 = .ok (.iaload, 1) := by decide +kernel
theorem d_LA_law_598 : decode code 598 = .ok (.aload_n 3, 1) := by decide +kernel
theorem d_LA_law_599 : decode code 599 = .ok (.invokestatic 96, 3) := by decide +kernel
theorem d_LA_law_602 : decode code 602 = .ok (.istore 5, 2) := by decide +kernel
theorem d_LA_law_604 : decode code 604 = .ok (.aload_n 2, 1) := by decide +kernel
theorem d_LA_law_605 : decode code 605 = .ok (.aload_n 0, 1) := by decide +kernel
theorem d_LA_law_606 : decode code 606 = .ok (.iload 4, 2) := by decide +kernel
theorem d_LA_law_608 : decode code 608 = .ok (.iconst 1, 1) := by decide +kernel
theorem d_LA_law_609 : decode code 609 = .ok (.iadd, 1) := by decide +kernel
theorem d_LA_law_610 : decode code 610 = .ok (.iaload, 1) := by decide +kernel
theorem d_LA_law_611 : decode code 611 = .ok (.aload_n 0, 1) := by decide +kernel
theorem d_LA_law_612 : decode code 612 = .ok (.iload 4, 2) := by decide +kernel
theorem d_LA_law_614 : decode code 614 = .ok (.iconst 2, 1) := by decide +kernel
theorem d_LA_law_615 : decode code 615 = .ok (.iadd, 1) := by decide +kernel
theorem d_LA_law_616 : decode code 616 = .ok (.iaload, 1) := by decide +kernel
theorem d_LA_law_617 : decode code 617 = .ok (.invokevirtual 99, 3) := by decide +kernel
theorem d_LA_law_620 : decode code 620 = .ok (.istore 6, 2) := by decide +kernel
theorem d_LA_law_622 : decode code 622 = .ok (.aload_n 2, 1) := by decide +kernel
theorem d_LA_law_623 : decode code 623 = .ok (.invokevirtual 86, 3) := by decide +kernel
theorem d_LA_law_626 : decode code 626 = .ok (.iload 5, 2) := by decide +kernel
theorem d_LA_law_628 : decode code 628 = .ok (.if_icmp .eq 5, 3) := by decide +kernel
theorem d_LA_law_631 : decode code 631 = .ok (.iconst 0, 1) := by decide +kernel
theorem d_LA_law_632 : decode code 632 = .ok (.ireturn, 1) := by decide +kernel
theorem d_LA_law_633 : decode code 633 = .ok (.iload 5, 2) := by decide +kernel
theorem d_LA_law_635 : decode code 635 = .ok (.ifCond .ne 15, 3) := by decide +kernel
theorem d_LA_law_638 : decode code 638 = .ok (.aload_n 3, 1) := by decide +kernel
theorem d_LA_law_639 : decode code 639 = .ok (.iconst 0, 1) := by decide +kernel
theorem d_LA_law_640 : decode code 640 = .ok (.laload, 1) := by decide +kernel
theorem d_LA_law_641 : decode code 641 = .ok (.iload 6, 2) := by decide +kernel
theorem d_LA_law_643 : decode code 643 = .ok (.i2l, 1) := by decide +kernel
theorem d_LA_law_644 : decode code 644 = .ok (.lcmp, 1) := by decide +kernel
theorem d_LA_law_645 : decode code 645 = .ok (.ifCond .eq 5, 3) := by decide +kernel
theorem d_LA_law_648 : decode code 648 = .ok (.iconst 0, 1) := by decide +kernel
theorem d_LA_law_649 : decode code 649 = .ok (.ireturn, 1) := by decide +kernel
theorem d_LA_law_650 : decode code 650 = .ok (.goto 3, 3) := by decide +kernel
theorem d_LA_law_653 : decode code 653 = .ok (.iinc 4 5, 3) := by decide +kernel
theorem d_LA_law_656 : decode code 656 = .ok (.goto (-633), 3) := by decide +kernel
theorem d_LA_law_659 : decode code 659 = .ok (.iconst 1, 1) := by decide +kernel
theorem d_LA_law_660 : decode code 660 = .ok (.ireturn, 1) := by decide +kernel
