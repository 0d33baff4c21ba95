/-! decode rows, by program -/
theorem d_JL_findAnswers_17 : decode b_JL_findAnswers 17 = .ok (.dup, 1) := by decide +kernel
theorem d_JL_findAnswers_18 : decode b_JL_findAnswers 18 = .ok (.ldc 130, 2) := by decide +kernel
theorem d_JL_findAnswers_20 : decode b_JL_findAnswers 20 = .ok (.invokespecial 132, 3) := by decide +kernel
theorem d_JL_findAnswers_23 : decode b_JL_findAnswers 23 = .ok (.athrow, 1) := by decide +kernel
theorem d_JL_findAnswers_24 : decode b_JL_findAnswers 24 = .ok (.aload_n 0, 1) := by decide +kernel
theorem d_JL_findAnswers_25 : decode b_JL_findAnswers 25 = .ok (.getfield 39, 3) := by decide +kernel
theorem d_JL_findAnswers_28 : decode b_JL_findAnswers 28 = .ok (.invokevirtual 133, 3) := by decide +kernel
theorem d_JL_findAnswers_31 : decode b_JL_findAnswers 31 = .ok (.aload_n 0, 1) := by decide +kernel
theorem d_JL_findAnswers_32 : decode b_JL_findAnswers 32 = .ok (.getfield 39, 3) := by decide +kernel
theorem d_JL_findAnswers_35 : decode b_JL_findAnswers 35 = .ok (.getfield 116, 3) := by decide +kernel
theorem d_JL_findAnswers_38 : decode b_JL_findAnswers 38 = .ok (.bipush 64, 2) := by decide +kernel
theorem d_JL_findAnswers_40 : decode b_JL_findAnswers 40 = .ok (.if_icmp .le 13, 3) := by decide +kernel
theorem d_JL_findAnswers_43 : decode b_JL_findAnswers 43 = .ok (.new 136, 3) := by decide +kernel
theorem d_JL_findAnswers_46 : decode b_JL_findAnswers 46 = .ok (.dup, 1) := by decide +kernel
theorem d_JL_findAnswers_47 : decode b_JL_findAnswers 47 = .ok (.ldc 138, 2) := by decide +kernel
theorem d_JL_findAnswers_49 : decode b_JL_findAnswers 49 = .ok (.invokespecial 140, 3) := by decide +kernel
theorem d_JL_findAnswers_52 : decode b_JL_findAnswers 52 = .ok (.athrow, 1) := by decide +kernel
theorem d_JL_findAnswers_53 : decode b_JL_findAnswers 53 = .ok (.return_, 1) := by decide +kernel
theorem d_QU_bindsHead_0 : decode b_QU_bindsHead 0 = .ok (.iconst 0, 1) := by decide +kernel
theorem d_QU_bindsHead_1 : decode b_QU_bindsHead 1 = .ok (.istore_n 1, 1) := by decide +kernel
theorem d_QU_bindsHead_2 : decode b_QU_bindsHead 2 = .ok (.iconst 0, 1) := by decide +kernel
theorem d_QU_bindsHead_3 : decode b_QU_bindsHead 3 = .ok (.istore_n 2, 1) := by decide +kernel
theorem d_QU_bindsHead_4 : decode b_QU_bindsHead 4 = .ok (.iload_n 2, 1) := by decide +kernel
theorem d_QU_bindsHead_5 : decode b_QU_bindsHead 5 = .ok (.aload_n 0, 1) := by decide +kernel
theorem d_QU_bindsHead_6 : decode b_QU_bindsHead 6 = .ok (.getfield 24, 3) := by decide +kernel
theorem d_QU_bindsHead_9 : decode b_QU_bindsHead 9 = .ok (.if_icmp .ge 21, 3) := by decide +kernel
theorem d_QU_bindsHead_12 : decode b_QU_bindsHead 12 = .ok (.iload_n 1, 1) := by decide +kernel
theorem d_QU_bindsHead_13 : decode b_QU_bindsHead 13 = .ok (.aload_n 0, 1) := by decide +kernel
theorem d_QU_bindsHead_14 : decode b_QU_bindsHead 14 = .ok (.getfield 11, 3) := by decide +kernel
theorem d_QU_bindsHead_17 : decode b_QU_bindsHead 17 = .ok (.iload_n 2, 1) := by decide +kernel
theorem d_QU_bindsHead_18 : decode b_QU_bindsHead 18 = .ok (.aaload, 1) := by decide +kernel
theorem d_QU_bindsHead_19 : decode b_QU_bindsHead 19 = .ok (.getfield 45, 3) := by decide +kernel
theorem d_QU_bindsHead_22 : decode b_QU_bindsHead 22 = .ok (.ior, 1) := by decide +kernel
theorem d_QU_bindsHead_23 : decode b_QU_bindsHead 23 = .ok (.istore_n 1, 1) := by decide +kernel
theorem d_QU_bindsHead_24 : decode b_QU_bindsHead 24 = .ok (.iinc 2 1, 3) := by decide +kernel
theorem d_QU_bindsHead_27 : decode b_QU_bindsHead 27 = .ok (.goto (-23), 3) := by decide +kernel
theorem d_QU_bindsHead_30 : decode b_QU_bindsHead 30 = .ok (.aload_n 0, 1) := by decide +kernel
theorem d_QU_bindsHead_31 : decode b_QU_bindsHead 31 = .ok (.getfield 36, 3) := by decide +kernel
theorem d_QU_bindsHead_34 : decode b_QU_bindsHead 34 = .ok (.iload_n 1, 1) := by decide +kernel
theorem d_QU_bindsHead_35 : decode b_QU_bindsHead 35 = .ok (.iconst (-1), 1) := by decide +kernel
theorem d_QU_bindsHead_36 : decode b_QU_bindsHead 36 = .ok (.ixor, 1) := by decide +kernel
theorem d_QU_bindsHead_37 : decode b_QU_bindsHead 37 = .ok (.iand, 1) := by decide +kernel
theorem d_QU_bindsHead_38 : decode b_QU_bindsHead 38 = .ok (.ifCond .ne 7, 3) := by decide +kernel
theorem d_QU_bindsHead_41 : decode b_QU_bindsHead 41 = .ok (.iconst 1, 1) := by decide +kernel
theorem d_QU_bindsHead_42 : decode b_QU_bindsHead 42 = .ok (.goto 4, 3) := by decide +kernel
theorem d_QU_bindsHead_45 : decode b_QU_bindsHead 45 = .ok (.iconst 0, 1) := by decide +kernel
theorem d_QU_bindsHead_46 : decode b_QU_bindsHead 46 = .ok (.ireturn, 1) := by decide +kernel
theorem d_JO_search_0 : decode b_JO_search 0 = .ok (.aload_n 0, 1) := by decide +kernel
theorem d_JO_search_1 : decode b_JO_search 1 = .ok (.iconst 0, 1) := by decide +kernel
theorem d_JO_search_2 : decode b_JO_search 2 = .ok (.putfield 73, 3) := by decide +kernel
theorem d_JO_search_5 : decode b_JO_search 5 = .ok (.aload_n 0, 1) := by decide +kernel
theorem d_JO_search_6 : decode b_JO_search 6 = .ok (.invokevirtual 36, 3) := by decide +kernel
theorem d_JO_search_9 : decode b_JO_search 9 = .ok (.aload_n 0, 1) := by decide +kernel
theorem d_JO_search_10 : decode b_JO_search 10 = .ok (.aload_n 0, 1) := by decide +kernel
theorem d_JO_search_11 : decode b_JO_search 11 = .ok (.getfield 16, 3) := by decide +kernel
theorem d_JO_search_14 : decode b_JO_search 14 = .ok (.iconst 0, 1) := by decide +kernel
theorem d_JO_search_15 : decode b_JO_search 15 = .ok (.aaload, 1) := by decide +kernel
theorem d_JO_search_16 : decode b_JO_search 16 = .ok (.invokevirtual 39, 3) := by decide +kernel
theorem d_JO_search_19 : decode b_JO_search 19 = .ok (.aload_n 0, 1) := by decide +kernel
theorem d_JO_search_20 : decode b_JO_search 20 = .ok (.aload_n 0, 1) := by decide +kernel
theorem d_JO_search_21 : decode b_JO_search 21 = .ok (.getfield 16, 3) := by decide +kernel
theorem d_JO_search_24 : decode b_JO_search 24 = .ok (.iconst 0, 1) := by decide +kernel
theorem d_JO_search_25 : decode b_JO_search 25 = .ok (.aaload, 1) := by decide +kernel
theorem d_JO_search_26 : decode b_JO_search 26 = .ok (.invokevirtual 76, 3) := by decide +kernel
theorem d_JO_search_29 : decode b_JO_search 29 = .ok (.ifCond .eq 9, 3) := by decide +kernel
theorem d_JO_search_32 : decode b_JO_search 32 = .ok (.aload_n 0, 1) := by decide +kernel
theorem d_JO_search_33 : decode b_JO_search 33 = .ok (.iconst 0, 1) := by decide +kernel
theorem d_JO_search_34 : decode b_JO_search 34 = .ok (.iconst 0, 1) := by decide +kernel
theorem d_JO_search_35 : decode b_JO_search 35 = .ok (.invokevirtual 80, 3) := by decide +kernel
theorem d_JO_search_38 : decode b_JO_search 38 = .ok (.return_, 1) := by decide +kernel
theorem d_JO_hasWay_0 : decode b_JO_hasWay 0 = .ok (.aload_n 0, 1) := by decide +kernel
theorem d_JO_hasWay_1 : decode b_JO_hasWay 1 = .ok (.getfield 32, 3) := by decide +kernel
theorem d_JO_hasWay_4 : decode b_JO_hasWay 4 = .ok (.invokevirtual 49, 3) := by decide +kernel
theorem d_JO_hasWay_7 : decode b_JO_hasWay 7 = .ok (.istore_n 2, 1) := by decide +kernel
theorem d_JO_hasWay_8 : decode b_JO_hasWay 8 = .ok (.iload_n 2, 1) := by decide +kernel
theorem d_JO_hasWay_9 : decode b_JO_hasWay 9 = .ok (.iconst (-1), 1) := by decide +kernel
theorem d_JO_hasWay_10 : decode b_JO_hasWay 10 = .ok (.if_icmp .eq 9, 3) := by decide +kernel
theorem d_JO_hasWay_13 : decode b_JO_hasWay 13 = .ok (.aload_n 1, 1) := by decide +kernel
theorem d_JO_hasWay_14 : decode b_JO_hasWay 14 = .ok (.iload_n 2, 1) := by decide +kernel
theorem d_JO_hasWay_15 : decode b_JO_hasWay 15 = .ok (.iaload, 1) := by decide +kernel
theorem d_JO_hasWay_16 : decode b_JO_hasWay 16 = .ok (.ifCond .eq 7, 3) := by decide +kernel
theorem d_JO_hasWay_19 : decode b_JO_hasWay 19 = .ok (.iconst 1, 1) := by decide +kernel
theorem d_JO_hasWay_20 : decode b_JO_hasWay 20 = .ok (.goto 4, 3) := by decide +kernel
theorem d_JO_hasWay_23 : decode b_JO_hasWay 23 = .ok (.iconst 0, 1) := by decide +kernel
theorem d_JO_hasWay_24 : decode b_JO_hasWay 24 = .ok (.ireturn, 1) := by decide +kernel
theorem d_JO_choose_0 : decode b_JO_choose 0 = .ok (.iload_n 1, 1) := by decide +kernel
theorem d_JO_choose_1 : decode b_JO_choose 1 = .ok (.aload_n 0, 1) := by decide +kernel
theorem d_JO_choose_2 : decode b_JO_choose 2 = .ok (.getfield 28, 3) := by decide +kernel
theorem d_JO_choose_5 : decode b_JO_choose 5 = .ok (.getfield 84, 3) := by decide +kernel
theorem d_JO_choose_8 : decode b_JO_choose 8 = .ok (.if_icmp .lt 9, 3) := by decide +kernel
theorem d_JO_choose_11 : decode b_JO_choose 11 = .ok (.aload_n 0, 1) := by decide +kernel
theorem d_JO_choose_12 : decode b_JO_choose 12 = .ok (.iload_n 2, 1) := by decide +kernel
theorem d_JO_choose_13 : decode b_JO_choose 13 = .ok (.invokevirtual 128, 3) := by decide +kernel
theorem d_JO_choose_16 : decode b_JO_choose 16 = .ok (.return_, 1) := by decide +kernel
theorem d_JO_choose_17 : decode b_JO_choose 17 = .ok (.aload_n 0, 1) := by decide +kernel
theorem d_JO_choose_18 : decode b_JO_choose 18 = .ok (.getfield 28, 3) := by decide +kernel
theorem d_JO_choose_21 : decode b_JO_choose 21 = .ok (.getfield 131, 3) := by decide +kernel
theorem d_JO_choose_24 : decode b_JO_choose 24 = .ok (.iload_n 1, 1) := by decide +kernel
theorem d_JO_choose_25 : decode b_JO_choose 25 = .ok (.iaload, 1) := by decide +kernel
theorem d_JO_choose_26 : decode b_JO_choose 26 = .ok (.istore_n 3, 1) := by decide +kernel
theorem d_JO_choose_27 : decode b_JO_choose 27 = .ok (.aload_n 0, 1) := by decide +kernel
theorem d_JO_choose_28 : decode b_JO_choose 28 = .ok (.iload_n 3, 1) := by decide +kernel
theorem d_JO_choose_29 : decode b_JO_choose 29 = .ok (.aload_n 0, 1) := by decide +kernel
theorem d_JO_choose_30 : decode b_JO_choose 30 = .ok (.getfield 16, 3) := by decide +kernel
theorem d_JO_choose_33 : decode b_JO_choose 33 = .ok (.iload_n 1, 1) := by decide +kernel
theorem d_JO_choose_34 : decode b_JO_choose 34 = .ok (.aaload, 1) := by decide +kernel
theorem d_JO_choose_35 : decode b_JO_choose 35 = .ok (.invokevirtual 134, 3) := by decide +kernel
theorem d_JO_choose_38 : decode b_JO_choose 38 = .ok (.istore 4, 2) := by decide +kernel
theorem d_JO_choose_40 : decode b_JO_choose 40 = .ok (.iconst 0, 1) := by decide +kernel
theorem d_JO_choose_41 : decode b_JO_choose 41 = .ok (.istore 5, 2) := by decide +kernel
theorem d_JO_choose_43 : decode b_JO_choose 43 = .ok (.iload 5, 2) := by decide +kernel
theorem d_JO_choose_45 : decode b_JO_choose 45 = .ok (.bipush 16, 2) := by decide +kernel
theorem d_JO_choose_47 : decode b_JO_choose 47 = .ok (.if_icmp .ge 49, 3) := by decide +kernel
theorem d_JO_choose_50 : decode b_JO_choose 50 = .ok (.aload_n 0, 1) := by decide +kernel
theorem d_JO_choose_51 : decode b_JO_choose 51 = .ok (.getfield 73, 3) := by decide +kernel
theorem d_JO_choose_54 : decode b_JO_choose 54 = .ok (.bipush 64, 2) := by decide +kernel
theorem d_JO_choose_56 : decode b_JO_choose 56 = .ok (.if_icmp .gt 40, 3) := by decide +kernel
theorem d_JO_choose_59 : decode b_JO_choose 59 = .ok (.iload 5, 2) := by decide +kernel
theorem d_JO_choose_61 : decode b_JO_choose 61 = .ok (.iload 4, 2) := by decide +kernel
theorem d_JO_choose_63 : decode b_JO_choose 63 = .ok (.invokestatic 124, 3) := by decide +kernel
theorem d_JO_choose_66 : decode b_JO_choose 66 = .ok (.ifCond .eq 24, 3) := by decide +kernel
theorem d_JO_choose_69 : decode b_JO_choose 69 = .ok (.aload_n 0, 1) := by decide +kernel
theorem d_JO_choose_70 : decode b_JO_choose 70 = .ok (.iload_n 1, 1) := by decide +kernel
theorem d_JO_choose_71 : decode b_JO_choose 71 = .ok (.iload_n 3, 1) := by decide +kernel
theorem d_JO_choose_72 : decode b_JO_choose 72 = .ok (.iload 5, 2) := by decide +kernel
theorem d_JO_choose_74 : decode b_JO_choose 74 = .ok (.invokevirtual 138, 3) := by decide +kernel
theorem d_JO_choose_77 : decode b_JO_choose 77 = .ok (.aload_n 0, 1) := by decide +kernel
theorem d_JO_choose_78 : decode b_JO_choose 78 = .ok (.iload_n 1, 1) := by decide +kernel
theorem d_JO_choose_79 : decode b_JO_choose 79 = .ok (.iconst 1, 1) := by decide +kernel
theorem d_JO_choose_80 : decode b_JO_choose 80 = .ok (.iadd, 1) := by decide +kernel
theorem d_JO_choose_81 : decode b_JO_choose 81 = .ok (.iload_n 2, 1) := by decide +kernel
theorem d_JO_choose_82 : decode b_JO_choose 82 = .ok (.iconst 4, 1) := by decide +kernel
theorem d_JO_choose_83 : decode b_JO_choose 83 = .ok (.ishl, 1) := by decide +kernel
theorem d_JO_choose_84 : decode b_JO_choose 84 = .ok (.iload 5, 2) := by decide +kernel
theorem d_JO_choose_86 : decode b_JO_choose 86 = .ok (.ior, 1) := by decide +kernel
theorem d_JO_choose_87 : decode b_JO_choose 87 = .ok (.invokevirtual 80, 3) := by decide +kernel
theorem d_JO_choose_90 : decode b_JO_choose 90 = .ok (.iinc 5 1, 3) := by decide +kernel
theorem d_JO_choose_93 : decode b_JO_choose 93 = .ok (.goto (-50), 3) := by decide +kernel
theorem d_JO_choose_96 : decode b_JO_choose 96 = .ok (.return_, 1) := by decide +kernel
theorem d_JO_storeAnswer_0 : decode b_JO_storeAnswer 0 = .ok (.aload_n 0, 1) := by decide +kernel
theorem d_JO_storeAnswer_1 : decode b_JO_storeAnswer 1 = .ok (.getfield 73, 3) := by decide +kernel
theorem d_JO_storeAnswer_4 : decode b_JO_storeAnswer 4 = .ok (.bipush 64, 2) := by decide +kernel
theorem d_JO_storeAnswer_6 : decode b_JO_storeAnswer 6 = .ok (.if_icmp .ge 13, 3) := by decide +kernel
theorem d_JO_storeAnswer_9 : decode b_JO_storeAnswer 9 = .ok (.aload_n 0, 1) := by decide +kernel
theorem d_JO_storeAnswer_10 : decode b_JO_storeAnswer 10 = .ok (.getfield 24, 3) := by decide +kernel
theorem d_JO_storeAnswer_13 : decode b_JO_storeAnswer 13 = .ok (.aload_n 0, 1) := by decide +kernel
theorem d_JO_storeAnswer_14 : decode b_JO_storeAnswer 14 = .ok (.getfield 73, 3) := by decide +kernel
theorem d_JO_storeAnswer_17 : decode b_JO_storeAnswer 17 = .ok (.iload_n 1, 1) := by decide +kernel
theorem d_JO_storeAnswer_18 : decode b_JO_storeAnswer 18 = .ok (.iastore, 1) := by decide +kernel
theorem d_JO_storeAnswer_19 : decode b_JO_storeAnswer 19 = .ok (.aload_n 0, 1) := by decide +kernel
theorem d_JO_storeAnswer_20 : decode b_JO_storeAnswer 20 = .ok (.dup, 1) := by decide +kernel
theorem d_JO_storeAnswer_21 : decode b_JO_storeAnswer 21 = .ok (.getfield 73, 3) := by decide +kernel
theorem d_JO_storeAnswer_24 : decode b_JO_storeAnswer 24 = .ok (.iconst 1, 1) := by decide +kernel
theorem d_JO_storeAnswer_25 : decode b_JO_storeAnswer 25 = .ok (.iadd, 1) := by decide +kernel
theorem d_JO_storeAnswer_26 : decode b_JO_storeAnswer 26 = .ok (.putfield 73, 3) := by decide +kernel
theorem d_JO_storeAnswer_29 : decode b_JO_storeAnswer 29 = .ok (.return_, 1) := by decide +kernel
theorem d_JO_liveValuesOf_0 : decode b_JO_liveValuesOf 0 = .ok (.aload_n 0, 1) := by decide +kernel
theorem d_JO_liveValuesOf_1 : decode b_JO_liveValuesOf 1 = .ok (.getfield 28, 3) := by decide +kernel
theorem d_JO_liveValuesOf_4 : decode b_JO_liveValuesOf 4 = .ok (.iload_n 1, 1) := by decide +kernel
theorem d_JO_liveValuesOf_5 : decode b_JO_liveValuesOf 5 = .ok (.invokevirtual 142, 3) := by decide +kernel
theorem d_JO_liveValuesOf_8 : decode b_JO_liveValuesOf 8 = .ok (.istore_n 3, 1) := by decide +kernel
theorem d_JO_liveValuesOf_9 : decode b_JO_liveValuesOf 9 = .ok (.iload_n 3, 1) := by decide +kernel
theorem d_JO_liveValuesOf_10 : decode b_JO_liveValuesOf 10 = .ok (.iconst (-1), 1) := by decide +kernel
theorem d_JO_liveValuesOf_11 : decode b_JO_liveValuesOf 11 = .ok (.if_icmp .ne 7, 3) := by decide +kernel
theorem d_JO_liveValuesOf_14 : decode b_JO_liveValuesOf 14 = .ok (.iconst 0, 1) := by decide +kernel
theorem d_JO_liveValuesOf_15 : decode b_JO_liveValuesOf 15 = .ok (.goto 19, 3) := by decide +kernel
theorem d_JO_liveValuesOf_18 : decode b_JO_liveValuesOf 18 = .ok (.aload_n 0, 1) := by decide +kernel
theorem d_JO_liveValuesOf_19 : decode b_JO_liveValuesOf 19 = .ok (.getfield 28, 3) := by decide +kernel
theorem d_JO_liveValuesOf_22 : decode b_JO_liveValuesOf 22 = .ok (.getfield 92, 3) := by decide +kernel
theorem d_JO_liveValuesOf_25 : decode b_JO_liveValuesOf 25 = .ok (.iload_n 3, 1) := by decide +kernel
theorem d_JO_liveValuesOf_26 : decode b_JO_liveValuesOf 26 = .ok (.aaload, 1) := by decide +kernel
theorem d_JO_liveValuesOf_27 : decode b_JO_liveValuesOf 27 = .ok (.iload_n 1, 1) := by decide +kernel
theorem d_JO_liveValuesOf_28 : decode b_JO_liveValuesOf 28 = .ok (.aload_n 2, 1) := by decide +kernel
theorem d_JO_liveValuesOf_29 : decode b_JO_liveValuesOf 29 = .ok (.iload_n 3, 1) := by decide +kernel
theorem d_JO_liveValuesOf_30 : decode b_JO_liveValuesOf 30 = .ok (.iaload, 1) := by decide +kernel
theorem d_JO_liveValuesOf_31 : decode b_JO_liveValuesOf 31 = .ok (.invokevirtual 145, 3) := by decide +kernel
theorem d_JO_liveValuesOf_34 : decode b_JO_liveValuesOf 34 = .ok (.ireturn, 1) := by decide +kernel
theorem d_QU_atomWith_0 : decode b_QU_atomWith 0 = .ok (.iconst 0, 1) := by decide +kernel
theorem d_QU_atomWith_1 : decode b_QU_atomWith 1 = .ok (.istore_n 2, 1) := by decide +kernel
theorem d_QU_atomWith_2 : decode b_QU_atomWith 2 = .ok (.iload_n 2, 1) := by decide +kernel
theorem d_QU_atomWith_3 : decode b_QU_atomWith 3 = .ok (.aload_n 0, 1) := by decide +kernel
theorem d_QU_atomWith_4 : decode b_QU_atomWith 4 = .ok (.getfield 24, 3) := by decide +kernel
theorem d_QU_atomWith_7 : decode b_QU_atomWith 7 = .ok (.if_icmp .ge 27, 3) := by decide +kernel
theorem d_QU_atomWith_10 : decode b_QU_atomWith 10 = .ok (.iload_n 1, 1) := by decide +kernel
theorem d_QU_atomWith_11 : decode b_QU_atomWith 11 = .ok (.aload_n 0, 1) := by decide +kernel
theorem d_QU_atomWith_12 : decode b_QU_atomWith 12 = .ok (.getfield 11, 3) := by decide +kernel
theorem d_QU_atomWith_15 : decode b_QU_atomWith 15 = .ok (.iload_n 2, 1) := by decide +kernel
theorem d_QU_atomWith_16 : decode b_QU_atomWith 16 = .ok (.aaload, 1) := by decide +kernel
theorem d_QU_atomWith_17 : decode b_QU_atomWith 17 = .ok (.getfield 45, 3) := by decide +kernel
theorem d_QU_atomWith_20 : decode b_QU_atomWith 20 = .ok (.invokestatic 39, 3) := by decide +kernel
theorem d_QU_atomWith_23 : decode b_QU_atomWith 23 = .ok (.ifCond .eq 5, 3) := by decide +kernel
theorem d_QU_atomWith_26 : decode b_QU_atomWith 26 = .ok (.iload_n 2, 1) := by decide +kernel
theorem d_QU_atomWith_27 : decode b_QU_atomWith 27 = .ok (.ireturn, 1) := by decide +kernel
theorem d_QU_atomWith_28 : decode b_QU_atomWith 28 = .ok (.iinc 2 1, 3) := by decide +kernel
theorem d_QU_atomWith_31 : decode b_QU_atomWith 31 = .ok (.goto (-29), 3) := by decide +kernel
theorem d_QU_atomWith_34 : decode b_QU_atomWith 34 = .ok (.iconst (-1), 1) := by decide +kernel
theorem d_QU_atomWith_35 : decode b_QU_atomWith 35 = .ok (.ireturn, 1) := by decide +kernel
theorem d_AT_valuesOf_0 : decode b_AT_valuesOf 0 = .ok (.iconst 0, 1) := by decide +kernel
theorem d_AT_valuesOf_1 : decode b_AT_valuesOf 1 = .ok (.istore_n 3, 1) := by decide +kernel
theorem d_AT_valuesOf_2 : decode b_AT_valuesOf 2 = .ok (.iconst 0, 1) := by decide +kernel
theorem d_AT_valuesOf_3 : decode b_AT_valuesOf 3 = .ok (.istore 4, 2) := by decide +kernel
theorem d_AT_valuesOf_5 : decode b_AT_valuesOf 5 = .ok (.iload 4, 2) := by decide +kernel
theorem d_AT_valuesOf_7 : decode b_AT_valuesOf 7 = .ok (.iconst 3, 1) := by decide +kernel
theorem d_AT_valuesOf_8 : decode b_AT_valuesOf 8 = .ok (.if_icmp .ge 66, 3) := by decide +kernel
theorem d_AT_valuesOf_11 : decode b_AT_valuesOf 11 = .ok (.iconst 0, 1) := by decide +kernel
theorem d_AT_valuesOf_12 : decode b_AT_valuesOf 12 = .ok (.istore 5, 2) := by decide +kernel
theorem d_AT_valuesOf_14 : decode b_AT_valuesOf 14 = .ok (.iload 5, 2) := by decide +kernel
theorem d_AT_valuesOf_16 : decode b_AT_valuesOf 16 = .ok (.aload_n 0, 1) := by decide +kernel
theorem d_AT_valuesOf_17 : decode b_AT_valuesOf 17 = .ok (.getfield 15, 3) := by decide +kernel
theorem d_AT_valuesOf_20 : decode b_AT_valuesOf 20 = .ok (.getfield 32, 3) := by decide +kernel
theorem d_AT_valuesOf_23 : decode b_AT_valuesOf 23 = .ok (.if_icmp .ge 45, 3) := by decide +kernel
theorem d_AT_valuesOf_26 : decode b_AT_valuesOf 26 = .ok (.aload_n 0, 1) := by decide +kernel
theorem d_AT_valuesOf_27 : decode b_AT_valuesOf 27 = .ok (.getfield 9, 3) := by decide +kernel
theorem d_AT_valuesOf_30 : decode b_AT_valuesOf 30 = .ok (.iload 4, 2) := by decide +kernel
theorem d_AT_valuesOf_32 : decode b_AT_valuesOf 32 = .ok (.iaload, 1) := by decide +kernel
theorem d_AT_valuesOf_33 : decode b_AT_valuesOf 33 = .ok (.iload_n 1, 1) := by decide +kernel
theorem d_AT_valuesOf_34 : decode b_AT_valuesOf 34 = .ok (.if_icmp .ne 34, 3) := by decide +kernel
theorem d_AT_valuesOf_37 : decode b_AT_valuesOf 37 = .ok (.iload 5, 2) := by decide +kernel
theorem d_AT_valuesOf_39 : decode b_AT_valuesOf 39 = .ok (.iload_n 2, 1) := by decide +kernel
theorem d_AT_valuesOf_40 : decode b_AT_valuesOf 40 = .ok (.invokestatic 46, 3) := by decide +kernel
theorem d_AT_valuesOf_43 : decode b_AT_valuesOf 43 = .ok (.ifCond .eq 19, 3) := by decide +kernel
theorem d_AT_valuesOf_46 : decode b_AT_valuesOf 46 = .ok (.iload_n 3, 1) := by decide +kernel
theorem d_AT_valuesOf_47 : decode b_AT_valuesOf 47 = .ok (.iconst 1, 1) := by decide +kernel
theorem d_AT_valuesOf_48 : decode b_AT_valuesOf 48 = .ok (.aload_n 0, 1) := by decide +kernel
theorem d_AT_valuesOf_49 : decode b_AT_valuesOf 49 = .ok (.getfield 15, 3) := by decide +kernel
theorem d_AT_valuesOf_52 : decode b_AT_valuesOf 52 = .ok (.iload 5, 2) := by decide +kernel
theorem d_AT_valuesOf_54 : decode b_AT_valuesOf 54 = .ok (.iload 4, 2) := by decide +kernel
theorem d_AT_valuesOf_56 : decode b_AT_valuesOf 56 = .ok (.invokevirtual 39, 3) := by decide +kernel
theorem d_AT_valuesOf_59 : decode b_AT_valuesOf 59 = .ok (.ishl, 1) := by decide +kernel
theorem d_AT_valuesOf_60 : decode b_AT_valuesOf 60 = .ok (.ior, 1) := by decide +kernel
theorem d_AT_valuesOf_61 : decode b_AT_valuesOf 61 = .ok (.istore_n 3, 1) := by decide +kernel
theorem d_AT_valuesOf_62 : decode b_AT_valuesOf 62 = .ok (.iinc 5 1, 3) := by decide +kernel
theorem d_AT_valuesOf_65 : decode b_AT_valuesOf 65 = .ok (.goto (-51), 3) := by decide +kernel
theorem d_AT_valuesOf_68 : decode b_AT_valuesOf 68 = .ok (.iinc 4 1, 3) := by decide +kernel
theorem d_AT_valuesOf_71 : decode b_AT_valuesOf 71 = .ok (.goto (-66), 3) := by decide +kernel
theorem d_AT_valuesOf_74 : decode b_AT_valuesOf 74 = .ok (.iload_n 3, 1) := by decide +kernel
theorem d_AT_valuesOf_75 : decode b_AT_valuesOf 75 = .ok (.ireturn, 1) := by decide +kernel
theorem d_JO_keepRowsWith_0 : decode b_JO_keepRowsWith 0 = .ok (.aload_n 0, 1) := by decide +kernel
theorem d_JO_keepRowsWith_1 : decode b_JO_keepRowsWith 1 = .ok (.getfield 16, 3) := by decide +kernel
theorem d_JO_keepRowsWith_4 : decode b_JO_keepRowsWith 4 = .ok (.iload_n 1, 1) := by decide +kernel
theorem d_JO_keepRowsWith_5 : decode b_JO_keepRowsWith 5 = .ok (.iconst 1, 1) := by decide +kernel
theorem d_JO_keepRowsWith_6 : decode b_JO_keepRowsWith 6 = .ok (.iadd, 1) := by decide +kernel
theorem d_JO_keepRowsWith_7 : decode b_JO_keepRowsWith 7 = .ok (.aaload, 1) := by decide +kernel
theorem d_JO_keepRowsWith_8 : decode b_JO_keepRowsWith 8 = .ok (.astore 4, 2) := by decide +kernel
theorem d_JO_keepRowsWith_10 : decode b_JO_keepRowsWith 10 = .ok (.iconst 0, 1) := by decide +kernel
theorem d_JO_keepRowsWith_11 : decode b_JO_keepRowsWith 11 = .ok (.istore 5, 2) := by decide +kernel
theorem d_JO_keepRowsWith_13 : decode b_JO_keepRowsWith 13 = .ok (.iload 5, 2) := by decide +kernel
theorem d_JO_keepRowsWith_15 : decode b_JO_keepRowsWith 15 = .ok (.aload_n 0, 1) := by decide +kernel
theorem d_JO_keepRowsWith_16 : decode b_JO_keepRowsWith 16 = .ok (.getfield 28, 3) := by decide +kernel
theorem d_JO_keepRowsWith_19 : decode b_JO_keepRowsWith 19 = .ok (.getfield 89, 3) := by decide +kernel
theorem d_JO_keepRowsWith_22 : decode b_JO_keepRowsWith 22 = .ok (.if_icmp .ge 43, 3) := by decide +kernel
theorem d_JO_keepRowsWith_25 : decode b_JO_keepRowsWith 25 = .ok (.aload_n 0, 1) := by decide +kernel
theorem d_JO_keepRowsWith_26 : decode b_JO_keepRowsWith 26 = .ok (.getfield 28, 3) := by decide +kernel
theorem d_JO_keepRowsWith_29 : decode b_JO_keepRowsWith 29 = .ok (.getfield 92, 3) := by decide +kernel
theorem d_JO_keepRowsWith_32 : decode b_JO_keepRowsWith 32 = .ok (.iload 5, 2) := by decide +kernel
theorem d_JO_keepRowsWith_34 : decode b_JO_keepRowsWith 34 = .ok (.aaload, 1) := by decide +kernel
theorem d_JO_keepRowsWith_35 : decode b_JO_keepRowsWith 35 = .ok (.iload_n 2, 1) := by decide +kernel
theorem d_JO_keepRowsWith_36 : decode b_JO_keepRowsWith 36 = .ok (.iload_n 3, 1) := by decide +kernel
theorem d_JO_keepRowsWith_37 : decode b_JO_keepRowsWith 37 = .ok (.invokevirtual 149, 3) := by decide +kernel
theorem d_JO_keepRowsWith_40 : decode b_JO_keepRowsWith 40 = .ok (.istore 6, 2) := by decide +kernel
theorem d_JO_keepRowsWith_42 : decode b_JO_keepRowsWith 42 = .ok (.aload 4, 2) := by decide +kernel
theorem d_JO_keepRowsWith_44 : decode b_JO_keepRowsWith 44 = .ok (.iload 5, 2) := by decide +kernel
theorem d_JO_keepRowsWith_46 : decode b_JO_keepRowsWith 46 = .ok (.aload_n 0, 1) := by decide +kernel
theorem d_JO_keepRowsWith_47 : decode b_JO_keepRowsWith 47 = .ok (.getfield 16, 3) := by decide +kernel
theorem d_JO_keepRowsWith_50 : decode b_JO_keepRowsWith 50 = .ok (.iload_n 1, 1) := by decide +kernel
theorem d_JO_keepRowsWith_51 : decode b_JO_keepRowsWith 51 = .ok (.aaload, 1) := by decide +kernel
theorem d_JO_keepRowsWith_52 : decode b_JO_keepRowsWith 52 = .ok (.iload 5, 2) := by decide +kernel
theorem d_JO_keepRowsWith_54 : decode b_JO_keepRowsWith 54 = .ok (.iaload, 1) := by decide +kernel
theorem d_JO_keepRowsWith_55 : decode b_JO_keepRowsWith 55 = .ok (.iload 6, 2) := by decide +kernel
theorem d_JO_keepRowsWith_57 : decode b_JO_keepRowsWith 57 = .ok (.iand, 1) := by decide +kernel
theorem d_JO_keepRowsWith_58 : decode b_JO_keepRowsWith 58 = .ok (.iastore, 1) := by decide +kernel
theorem d_JO_keepRowsWith_59 : decode b_JO_keepRowsWith 59 = .ok (.iinc 5 1, 3) := by decide +kernel
theorem d_JO_keepRowsWith_62 : decode b_JO_keepRowsWith 62 = .ok (.goto (-49), 3) := by decide +kernel
theorem d_JO_keepRowsWith_65 : decode b_JO_keepRowsWith 65 = .ok (.aload_n 0, 1) := by decide +kernel
theorem d_JO_keepRowsWith_66 : decode b_JO_keepRowsWith 66 = .ok (.aload 4, 2) := by decide +kernel
theorem d_JO_keepRowsWith_68 : decode b_JO_keepRowsWith 68 = .ok (.invokevirtual 39, 3) := by decide +kernel
theorem d_JO_keepRowsWith_71 : decode b_JO_keepRowsWith 71 = .ok (.return_, 1) := by decide +kernel
theorem d_LA_answer_0 : decode b_LA_answer 0 = .ok (.aload_n 3, 1) := by decide +kernel
theorem d_LA_answer_1 : decode b_LA_answer 1 = .ok (.iconst 0, 1) := by decide +kernel
theorem d_LA_answer_2 : decode b_LA_answer 2 = .ok (.aload_n 0, 1) := by decide +kernel
theorem d_LA_answer_3 : decode b_LA_answer 3 = .ok (.iload_n 1, 1) := by decide +kernel
theorem d_LA_answer_4 : decode b_LA_answer 4 = .ok (.iload_n 2, 1) := by decide +kernel
theorem d_LA_answer_5 : decode b_LA_answer 5 = .ok (.invokevirtual 29, 3) := by decide +kernel
theorem d_LA_answer_8 : decode b_LA_answer 8 = .ok (.i2l, 1) := by decide +kernel
theorem d_LA_answer_9 : decode b_LA_answer 9 = .ok (.lastore, 1) := by decide +kernel
theorem d_LA_answer_10 : decode b_LA_answer 10 = .ok (.goto 19, 3) := by decide +kernel
theorem d_LA_answer_13 : decode b_LA_answer 13 = .ok (.astore 4, 2) := by decide +kernel
theorem d_LA_answer_15 : decode b_LA_answer 15 = .ok (.iconst 1, 1) := by decide +kernel
theorem d_LA_answer_16 : decode b_LA_answer 16 = .ok (.ireturn, 1) := by decide +kernel
theorem d_LA_answer_17 : decode b_LA_answer 17 = .ok (.astore 4, 2) := by decide +kernel
theorem d_LA_answer_19 : decode b_LA_answer 19 = .ok (.iconst 2, 1) := by decide +kernel
theorem d_LA_answer_20 : decode b_LA_answer 20 = .ok (.ireturn, 1) := by decide +kernel
theorem d_LA_answer_21 : decode b_LA_answer 21 = .ok (.astore 4, 2) := by decide +kernel
theorem d_LA_answer_23 : decode b_LA_answer 23 = .ok (.iconst 3, 1) := by decide +kernel
theorem d_LA_answer_24 : decode b_LA_answer 24 = .ok (.ireturn, 1) := by decide +kernel
theorem d_LA_answer_25 : decode b_LA_answer 25 = .ok (.astore 4, 2) := by decide +kernel
theorem d_LA_answer_27 : decode b_LA_answer 27 = .ok (.iconst 4, 1) := by decide +kernel
theorem d_LA_answer_28 : decode b_LA_answer 28 = .ok (.ireturn, 1) := by decide +kernel
theorem d_LA_answer_29 : decode b_LA_answer 29 = .ok (.iconst 0, 1) := by decide +kernel
theorem d_LA_answer_30 : decode b_LA_answer 30 = .ok (.ireturn, 1) := by decide +kernel
theorem d_JL_answer_0 : decode b_JL_answer 0 = .ok (.aload_n 0, 1) := by decide +kernel
theorem d_JL_answer_1 : decode b_JL_answer 1 = .ok (.invokevirtual 113, 3) := by decide +kernel
theorem d_JL_answer_4 : decode b_JL_answer 4 = .ok (.iload_n 1, 1) := by decide +kernel
theorem d_JL_answer_5 : decode b_JL_answer 5 = .ok (.aload_n 0, 1) := by decide +kernel
theorem d_JL_answer_6 : decode b_JL_answer 6 = .ok (.getfield 39, 3) := by decide +kernel
theorem d_JL_answer_9 : decode b_JL_answer 9 = .ok (.getfield 116, 3) := by decide +kernel
theorem d_JL_answer_12 : decode b_JL_answer 12 = .ok (.invokestatic 50, 3) := by decide +kernel
theorem d_JL_answer_15 : decode b_JL_answer 15 = .ok (.ifCond .eq 17, 3) := by decide +kernel
theorem d_JL_answer_18 : decode b_JL_answer 18 = .ok (.iload_n 2, 1) := by decide +kernel
theorem d_JL_answer_19 : decode b_JL_answer 19 = .ok (.aload_n 0, 1) := by decide +kernel
theorem d_JL_answer_20 : decode b_JL_answer 20 = .ok (.getfield 21, 3) := by decide +kernel
theorem d_JL_answer_23 : decode b_JL_answer 23 = .ok (.getfield 78, 3) := by decide +kernel
theorem d_JL_answer_26 : decode b_JL_answer 26 = .ok (.invokestatic 50, 3) := by decide +kernel
theorem d_JL_answer_29 : decode b_JL_answer 29 = .ok (.ifCond .ne 13, 3) := by decide +kernel
theorem d_JL_answer_32 : decode b_JL_answer 32 = .ok (.new 102, 3) := by decide +kernel
theorem d_JL_answer_35 : decode b_JL_answer 35 = .ok (.dup, 1) := by decide +kernel
theorem d_JL_answer_36 : decode b_JL_answer 36 = .ok (.ldc 119, 2) := by decide +kernel
theorem d_JL_answer_38 : decode b_JL_answer 38 = .ok (.invokespecial 106, 3) := by decide +kernel
theorem d_JL_answer_41 : decode b_JL_answer 41 = .ok (.athrow, 1) := by decide +kernel
theorem d_JL_answer_42 : decode b_JL_answer 42 = .ok (.aload_n 0, 1) := by decide +kernel
theorem d_JL_answer_43 : decode b_JL_answer 43 = .ok (.getfield 39, 3) := by decide +kernel
theorem d_JL_answer_46 : decode b_JL_answer 46 = .ok (.iload_n 1, 1) := by decide +kernel
theorem d_JL_answer_47 : decode b_JL_answer 47 = .ok (.iload_n 2, 1) := by decide +kernel
theorem d_JL_answer_48 : decode b_JL_answer 48 = .ok (.invokevirtual 121, 3) := by decide +kernel
theorem d_JL_answer_51 : decode b_JL_answer 51 = .ok (.ireturn, 1) := by decide +kernel
theorem d_JO_valueInAnswer_0 : decode b_JO_valueInAnswer 0 = .ok (.aload_n 0, 1) := by decide +kernel
theorem d_JO_valueInAnswer_1 : decode b_JO_valueInAnswer 1 = .ok (.getfield 24, 3) := by decide +kernel
theorem d_JO_valueInAnswer_4 : decode b_JO_valueInAnswer 4 = .ok (.iload_n 1, 1) := by decide +kernel
theorem d_JO_valueInAnswer_5 : decode b_JO_valueInAnswer 5 = .ok (.iaload, 1) := by decide +kernel
theorem d_JO_valueInAnswer_6 : decode b_JO_valueInAnswer 6 = .ok (.iconst 4, 1) := by decide +kernel
theorem d_JO_valueInAnswer_7 : decode b_JO_valueInAnswer 7 = .ok (.aload_n 0, 1) := by decide +kernel
theorem d_JO_valueInAnswer_8 : decode b_JO_valueInAnswer 8 = .ok (.getfield 28, 3) := by decide +kernel
theorem d_JO_valueInAnswer_11 : decode b_JO_valueInAnswer 11 = .ok (.getfield 84, 3) := by decide +kernel
theorem d_JO_valueInAnswer_14 : decode b_JO_valueInAnswer 14 = .ok (.iconst 1, 1) := by decide +kernel
theorem d_JO_valueInAnswer_15 : decode b_JO_valueInAnswer 15 = .ok (.isub, 1) := by decide +kernel
theorem d_JO_valueInAnswer_16 : decode b_JO_valueInAnswer 16 = .ok (.iload_n 2, 1) := by decide +kernel
theorem d_JO_valueInAnswer_17 : decode b_JO_valueInAnswer 17 = .ok (.isub, 1) := by decide +kernel
theorem d_JO_valueInAnswer_18 : decode b_JO_valueInAnswer 18 = .ok (.imul, 1) := by decide +kernel
theorem d_JO_valueInAnswer_19 : decode b_JO_valueInAnswer 19 = .ok (.ishr, 1) := by decide +kernel
theorem d_JO_valueInAnswer_20 : decode b_JO_valueInAnswer 20 = .ok (.bipush 15, 2) := by decide +kernel
theorem d_JO_valueInAnswer_22 : decode b_JO_valueInAnswer 22 = .ok (.iand, 1) := by decide +kernel
theorem d_JO_valueInAnswer_23 : decode b_JO_valueInAnswer 23 = .ok (.ireturn, 1) := by decide +kernel
theorem d_MO_init_0 : decode b_MO_init 0 = .ok (.aload_n 0, 1) := by decide +kernel
theorem d_MO_init_1 : decode b_MO_init 1 = .ok (.invokespecial 1, 3) := by decide +kernel
theorem d_MO_init_4 : decode b_MO_init 4 = .ok (.aload_n 0, 1) := by decide +kernel
theorem d_MO_init_5 : decode b_MO_init 5 = .ok (.bipush 6, 2) := by decide +kernel
theorem d_MO_init_7 : decode b_MO_init 7 = .ok (.newarray .int, 2) := by decide +kernel
theorem d_MO_init_9 : decode b_MO_init 9 = .ok (.putfield 7, 3) := by decide +kernel
theorem d_MO_init_12 : decode b_MO_init 12 = .ok (.aload_n 0, 1) := by decide +kernel
theorem d_MO_init_13 : decode b_MO_init 13 = .ok (.bipush 6, 2) := by decide +kernel
theorem d_MO_init_15 : decode b_MO_init 15 = .ok (.newarray .int, 2) := by decide +kernel
theorem d_MO_init_17 : decode b_MO_init 17 = .ok (.putfield 13, 3) := by decide +kernel
theorem d_MO_init_20 : decode b_MO_init 20 = .ok (.aload_n 0, 1) := by decide +kernel
theorem d_MO_init_21 : decode b_MO_init 21 = .ok (.sipush 216, 3) := by decide +kernel
theorem d_MO_init_24 : decode b_MO_init 24 = .ok (.newarray .int, 2) := by decide +kernel
theorem d_MO_init_26 : decode b_MO_init 26 = .ok (.putfield 16, 3) := by decide +kernel
theorem d_MO_init_29 : decode b_MO_init 29 = .ok (.aload_n 0, 1) := by decide +kernel
theorem d_MO_init_30 : decode b_MO_init 30 = .ok (.bipush 6, 2) := by decide +kernel
theorem d_MO_init_32 : decode b_MO_init 32 = .ok (.newarray .int, 2) := by decide +kernel
theorem d_MO_init_34 : decode b_MO_init 34 = .ok (.putfield 19, 3) := by decide +kernel
theorem d_MO_init_37 : decode b_MO_init 37 = .ok (.aload_n 0, 1) := by decide +kernel
theorem d_MO_init_38 : decode b_MO_init 38 = .ok (.bipush 18, 2) := by decide +kernel
theorem d_MO_init_40 : decode b_MO_init 40 = .ok (.newarray .int, 2) := by decide +kernel
theorem d_MO_init_42 : decode b_MO_init 42 = .ok (.putfield 22, 3) := by decide +kernel
theorem d_MO_init_45 : decode b_MO_init 45 = .ok (.aload_n 0, 1) := by decide +kernel
theorem d_MO_init_46 : decode b_MO_init 46 = .ok (.iconst 4, 1) := by decide +kernel
theorem d_MO_init_47 : decode b_MO_init 47 = .ok (.newarray .int, 2) := by decide +kernel
theorem d_MO_init_49 : decode b_MO_init 49 = .ok (.putfield 25, 3) := by decide +kernel
theorem d_MO_init_52 : decode b_MO_init 52 = .ok (.aload_n 0, 1) := by decide +kernel
theorem d_MO_init_53 : decode b_MO_init 53 = .ok (.bipush 6, 2) := by decide +kernel
theorem d_MO_init_55 : decode b_MO_init 55 = .ok (.newarray .int, 2) := by decide +kernel
theorem d_MO_init_57 : decode b_MO_init 57 = .ok (.putfield 28, 3) := by decide +kernel
theorem d_MO_init_60 : decode b_MO_init 60 = .ok (.aload_n 0, 1) := by decide +kernel
theorem d_MO_init_61 : decode b_MO_init 61 = .ok (.bipush 6, 2) := by decide +kernel
theorem d_MO_init_63 : decode b_MO_init 63 = .ok (.newarray .int, 2) := by decide +kernel
theorem d_MO_init_65 : decode b_MO_init 65 = .ok (.putfield 31, 3) := by decide +kernel
theorem d_MO_init_68 : decode b_MO_init 68 = .ok (.aload_n 0, 1) := by decide +kernel
theorem d_MO_init_69 : decode b_MO_init 69 = .ok (.bipush 8, 2) := by decide +kernel
theorem d_MO_init_71 : decode b_MO_init 71 = .ok (.newarray .int, 2) := by decide +kernel
theorem d_MO_init_73 : decode b_MO_init 73 = .ok (.putfield 34, 3) := by decide +kernel
theorem d_MO_init_76 : decode b_MO_init 76 = .ok (.aload_n 0, 1) := by decide +kernel
theorem d_MO_init_77 : decode b_MO_init 77 = .ok (.bipush 7, 2) := by decide +kernel
theorem d_MO_init_79 : decode b_MO_init 79 = .ok (.newarray .int, 2) := by decide +kernel
theorem d_MO_init_81 : decode b_MO_init 81 = .ok (.putfield 37, 3) := by decide +kernel
theorem d_MO_init_84 : decode b_MO_init 84 = .ok (.aload_n 0, 1) := by decide +kernel
theorem d_MO_init_85 : decode b_MO_init 85 = .ok (.bipush 6, 2) := by decide +kernel
theorem d_MO_init_87 : decode b_MO_init 87 = .ok (.newarray .int, 2) := by decide +kernel
theorem d_MO_init_89 : decode b_MO_init 89 = .ok (.putfield 40, 3) := by decide +kernel
theorem d_MO_init_92 : decode b_MO_init 92 = .ok (.aload_n 0, 1) := by decide +kernel
theorem d_MO_init_93 : decode b_MO_init 93 = .ok (.sipush 2048, 3) := by decide +kernel
theorem d_MO_init_96 : decode b_MO_init 96 = .ok (.newarray .int, 2) := by decide +kernel
theorem d_MO_init_98 : decode b_MO_init 98 = .ok (.putfield 43, 3) := by decide +kernel
theorem d_MO_init_101 : decode b_MO_init 101 = .ok (.aload_n 0, 1) := by decide +kernel
theorem d_MO_init_102 : decode b_MO_init 102 = .ok (.bipush 64, 2) := by decide +kernel
theorem d_MO_init_104 : decode b_MO_init 104 = .ok (.newarray .int, 2) := by decide +kernel
theorem d_MO_init_106 : decode b_MO_init 106 = .ok (.putfield 46, 3) := by decide +kernel
theorem d_MO_init_109 : decode b_MO_init 109 = .ok (.return_, 1) := by decide +kernel
theorem d_MO_thrown_0 : decode b_MO_thrown 0 = .ok (.aload_n 0, 1) := by decide +kernel
theorem d_MO_thrown_1 : decode b_MO_thrown 1 = .ok (.getfield 49, 3) := by decide +kernel
theorem d_MO_thrown_4 : decode b_MO_thrown 4 = .ok (.ireturn, 1) := by decide +kernel
theorem d_MO_relation_0 : decode b_MO_relation 0 = .ok (.aload_n 0, 1) := by decide +kernel
theorem d_MO_relation_1 : decode b_MO_relation 1 = .ok (.iconst 0, 1) := by decide +kernel
theorem d_MO_relation_2 : decode b_MO_relation 2 = .ok (.putfield 49, 3) := by decide +kernel
theorem d_MO_relation_5 : decode b_MO_relation 5 = .ok (.iload_n 1, 1) := by decide +kernel
theorem d_MO_relation_6 : decode b_MO_relation 6 = .ok (.iconst 1, 1) := by decide +kernel
theorem d_MO_relation_7 : decode b_MO_relation 7 = .ok (.if_icmp .lt 17, 3) := by decide +kernel
theorem d_MO_relation_10 : decode b_MO_relation 10 = .ok (.iload_n 1, 1) := by decide +kernel
theorem d_MO_relation_11 : decode b_MO_relation 11 = .ok (.iconst 3, 1) := by decide +kernel
theorem d_MO_relation_12 : decode b_MO_relation 12 = .ok (.if_icmp .gt 12, 3) := by decide +kernel
theorem d_MO_relation_15 : decode b_MO_relation 15 = .ok (.aload_n 0, 1) := by decide +kernel
theorem d_MO_relation_16 : decode b_MO_relation 16 = .ok (.getfield 53, 3) := by decide +kernel
theorem d_MO_relation_19 : decode b_MO_relation 19 = .ok (.bipush 6, 2) := by decide +kernel
theorem d_MO_relation_21 : decode b_MO_relation 21 = .ok (.if_icmp .ne 5, 3) := by decide +kernel
theorem d_MO_relation_24 : decode b_MO_relation 24 = .ok (.iconst (-1), 1) := by decide +kernel
theorem d_MO_relation_25 : decode b_MO_relation 25 = .ok (.ireturn, 1) := by decide +kernel
theorem d_MO_relation_26 : decode b_MO_relation 26 = .ok (.aload_n 0, 1) := by decide +kernel
theorem d_MO_relation_27 : decode b_MO_relation 27 = .ok (.getfield 7, 3) := by decide +kernel
theorem d_MO_relation_30 : decode b_MO_relation 30 = .ok (.aload_n 0, 1) := by decide +kernel
theorem d_MO_relation_31 : decode b_MO_relation 31 = .ok (.getfield 53, 3) := by decide +kernel
theorem d_MO_relation_34 : decode b_MO_relation 34 = .ok (.iload_n 1, 1) := by decide +kernel
theorem d_MO_relation_35 : decode b_MO_relation 35 = .ok (.iastore, 1) := by decide +kernel
theorem d_MO_relation_36 : decode b_MO_relation 36 = .ok (.aload_n 0, 1) := by decide +kernel
theorem d_MO_relation_37 : decode b_MO_relation 37 = .ok (.aload_n 0, 1) := by decide +kernel
theorem d_MO_relation_38 : decode b_MO_relation 38 = .ok (.getfield 53, 3) := by decide +kernel
theorem d_MO_relation_41 : decode b_MO_relation 41 = .ok (.iconst 1, 1) := by decide +kernel
theorem d_MO_relation_42 : decode b_MO_relation 42 = .ok (.iadd, 1) := by decide +kernel
theorem d_MO_relation_43 : decode b_MO_relation 43 = .ok (.putfield 53, 3) := by decide +kernel
theorem d_MO_relation_46 : decode b_MO_relation 46 = .ok (.aload_n 0, 1) := by decide +kernel
theorem d_MO_relation_47 : decode b_MO_relation 47 = .ok (.getfield 53, 3) := by decide +kernel
theorem d_MO_relation_50 : decode b_MO_relation 50 = .ok (.iconst 1, 1) := by decide +kernel
theorem d_MO_relation_51 : decode b_MO_relation 51 = .ok (.isub, 1) := by decide +kernel
theorem d_MO_relation_52 : decode b_MO_relation 52 = .ok (.ireturn, 1) := by decide +kernel
theorem d_MO_add_0 : decode b_MO_add 0 = .ok (.aload_n 0, 1) := by decide +kernel
theorem d_MO_add_1 : decode b_MO_add 1 = .ok (.iconst 0, 1) := by decide +kernel
theorem d_MO_add_2 : decode b_MO_add 2 = .ok (.putfield 49, 3) := by decide +kernel
theorem d_MO_add_5 : decode b_MO_add 5 = .ok (.aload_n 0, 1) := by decide +kernel
theorem d_MO_add_6 : decode b_MO_add 6 = .ok (.iload_n 1, 1) := by decide +kernel
theorem d_MO_add_7 : decode b_MO_add 7 = .ok (.invokevirtual 63, 3) := by decide +kernel
theorem d_MO_add_10 : decode b_MO_add 10 = .ok (.ifCond .eq 26, 3) := by decide +kernel
theorem d_MO_add_13 : decode b_MO_add 13 = .ok (.aload_n 0, 1) := by decide +kernel
theorem d_MO_add_14 : decode b_MO_add 14 = .ok (.getfield 13, 3) := by decide +kernel
theorem d_MO_add_17 : decode b_MO_add 17 = .ok (.iload_n 1, 1) := by decide +kernel
theorem d_MO_add_18 : decode b_MO_add 18 = .ok (.iaload, 1) := by decide +kernel
theorem d_MO_add_19 : decode b_MO_add 19 = .ok (.bipush 12, 2) := by decide +kernel
theorem d_MO_add_21 : decode b_MO_add 21 = .ok (.if_icmp .eq 15, 3) := by decide +kernel
theorem d_MO_add_24 : decode b_MO_add 24 = .ok (.aload_n 0, 1) := by decide +kernel
theorem d_MO_add_25 : decode b_MO_add 25 = .ok (.iload_n 1, 1) := by decide +kernel
theorem d_MO_add_26 : decode b_MO_add 26 = .ok (.iload_n 2, 1) := by decide +kernel
theorem d_MO_add_27 : decode b_MO_add 27 = .ok (.iload_n 3, 1) := by decide +kernel
theorem d_MO_add_28 : decode b_MO_add 28 = .ok (.iload 4, 2) := by decide +kernel
theorem d_MO_add_30 : decode b_MO_add 30 = .ok (.invokevirtual 67, 3) := by decide +kernel
theorem d_MO_add_33 : decode b_MO_add 33 = .ok (.ifCond .lt 5, 3) := by decide +kernel
theorem d_MO_add_36 : decode b_MO_add 36 = .ok (.iconst 0, 1) := by decide +kernel
theorem d_MO_add_37 : decode b_MO_add 37 = .ok (.ireturn, 1) := by decide +kernel
theorem d_MO_add_38 : decode b_MO_add 38 = .ok (.iconst 1, 1) := by decide +kernel
theorem d_MO_add_39 : decode b_MO_add 39 = .ok (.istore 5, 2) := by decide +kernel
theorem d_MO_add_41 : decode b_MO_add 41 = .ok (.iconst 0, 1) := by decide +kernel
theorem d_MO_add_42 : decode b_MO_add 42 = .ok (.istore 6, 2) := by decide +kernel
theorem d_MO_add_44 : decode b_MO_add 44 = .ok (.iload 6, 2) := by decide +kernel
theorem d_MO_add_46 : decode b_MO_add 46 = .ok (.aload_n 0, 1) := by decide +kernel
theorem d_MO_add_47 : decode b_MO_add 47 = .ok (.getfield 7, 3) := by decide +kernel
theorem d_MO_add_50 : decode b_MO_add 50 = .ok (.iload_n 1, 1) := by decide +kernel
theorem d_MO_add_51 : decode b_MO_add 51 = .ok (.iaload, 1) := by decide +kernel
theorem d_MO_add_52 : decode b_MO_add 52 = .ok (.if_icmp .ge 44, 3) := by decide +kernel
theorem d_MO_add_55 : decode b_MO_add 55 = .ok (.iload 6, 2) := by decide +kernel
theorem d_MO_add_57 : decode b_MO_add 57 = .ok (.iload_n 2, 1) := by decide +kernel
theorem d_MO_add_58 : decode b_MO_add 58 = .ok (.iload_n 3, 1) := by decide +kernel
theorem d_MO_add_59 : decode b_MO_add 59 = .ok (.iload 4, 2) := by decide +kernel
theorem d_MO_add_61 : decode b_MO_add 61 = .ok (.invokestatic 59, 3) := by decide +kernel
theorem d_MO_add_64 : decode b_MO_add 64 = .ok (.istore 7, 2) := by decide +kernel
theorem d_MO_add_66 : decode b_MO_add 66 = .ok (.iload 5, 2) := by decide +kernel
theorem d_MO_add_68 : decode b_MO_add 68 = .ok (.ifCond .eq 19, 3) := by decide +kernel
theorem d_MO_add_71 : decode b_MO_add 71 = .ok (.iload 7, 2) := by decide +kernel
theorem d_MO_add_73 : decode b_MO_add 73 = .ok (.ifCond .lt 14, 3) := by decide +kernel
theorem d_MO_add_76 : decode b_MO_add 76 = .ok (.iload 7, 2) := by decide +kernel
theorem d_MO_add_78 : decode b_MO_add 78 = .ok (.bipush 16, 2) := by decide +kernel
theorem d_MO_add_80 : decode b_MO_add 80 = .ok (.if_icmp .ge 7, 3) := by decide +kernel
theorem d_MO_add_83 : decode b_MO_add 83 = .ok (.iconst 1, 1) := by decide +kernel
theorem d_MO_add_84 : decode b_MO_add 84 = .ok (.goto 4, 3) := by decide +kernel
theorem d_MO_add_87 : decode b_MO_add 87 = .ok (.iconst 0, 1) := by decide +kernel
theorem d_MO_add_88 : decode b_MO_add 88 = .ok (.istore 5, 2) := by decide +kernel
theorem d_MO_add_90 : decode b_MO_add 90 = .ok (.iinc 6 1, 3) := by decide +kernel
theorem d_MO_add_93 : decode b_MO_add 93 = .ok (.goto (-49), 3) := by decide +kernel
theorem d_MO_add_96 : decode b_MO_add 96 = .ok (.iload 5, 2) := by decide +kernel
theorem d_MO_add_98 : decode b_MO_add 98 = .ok (.ifCond .ne 5, 3) := by decide +kernel
theorem d_MO_add_101 : decode b_MO_add 101 = .ok (.iconst 0, 1) := by decide +kernel
theorem d_MO_add_102 : decode b_MO_add 102 = .ok (.ireturn, 1) := by decide +kernel
theorem d_MO_add_103 : decode b_MO_add 103 = .ok (.iconst 0, 1) := by decide +kernel
theorem d_MO_add_104 : decode b_MO_add 104 = .ok (.istore 6, 2) := by decide +kernel
theorem d_MO_add_106 : decode b_MO_add 106 = .ok (.iload 6, 2) := by decide +kernel
theorem d_MO_add_108 : decode b_MO_add 108 = .ok (.aload_n 0, 1) := by decide +kernel
theorem d_MO_add_109 : decode b_MO_add 109 = .ok (.getfield 7, 3) := by decide +kernel
theorem d_MO_add_112 : decode b_MO_add 112 = .ok (.iload_n 1, 1) := by decide +kernel
theorem d_MO_add_113 : decode b_MO_add 113 = .ok (.iaload, 1) := by decide +kernel
theorem d_MO_add_114 : decode b_MO_add 114 = .ok (.if_icmp .ge 39, 3) := by decide +kernel
theorem d_MO_add_117 : decode b_MO_add 117 = .ok (.aload_n 0, 1) := by decide +kernel
theorem d_MO_add_118 : decode b_MO_add 118 = .ok (.getfield 16, 3) := by decide +kernel
theorem d_MO_add_121 : decode b_MO_add 121 = .ok (.bipush 36, 2) := by decide +kernel
theorem d_MO_add_123 : decode b_MO_add 123 = .ok (.iload_n 1, 1) := by decide +kernel
theorem d_MO_add_124 : decode b_MO_add 124 = .ok (.imul, 1) := by decide +kernel
theorem d_MO_add_125 : decode b_MO_add 125 = .ok (.iconst 3, 1) := by decide +kernel
theorem d_MO_add_126 : decode b_MO_add 126 = .ok (.aload_n 0, 1) := by decide +kernel
theorem d_MO_add_127 : decode b_MO_add 127 = .ok (.getfield 13, 3) := by decide +kernel
theorem d_MO_add_130 : decode b_MO_add 130 = .ok (.iload_n 1, 1) := by decide +kernel
theorem d_MO_add_131 : decode b_MO_add 131 = .ok (.iaload, 1) := by decide +kernel
theorem d_MO_add_132 : decode b_MO_add 132 = .ok (.imul, 1) := by decide +kernel
theorem d_MO_add_133 : decode b_MO_add 133 = .ok (.iadd, 1) := by decide +kernel
theorem d_MO_add_134 : decode b_MO_add 134 = .ok (.iload 6, 2) := by decide +kernel
theorem d_MO_add_136 : decode b_MO_add 136 = .ok (.iadd, 1) := by decide +kernel
theorem d_MO_add_137 : decode b_MO_add 137 = .ok (.iload 6, 2) := by decide +kernel
theorem d_MO_add_139 : decode b_MO_add 139 = .ok (.iload_n 2, 1) := by decide +kernel
theorem d_MO_add_140 : decode b_MO_add 140 = .ok (.iload_n 3, 1) := by decide +kernel
theorem d_MO_add_141 : decode b_MO_add 141 = .ok (.iload 4, 2) := by decide +kernel
theorem d_MO_add_143 : decode b_MO_add 143 = .ok (.invokestatic 59, 3) := by decide +kernel
theorem d_MO_add_146 : decode b_MO_add 146 = .ok (.iastore, 1) := by decide +kernel
theorem d_MO_add_147 : decode b_MO_add 147 = .ok (.iinc 6 1, 3) := by decide +kernel
theorem d_MO_add_150 : decode b_MO_add 150 = .ok (.goto (-44), 3) := by decide +kernel
theorem d_MO_add_153 : decode b_MO_add 153 = .ok (.aload_n 0, 1) := by decide +kernel
theorem d_MO_add_154 : decode b_MO_add 154 = .ok (.getfield 13, 3) := by decide +kernel
theorem d_MO_add_157 : decode b_MO_add 157 = .ok (.iload_n 1, 1) := by decide +kernel
theorem d_MO_add_158 : decode b_MO_add 158 = .ok (.aload_n 0, 1) := by decide +kernel
theorem d_MO_add_159 : decode b_MO_add 159 = .ok (.getfield 13, 3) := by decide +kernel
theorem d_MO_add_162 : decode b_MO_add 162 = .ok (.iload_n 1, 1) := by decide +kernel
theorem d_MO_add_163 : decode b_MO_add 163 = .ok (.iaload, 1) := by decide +kernel
theorem d_MO_add_164 : decode b_MO_add 164 = .ok (.iconst 1, 1) := by decide +kernel
theorem d_MO_add_165 : decode b_MO_add 165 = .ok (.iadd, 1) := by decide +kernel
theorem d_MO_add_166 : decode b_MO_add 166 = .ok (.iastore, 1) := by decide +kernel
theorem d_MO_add_167 : decode b_MO_add 167 = .ok (.aload_n 0, 1) := by decide +kernel
theorem d_MO_add_168 : decode b_MO_add 168 = .ok (.iconst 0, 1) := by decide +kernel
theorem d_MO_add_169 : decode b_MO_add 169 = .ok (.putfield 70, 3) := by decide +kernel
theorem d_MO_add_172 : decode b_MO_add 172 = .ok (.iconst 1, 1) := by decide +kernel
theorem d_MO_add_173 : decode b_MO_add 173 = .ok (.ireturn, 1) := by decide +kernel
theorem d_MO_isRelation_0 : decode b_MO_isRelation 0 = .ok (.iload_n 1, 1) := by decide +kernel
theorem d_MO_isRelation_1 : decode b_MO_isRelation 1 = .ok (.ifCond .lt 15, 3) := by decide +kernel
theorem d_MO_isRelation_4 : decode b_MO_isRelation 4 = .ok (.iload_n 1, 1) := by decide +kernel
theorem d_MO_isRelation_5 : decode b_MO_isRelation 5 = .ok (.aload_n 0, 1) := by decide +kernel
theorem d_MO_isRelation_6 : decode b_MO_isRelation 6 = .ok (.getfield 53, 3) := by decide +kernel
theorem d_MO_isRelation_9 : decode b_MO_isRelation 9 = .ok (.if_icmp .ge 7, 3) := by decide +kernel
theorem d_MO_isRelation_12 : decode b_MO_isRelation 12 = .ok (.iconst 1, 1) := by decide +kernel
theorem d_MO_isRelation_13 : decode b_MO_isRelation 13 = .ok (.goto 4, 3) := by decide +kernel
theorem d_MO_isRelation_16 : decode b_MO_isRelation 16 = .ok (.iconst 0, 1) := by decide +kernel
theorem d_MO_isRelation_17 : decode b_MO_isRelation 17 = .ok (.ireturn, 1) := by decide +kernel
theorem d_MO_placeOf_0 : decode b_MO_placeOf 0 = .ok (.iconst (-1), 1) := by decide +kernel
theorem d_MO_placeOf_1 : decode b_MO_placeOf 1 = .ok (.istore 5, 2) := by decide +kernel
theorem d_MO_placeOf_3 : decode b_MO_placeOf 3 = .ok (.iconst 0, 1) := by decide +kernel
theorem d_MO_placeOf_4 : decode b_MO_placeOf 4 = .ok (.istore 6, 2) := by decide +kernel
theorem d_MO_placeOf_6 : decode b_MO_placeOf 6 = .ok (.iload 6, 2) := by decide +kernel
theorem d_MO_placeOf_8 : decode b_MO_placeOf 8 = .ok (.aload_n 0, 1) := by decide +kernel
theorem d_MO_placeOf_9 : decode b_MO_placeOf 9 = .ok (.getfield 13, 3) := by decide +kernel
theorem d_MO_placeOf_12 : decode b_MO_placeOf 12 = .ok (.iload_n 1, 1) := by decide +kernel
theorem d_MO_placeOf_13 : decode b_MO_placeOf 13 = .ok (.iaload, 1) := by decide +kernel
theorem d_MO_placeOf_14 : decode b_MO_placeOf 14 = .ok (.if_icmp .ge 87, 3) := by decide +kernel
theorem d_MO_placeOf_17 : decode b_MO_placeOf 17 = .ok (.iconst 1, 1) := by decide +kernel
theorem d_MO_placeOf_18 : decode b_MO_placeOf 18 = .ok (.istore 7, 2) := by decide +kernel
theorem d_MO_placeOf_20 : decode b_MO_placeOf 20 = .ok (.iconst 0, 1) := by decide +kernel
theorem d_MO_placeOf_21 : decode b_MO_placeOf 21 = .ok (.istore 8, 2) := by decide +kernel
theorem d_MO_placeOf_23 : decode b_MO_placeOf 23 = .ok (.iload 8, 2) := by decide +kernel
theorem d_MO_placeOf_25 : decode b_MO_placeOf 25 = .ok (.aload_n 0, 1) := by decide +kernel
theorem d_MO_placeOf_26 : decode b_MO_placeOf 26 = .ok (.getfield 7, 3) := by decide +kernel
theorem d_MO_placeOf_29 : decode b_MO_placeOf 29 = .ok (.iload_n 1, 1) := by decide +kernel
theorem d_MO_placeOf_30 : decode b_MO_placeOf 30 = .ok (.iaload, 1) := by decide +kernel
theorem d_MO_placeOf_31 : decode b_MO_placeOf 31 = .ok (.if_icmp .ge 50, 3) := by decide +kernel
theorem d_MO_placeOf_34 : decode b_MO_placeOf 34 = .ok (.iload 7, 2) := by decide +kernel
theorem d_MO_placeOf_36 : decode b_MO_placeOf 36 = .ok (.ifCond .eq 36, 3) := by decide +kernel
theorem d_MO_placeOf_39 : decode b_MO_placeOf 39 = .ok (.aload_n 0, 1) := by decide +kernel
theorem d_MO_placeOf_40 : decode b_MO_placeOf 40 = .ok (.getfield 16, 3) := by decide +kernel
theorem d_MO_placeOf_43 : decode b_MO_placeOf 43 = .ok (.bipush 36, 2) := by decide +kernel
theorem d_MO_placeOf_45 : decode b_MO_placeOf 45 = .ok (.iload_n 1, 1) := by decide +kernel
theorem d_MO_placeOf_46 : decode b_MO_placeOf 46 = .ok (.imul, 1) := by decide +kernel
theorem d_MO_placeOf_47 : decode b_MO_placeOf 47 = .ok (.iconst 3, 1) := by decide +kernel
theorem d_MO_placeOf_48 : decode b_MO_placeOf 48 = .ok (.iload 6, 2) := by decide +kernel
theorem d_MO_placeOf_50 : decode b_MO_placeOf 50 = .ok (.imul, 1) := by decide +kernel
theorem d_MO_placeOf_51 : decode b_MO_placeOf 51 = .ok (.iadd, 1) := by decide +kernel
theorem d_MO_placeOf_52 : decode b_MO_placeOf 52 = .ok (.iload 8, 2) := by decide +kernel
theorem d_MO_placeOf_54 : decode b_MO_placeOf 54 = .ok (.iadd, 1) := by decide +kernel
theorem d_MO_placeOf_55 : decode b_MO_placeOf 55 = .ok (.iaload, 1) := by decide +kernel
theorem d_MO_placeOf_56 : decode b_MO_placeOf 56 = .ok (.iload 8, 2) := by decide +kernel
theorem d_MO_placeOf_58 : decode b_MO_placeOf 58 = .ok (.iload_n 2, 1) := by decide +kernel
theorem d_MO_placeOf_59 : decode b_MO_placeOf 59 = .ok (.iload_n 3, 1) := by decide +kernel
theorem d_MO_placeOf_60 : decode b_MO_placeOf 60 = .ok (.iload 4, 2) := by decide +kernel
theorem d_MO_placeOf_62 : decode b_MO_placeOf 62 = .ok (.invokestatic 59, 3) := by decide +kernel
theorem d_MO_placeOf_65 : decode b_MO_placeOf 65 = .ok (.if_icmp .ne 7, 3) := by decide +kernel
theorem d_MO_placeOf_68 : decode b_MO_placeOf 68 = .ok (.iconst 1, 1) := by decide +kernel
theorem d_MO_placeOf_69 : decode b_MO_placeOf 69 = .ok (.goto 4, 3) := by decide +kernel
theorem d_MO_placeOf_72 : decode b_MO_placeOf 72 = .ok (.iconst 0, 1) := by decide +kernel
theorem d_MO_placeOf_73 : decode b_MO_placeOf 73 = .ok (.istore 7, 2) := by decide +kernel
theorem d_MO_placeOf_75 : decode b_MO_placeOf 75 = .ok (.iinc 8 1, 3) := by decide +kernel
theorem d_MO_placeOf_78 : decode b_MO_placeOf 78 = .ok (.goto (-55), 3) := by decide +kernel
theorem d_MO_placeOf_81 : decode b_MO_placeOf 81 = .ok (.iload 7, 2) := by decide +kernel
theorem d_MO_placeOf_83 : decode b_MO_placeOf 83 = .ok (.ifCond .eq 8, 3) := by decide +kernel
theorem d_MO_placeOf_86 : decode b_MO_placeOf 86 = .ok (.iload 6, 2) := by decide +kernel
theorem d_MO_placeOf_88 : decode b_MO_placeOf 88 = .ok (.goto 5, 3) := by decide +kernel
theorem d_MO_placeOf_91 : decode b_MO_placeOf 91 = .ok (.iload 5, 2) := by decide +kernel
theorem d_MO_placeOf_93 : decode b_MO_placeOf 93 = .ok (.istore 5, 2) := by decide +kernel
theorem d_MO_placeOf_95 : decode b_MO_placeOf 95 = .ok (.iinc 6 1, 3) := by decide +kernel
theorem d_MO_placeOf_98 : decode b_MO_placeOf 98 = .ok (.goto (-92), 3) := by decide +kernel
theorem d_MO_placeOf_101 : decode b_MO_placeOf 101 = .ok (.iload 5, 2) := by decide +kernel
theorem d_MO_placeOf_103 : decode b_MO_placeOf 103 = .ok (.ireturn, 1) := by decide +kernel
theorem d_MO_pick_0 : decode b_MO_pick 0 = .ok (.iload_n 0, 1) := by decide +kernel
theorem d_MO_pick_1 : decode b_MO_pick 1 = .ok (.ifCond .ne 7, 3) := by decide +kernel
theorem d_MO_pick_4 : decode b_MO_pick 4 = .ok (.iload_n 1, 1) := by decide +kernel
theorem d_MO_pick_5 : decode b_MO_pick 5 = .ok (.goto 13, 3) := by decide +kernel
theorem d_MO_pick_8 : decode b_MO_pick 8 = .ok (.iload_n 0, 1) := by decide +kernel
theorem d_MO_pick_9 : decode b_MO_pick 9 = .ok (.iconst 1, 1) := by decide +kernel
theorem d_MO_pick_10 : decode b_MO_pick 10 = .ok (.if_icmp .ne 7, 3) := by decide +kernel
theorem d_MO_pick_13 : decode b_MO_pick 13 = .ok (.iload_n 2, 1) := by decide +kernel
theorem d_MO_pick_14 : decode b_MO_pick 14 = .ok (.goto 4, 3) := by decide +kernel
theorem d_MO_pick_17 : decode b_MO_pick 17 = .ok (.iload_n 3, 1) := by decide +kernel
theorem d_MO_pick_18 : decode b_MO_pick 18 = .ok (.ireturn, 1) := by decide +kernel
theorem d_MO_drop_0 : decode b_MO_drop 0 = .ok (.aload_n 0, 1) := by decide +kernel
theorem d_MO_drop_1 : decode b_MO_drop 1 = .ok (.iconst 0, 1) := by decide +kernel
theorem d_MO_drop_2 : decode b_MO_drop 2 = .ok (.putfield 49, 3) := by decide +kernel
theorem d_MO_drop_5 : decode b_MO_drop 5 = .ok (.aload_n 0, 1) := by decide +kernel
theorem d_MO_drop_6 : decode b_MO_drop 6 = .ok (.iload_n 1, 1) := by decide +kernel
theorem d_MO_drop_7 : decode b_MO_drop 7 = .ok (.invokevirtual 63, 3) := by decide +kernel
theorem d_MO_drop_10 : decode b_MO_drop 10 = .ok (.ifCond .eq 15, 3) := by decide +kernel
theorem d_MO_drop_13 : decode b_MO_drop 13 = .ok (.aload_n 0, 1) := by decide +kernel
theorem d_MO_drop_14 : decode b_MO_drop 14 = .ok (.iload_n 1, 1) := by decide +kernel
theorem d_MO_drop_15 : decode b_MO_drop 15 = .ok (.iload_n 2, 1) := by decide +kernel
theorem d_MO_drop_16 : decode b_MO_drop 16 = .ok (.iload_n 3, 1) := by decide +kernel
theorem d_MO_drop_17 : decode b_MO_drop 17 = .ok (.iload 4, 2) := by decide +kernel
theorem d_MO_drop_19 : decode b_MO_drop 19 = .ok (.invokevirtual 67, 3) := by decide +kernel
theorem d_MO_drop_22 : decode b_MO_drop 22 = .ok (.goto 4, 3) := by decide +kernel
theorem d_MO_drop_25 : decode b_MO_drop 25 = .ok (.iconst (-1), 1) := by decide +kernel
theorem d_MO_drop_26 : decode b_MO_drop 26 = .ok (.istore 5, 2) := by decide +kernel
theorem d_MO_drop_28 : decode b_MO_drop 28 = .ok (.iload 5, 2) := by decide +kernel
theorem d_MO_drop_30 : decode b_MO_drop 30 = .ok (.ifCond .ge 5, 3) := by decide +kernel
theorem d_MO_drop_33 : decode b_MO_drop 33 = .ok (.iconst 0, 1) := by decide +kernel
theorem d_MO_drop_34 : decode b_MO_drop 34 = .ok (.ireturn, 1) := by decide +kernel
theorem d_MO_drop_35 : decode b_MO_drop 35 = .ok (.aload_n 0, 1) := by decide +kernel
theorem d_MO_drop_36 : decode b_MO_drop 36 = .ok (.getfield 13, 3) := by decide +kernel
theorem d_MO_drop_39 : decode b_MO_drop 39 = .ok (.iload_n 1, 1) := by decide +kernel
theorem d_MO_drop_40 : decode b_MO_drop 40 = .ok (.aload_n 0, 1) := by decide +kernel
theorem d_MO_drop_41 : decode b_MO_drop 41 = .ok (.getfield 13, 3) := by decide +kernel
theorem d_MO_drop_44 : decode b_MO_drop 44 = .ok (.iload_n 1, 1) := by decide +kernel
theorem d_MO_drop_45 : decode b_MO_drop 45 = .ok (.iaload, 1) := by decide +kernel
theorem d_MO_drop_46 : decode b_MO_drop 46 = .ok (.iconst 1, 1) := by decide +kernel
theorem d_MO_drop_47 : decode b_MO_drop 47 = .ok (.isub, 1) := by decide +kernel
theorem d_MO_drop_48 : decode b_MO_drop 48 = .ok (.iastore, 1) := by decide +kernel
theorem d_MO_drop_49 : decode b_MO_drop 49 = .ok (.iconst 0, 1) := by decide +kernel
theorem d_MO_drop_50 : decode b_MO_drop 50 = .ok (.istore 6, 2) := by decide +kernel
theorem d_MO_drop_52 : decode b_MO_drop 52 = .ok (.iload 6, 2) := by decide +kernel
theorem d_MO_drop_54 : decode b_MO_drop 54 = .ok (.iconst 3, 1) := by decide +kernel
theorem d_MO_drop_55 : decode b_MO_drop 55 = .ok (.if_icmp .ge 47, 3) := by decide +kernel
theorem d_MO_drop_58 : decode b_MO_drop 58 = .ok (.aload_n 0, 1) := by decide +kernel
theorem d_MO_drop_59 : decode b_MO_drop 59 = .ok (.getfield 16, 3) := by decide +kernel
theorem d_MO_drop_62 : decode b_MO_drop 62 = .ok (.bipush 36, 2) := by decide +kernel
theorem d_MO_drop_64 : decode b_MO_drop 64 = .ok (.iload_n 1, 1) := by decide +kernel
theorem d_MO_drop_65 : decode b_MO_drop 65 = .ok (.imul, 1) := by decide +kernel
theorem d_MO_drop_66 : decode b_MO_drop 66 = .ok (.iconst 3, 1) := by decide +kernel
theorem d_MO_drop_67 : decode b_MO_drop 67 = .ok (.iload 5, 2) := by decide +kernel
theorem d_MO_drop_69 : decode b_MO_drop 69 = .ok (.imul, 1) := by decide +kernel
theorem d_MO_drop_70 : decode b_MO_drop 70 = .ok (.iadd, 1) := by decide +kernel
theorem d_MO_drop_71 : decode b_MO_drop 71 = .ok (.iload 6, 2) := by decide +kernel
theorem d_MO_drop_73 : decode b_MO_drop 73 = .ok (.iadd, 1) := by decide +kernel
theorem d_MO_drop_74 : decode b_MO_drop 74 = .ok (.aload_n 0, 1) := by decide +kernel
theorem d_MO_drop_75 : decode b_MO_drop 75 = .ok (.getfield 16, 3) := by decide +kernel
theorem d_MO_drop_78 : decode b_MO_drop 78 = .ok (.bipush 36, 2) := by decide +kernel
theorem d_MO_drop_80 : decode b_MO_drop 80 = .ok (.iload_n 1, 1) := by decide +kernel
theorem d_MO_drop_81 : decode b_MO_drop 81 = .ok (.imul, 1) := by decide +kernel
theorem d_MO_drop_82 : decode b_MO_drop 82 = .ok (.iconst 3, 1) := by decide +kernel
theorem d_MO_drop_83 : decode b_MO_drop 83 = .ok (.aload_n 0, 1) := by decide +kernel
theorem d_MO_drop_84 : decode b_MO_drop 84 = .ok (.getfield 13, 3) := by decide +kernel
theorem d_MO_drop_87 : decode b_MO_drop 87 = .ok (.iload_n 1, 1) := by decide +kernel
theorem d_MO_drop_88 : decode b_MO_drop 88 = .ok (.iaload, 1) := by decide +kernel
theorem d_MO_drop_89 : decode b_MO_drop 89 = .ok (.imul, 1) := by decide +kernel
theorem d_MO_drop_90 : decode b_MO_drop 90 = .ok (.iadd, 1) := by decide +kernel
theorem d_MO_drop_91 : decode b_MO_drop 91 = .ok (.iload 6, 2) := by decide +kernel
theorem d_MO_drop_93 : decode b_MO_drop 93 = .ok (.iadd, 1) := by decide +kernel
theorem d_MO_drop_94 : decode b_MO_drop 94 = .ok (.iaload, 1) := by decide +kernel
theorem d_MO_drop_95 : decode b_MO_drop 95 = .ok (.iastore, 1) := by decide +kernel
theorem d_MO_drop_96 : decode b_MO_drop 96 = .ok (.iinc 6 1, 3) := by decide +kernel
theorem d_MO_drop_99 : decode b_MO_drop 99 = .ok (.goto (-47), 3) := by decide +kernel
theorem d_MO_drop_102 : decode b_MO_drop 102 = .ok (.aload_n 0, 1) := by decide +kernel
theorem d_MO_drop_103 : decode b_MO_drop 103 = .ok (.iconst 0, 1) := by decide +kernel
theorem d_MO_drop_104 : decode b_MO_drop 104 = .ok (.putfield 70, 3) := by decide +kernel
theorem d_MO_drop_107 : decode b_MO_drop 107 = .ok (.iconst 1, 1) := by decide +kernel
theorem d_MO_drop_108 : decode b_MO_drop 108 = .ok (.ireturn, 1) := by decide +kernel
theorem d_MO_rows_0 : decode b_MO_rows 0 = .ok (.aload_n 0, 1) := by decide +kernel
theorem d_MO_rows_1 : decode b_MO_rows 1 = .ok (.iconst 0, 1) := by decide +kernel
theorem d_MO_rows_2 : decode b_MO_rows 2 = .ok (.putfield 49, 3) := by decide +kernel
theorem d_MO_rows_5 : decode b_MO_rows 5 = .ok (.aload_n 0, 1) := by decide +kernel
theorem d_MO_rows_6 : decode b_MO_rows 6 = .ok (.iload_n 1, 1) := by decide +kernel
theorem d_MO_rows_7 : decode b_MO_rows 7 = .ok (.invokevirtual 63, 3) := by decide +kernel
theorem d_MO_rows_10 : decode b_MO_rows 10 = .ok (.ifCond .eq 12, 3) := by decide +kernel
theorem d_MO_rows_13 : decode b_MO_rows 13 = .ok (.aload_n 0, 1) := by decide +kernel
theorem d_MO_rows_14 : decode b_MO_rows 14 = .ok (.getfield 13, 3) := by decide +kernel
theorem d_MO_rows_17 : decode b_MO_rows 17 = .ok (.iload_n 1, 1) := by decide +kernel
theorem d_MO_rows_18 : decode b_MO_rows 18 = .ok (.iaload, 1) := by decide +kernel
theorem d_MO_rows_19 : decode b_MO_rows 19 = .ok (.goto 4, 3) := by decide +kernel
theorem d_MO_rows_22 : decode b_MO_rows 22 = .ok (.iconst (-1), 1) := by decide +kernel
theorem d_MO_rows_23 : decode b_MO_rows 23 = .ok (.ireturn, 1) := by decide +kernel
theorem d_MO_atom_0 : decode b_MO_atom 0 = .ok (.aload_n 0, 1) := by decide +kernel
theorem d_MO_atom_1 : decode b_MO_atom 1 = .ok (.iconst 0, 1) := by decide +kernel
theorem d_MO_atom_2 : decode b_MO_atom 2 = .ok (.putfield 49, 3) := by decide +kernel
theorem d_MO_atom_5 : decode b_MO_atom 5 = .ok (.aload_n 0, 1) := by decide +kernel
theorem d_MO_atom_6 : decode b_MO_atom 6 = .ok (.iload_n 1, 1) := by decide +kernel
theorem d_MO_atom_7 : decode b_MO_atom 7 = .ok (.invokevirtual 63, 3) := by decide +kernel
theorem d_MO_atom_10 : decode b_MO_atom 10 = .ok (.ifCond .eq 12, 3) := by decide +kernel
theorem d_MO_atom_13 : decode b_MO_atom 13 = .ok (.aload_n 0, 1) := by decide +kernel
