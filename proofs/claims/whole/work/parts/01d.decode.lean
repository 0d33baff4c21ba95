/-! decode rows, by program -/
theorem d_JL_clear_15 : decode b_JL_clear 15 = .ok (.aload_n 0, 1) := by decide +kernel
theorem d_JL_clear_16 : decode b_JL_clear 16 = .ok (.getfield 30, 3) := by decide +kernel
theorem d_JL_clear_19 : decode b_JL_clear 19 = .ok (.invokevirtual 68, 3) := by decide +kernel
theorem d_JL_clear_22 : decode b_JL_clear 22 = .ok (.iload_n 1, 1) := by decide +kernel
theorem d_JL_clear_23 : decode b_JL_clear 23 = .ok (.ireturn, 1) := by decide +kernel
theorem d_QU_empty_0 : decode b_QU_empty 0 = .ok (.aload_n 0, 1) := by decide +kernel
theorem d_QU_empty_1 : decode b_QU_empty 1 = .ok (.iconst 0, 1) := by decide +kernel
theorem d_QU_empty_2 : decode b_QU_empty 2 = .ok (.putfield 24, 3) := by decide +kernel
theorem d_QU_empty_5 : decode b_QU_empty 5 = .ok (.aload_n 0, 1) := by decide +kernel
theorem d_QU_empty_6 : decode b_QU_empty 6 = .ok (.iconst 0, 1) := by decide +kernel
theorem d_QU_empty_7 : decode b_QU_empty 7 = .ok (.putfield 42, 3) := by decide +kernel
theorem d_QU_empty_10 : decode b_QU_empty 10 = .ok (.aload_n 0, 1) := by decide +kernel
theorem d_QU_empty_11 : decode b_QU_empty 11 = .ok (.iconst 0, 1) := by decide +kernel
theorem d_QU_empty_12 : decode b_QU_empty 12 = .ok (.putfield 36, 3) := by decide +kernel
theorem d_QU_empty_15 : decode b_QU_empty 15 = .ok (.return_, 1) := by decide +kernel
theorem d_JL_tree_0 : decode b_JL_tree 0 = .ok (.aload_n 0, 1) := by decide +kernel
theorem d_JL_tree_1 : decode b_JL_tree 1 = .ok (.getfield 30, 3) := by decide +kernel
theorem d_JL_tree_4 : decode b_JL_tree 4 = .ok (.invokevirtual 84, 3) := by decide +kernel
theorem d_JL_tree_7 : decode b_JL_tree 7 = .ok (.ireturn, 1) := by decide +kernel
theorem d_HA_isTree_0 : decode b_HA_isTree 0 = .ok (.aload_n 0, 1) := by decide +kernel
theorem d_HA_isTree_1 : decode b_HA_isTree 1 = .ok (.getfield 21, 3) := by decide +kernel
theorem d_HA_isTree_4 : decode b_HA_isTree 4 = .ok (.getfield 25, 3) := by decide +kernel
theorem d_HA_isTree_7 : decode b_HA_isTree 7 = .ok (.aload_n 0, 1) := by decide +kernel
theorem d_HA_isTree_8 : decode b_HA_isTree 8 = .ok (.getfield 31, 3) := by decide +kernel
theorem d_HA_isTree_11 : decode b_HA_isTree 11 = .ok (.isub, 1) := by decide +kernel
theorem d_HA_isTree_12 : decode b_HA_isTree 12 = .ok (.iconst 1, 1) := by decide +kernel
theorem d_HA_isTree_13 : decode b_HA_isTree 13 = .ok (.if_icmp .gt 7, 3) := by decide +kernel
theorem d_HA_isTree_16 : decode b_HA_isTree 16 = .ok (.iconst 1, 1) := by decide +kernel
theorem d_HA_isTree_17 : decode b_HA_isTree 17 = .ok (.goto 4, 3) := by decide +kernel
theorem d_HA_isTree_20 : decode b_HA_isTree 20 = .ok (.iconst 0, 1) := by decide +kernel
theorem d_HA_isTree_21 : decode b_HA_isTree 21 = .ok (.ireturn, 1) := by decide +kernel
theorem d_JL_parent_0 : decode b_JL_parent 0 = .ok (.iload_n 1, 1) := by decide +kernel
theorem d_JL_parent_1 : decode b_JL_parent 1 = .ok (.aload_n 0, 1) := by decide +kernel
theorem d_JL_parent_2 : decode b_JL_parent 2 = .ok (.getfield 21, 3) := by decide +kernel
theorem d_JL_parent_5 : decode b_JL_parent 5 = .ok (.getfield 71, 3) := by decide +kernel
theorem d_JL_parent_8 : decode b_JL_parent 8 = .ok (.invokestatic 50, 3) := by decide +kernel
theorem d_JL_parent_11 : decode b_JL_parent 11 = .ok (.ifCond .eq 15, 3) := by decide +kernel
theorem d_JL_parent_14 : decode b_JL_parent 14 = .ok (.aload_n 0, 1) := by decide +kernel
theorem d_JL_parent_15 : decode b_JL_parent 15 = .ok (.getfield 30, 3) := by decide +kernel
theorem d_JL_parent_18 : decode b_JL_parent 18 = .ok (.getfield 88, 3) := by decide +kernel
theorem d_JL_parent_21 : decode b_JL_parent 21 = .ok (.iload_n 1, 1) := by decide +kernel
theorem d_JL_parent_22 : decode b_JL_parent 22 = .ok (.iaload, 1) := by decide +kernel
theorem d_JL_parent_23 : decode b_JL_parent 23 = .ok (.goto 4, 3) := by decide +kernel
theorem d_JL_parent_26 : decode b_JL_parent 26 = .ok (.iconst (-1), 1) := by decide +kernel
theorem d_JL_parent_27 : decode b_JL_parent 27 = .ok (.ireturn, 1) := by decide +kernel
theorem d_JL_turn_0 : decode b_JL_turn 0 = .ok (.iload_n 1, 1) := by decide +kernel
theorem d_JL_turn_1 : decode b_JL_turn 1 = .ok (.aload_n 0, 1) := by decide +kernel
theorem d_JL_turn_2 : decode b_JL_turn 2 = .ok (.getfield 21, 3) := by decide +kernel
theorem d_JL_turn_5 : decode b_JL_turn 5 = .ok (.getfield 71, 3) := by decide +kernel
theorem d_JL_turn_8 : decode b_JL_turn 8 = .ok (.invokestatic 50, 3) := by decide +kernel
theorem d_JL_turn_11 : decode b_JL_turn 11 = .ok (.ifCond .eq 15, 3) := by decide +kernel
theorem d_JL_turn_14 : decode b_JL_turn 14 = .ok (.aload_n 0, 1) := by decide +kernel
theorem d_JL_turn_15 : decode b_JL_turn 15 = .ok (.getfield 30, 3) := by decide +kernel
theorem d_JL_turn_18 : decode b_JL_turn 18 = .ok (.getfield 92, 3) := by decide +kernel
theorem d_JL_turn_21 : decode b_JL_turn 21 = .ok (.iload_n 1, 1) := by decide +kernel
theorem d_JL_turn_22 : decode b_JL_turn 22 = .ok (.iaload, 1) := by decide +kernel
theorem d_JL_turn_23 : decode b_JL_turn 23 = .ok (.goto 4, 3) := by decide +kernel
theorem d_JL_turn_26 : decode b_JL_turn 26 = .ok (.iconst (-1), 1) := by decide +kernel
theorem d_JL_turn_27 : decode b_JL_turn 27 = .ok (.ireturn, 1) := by decide +kernel
theorem d_LA_ways_0 : decode b_LA_ways 0 = .ok (.aload_n 1, 1) := by decide +kernel
theorem d_LA_ways_1 : decode b_LA_ways 1 = .ok (.iconst 0, 1) := by decide +kernel
theorem d_LA_ways_2 : decode b_LA_ways 2 = .ok (.aload_n 0, 1) := by decide +kernel
theorem d_LA_ways_3 : decode b_LA_ways 3 = .ok (.invokevirtual 7, 3) := by decide +kernel
theorem d_LA_ways_6 : decode b_LA_ways 6 = .ok (.lastore, 1) := by decide +kernel
theorem d_LA_ways_7 : decode b_LA_ways 7 = .ok (.goto 6, 3) := by decide +kernel
theorem d_LA_ways_10 : decode b_LA_ways 10 = .ok (.astore_n 2, 1) := by decide +kernel
theorem d_LA_ways_11 : decode b_LA_ways 11 = .ok (.iconst 1, 1) := by decide +kernel
theorem d_LA_ways_12 : decode b_LA_ways 12 = .ok (.ireturn, 1) := by decide +kernel
theorem d_LA_ways_13 : decode b_LA_ways 13 = .ok (.iconst 0, 1) := by decide +kernel
theorem d_LA_ways_14 : decode b_LA_ways 14 = .ok (.ireturn, 1) := by decide +kernel
theorem d_JL_ways_0 : decode b_JL_ways 0 = .ok (.aload_n 0, 1) := by decide +kernel
theorem d_JL_ways_1 : decode b_JL_ways 1 = .ok (.invokevirtual 95, 3) := by decide +kernel
theorem d_JL_ways_4 : decode b_JL_ways 4 = .ok (.aload_n 0, 1) := by decide +kernel
theorem d_JL_ways_5 : decode b_JL_ways 5 = .ok (.getfield 39, 3) := by decide +kernel
theorem d_JL_ways_8 : decode b_JL_ways 8 = .ok (.invokevirtual 98, 3) := by decide +kernel
theorem d_JL_ways_11 : decode b_JL_ways 11 = .ok (.lreturn, 1) := by decide +kernel
theorem d_JL_requireTree_0 : decode b_JL_requireTree 0 = .ok (.aload_n 0, 1) := by decide +kernel
theorem d_JL_requireTree_1 : decode b_JL_requireTree 1 = .ok (.getfield 30, 3) := by decide +kernel
theorem d_JL_requireTree_4 : decode b_JL_requireTree 4 = .ok (.invokevirtual 84, 3) := by decide +kernel
theorem d_JL_requireTree_7 : decode b_JL_requireTree 7 = .ok (.ifCond .ne 13, 3) := by decide +kernel
theorem d_JL_requireTree_10 : decode b_JL_requireTree 10 = .ok (.new 141, 3) := by decide +kernel
theorem d_JL_requireTree_13 : decode b_JL_requireTree 13 = .ok (.dup, 1) := by decide +kernel
theorem d_JL_requireTree_14 : decode b_JL_requireTree 14 = .ok (.ldc 143, 2) := by decide +kernel
theorem d_JL_requireTree_16 : decode b_JL_requireTree 16 = .ok (.invokespecial 145, 3) := by decide +kernel
theorem d_JL_requireTree_19 : decode b_JL_requireTree 19 = .ok (.athrow, 1) := by decide +kernel
theorem d_JL_requireTree_20 : decode b_JL_requireTree 20 = .ok (.return_, 1) := by decide +kernel
theorem d_JO_countWays_0 : decode b_JO_countWays 0 = .ok (.aload_n 0, 1) := by decide +kernel
theorem d_JO_countWays_1 : decode b_JO_countWays 1 = .ok (.getfield 32, 3) := by decide +kernel
theorem d_JO_countWays_4 : decode b_JO_countWays 4 = .ok (.invokevirtual 49, 3) := by decide +kernel
theorem d_JO_countWays_7 : decode b_JO_countWays 7 = .ok (.istore_n 1, 1) := by decide +kernel
theorem d_JO_countWays_8 : decode b_JO_countWays 8 = .ok (.iload_n 1, 1) := by decide +kernel
theorem d_JO_countWays_9 : decode b_JO_countWays 9 = .ok (.iconst (-1), 1) := by decide +kernel
theorem d_JO_countWays_10 : decode b_JO_countWays 10 = .ok (.if_icmp .ne 5, 3) := by decide +kernel
theorem d_JO_countWays_13 : decode b_JO_countWays 13 = .ok (.lconst 1, 1) := by decide +kernel
theorem d_JO_countWays_14 : decode b_JO_countWays 14 = .ok (.lreturn, 1) := by decide +kernel
theorem d_JO_countWays_15 : decode b_JO_countWays 15 = .ok (.aload_n 0, 1) := by decide +kernel
theorem d_JO_countWays_16 : decode b_JO_countWays 16 = .ok (.invokevirtual 36, 3) := by decide +kernel
theorem d_JO_countWays_19 : decode b_JO_countWays 19 = .ok (.aload_n 0, 1) := by decide +kernel
theorem d_JO_countWays_20 : decode b_JO_countWays 20 = .ok (.invokevirtual 55, 3) := by decide +kernel
theorem d_JO_countWays_23 : decode b_JO_countWays 23 = .ok (.iconst 0, 1) := by decide +kernel
theorem d_JO_countWays_24 : decode b_JO_countWays 24 = .ok (.istore_n 2, 1) := by decide +kernel
theorem d_JO_countWays_25 : decode b_JO_countWays 25 = .ok (.iload_n 2, 1) := by decide +kernel
theorem d_JO_countWays_26 : decode b_JO_countWays 26 = .ok (.aload_n 0, 1) := by decide +kernel
theorem d_JO_countWays_27 : decode b_JO_countWays 27 = .ok (.getfield 32, 3) := by decide +kernel
theorem d_JO_countWays_30 : decode b_JO_countWays 30 = .ok (.getfield 58, 3) := by decide +kernel
theorem d_JO_countWays_33 : decode b_JO_countWays 33 = .ok (.if_icmp .ge 22, 3) := by decide +kernel
theorem d_JO_countWays_36 : decode b_JO_countWays 36 = .ok (.aload_n 0, 1) := by decide +kernel
theorem d_JO_countWays_37 : decode b_JO_countWays 37 = .ok (.aload_n 0, 1) := by decide +kernel
theorem d_JO_countWays_38 : decode b_JO_countWays 38 = .ok (.getfield 32, 3) := by decide +kernel
theorem d_JO_countWays_41 : decode b_JO_countWays 41 = .ok (.getfield 62, 3) := by decide +kernel
theorem d_JO_countWays_44 : decode b_JO_countWays 44 = .ok (.iload_n 2, 1) := by decide +kernel
theorem d_JO_countWays_45 : decode b_JO_countWays 45 = .ok (.iaload, 1) := by decide +kernel
theorem d_JO_countWays_46 : decode b_JO_countWays 46 = .ok (.invokevirtual 65, 3) := by decide +kernel
theorem d_JO_countWays_49 : decode b_JO_countWays 49 = .ok (.iinc 2 1, 3) := by decide +kernel
theorem d_JO_countWays_52 : decode b_JO_countWays 52 = .ok (.goto (-27), 3) := by decide +kernel
theorem d_JO_countWays_55 : decode b_JO_countWays 55 = .ok (.aload_n 0, 1) := by decide +kernel
theorem d_JO_countWays_56 : decode b_JO_countWays 56 = .ok (.iload_n 1, 1) := by decide +kernel
theorem d_JO_countWays_57 : decode b_JO_countWays 57 = .ok (.aload_n 0, 1) := by decide +kernel
theorem d_JO_countWays_58 : decode b_JO_countWays 58 = .ok (.getfield 16, 3) := by decide +kernel
theorem d_JO_countWays_61 : decode b_JO_countWays 61 = .ok (.iconst 0, 1) := by decide +kernel
theorem d_JO_countWays_62 : decode b_JO_countWays 62 = .ok (.aaload, 1) := by decide +kernel
theorem d_JO_countWays_63 : decode b_JO_countWays 63 = .ok (.iload_n 1, 1) := by decide +kernel
theorem d_JO_countWays_64 : decode b_JO_countWays 64 = .ok (.iaload, 1) := by decide +kernel
theorem d_JO_countWays_65 : decode b_JO_countWays 65 = .ok (.invokevirtual 69, 3) := by decide +kernel
theorem d_JO_countWays_68 : decode b_JO_countWays 68 = .ok (.lreturn, 1) := by decide +kernel
theorem d_HA_root_0 : decode b_HA_root 0 = .ok (.iconst 0, 1) := by decide +kernel
theorem d_HA_root_1 : decode b_HA_root 1 = .ok (.istore_n 1, 1) := by decide +kernel
theorem d_HA_root_2 : decode b_HA_root 2 = .ok (.iload_n 1, 1) := by decide +kernel
theorem d_HA_root_3 : decode b_HA_root 3 = .ok (.aload_n 0, 1) := by decide +kernel
theorem d_HA_root_4 : decode b_HA_root 4 = .ok (.getfield 21, 3) := by decide +kernel
theorem d_HA_root_7 : decode b_HA_root 7 = .ok (.getfield 25, 3) := by decide +kernel
theorem d_HA_root_10 : decode b_HA_root 10 = .ok (.if_icmp .ge 22, 3) := by decide +kernel
theorem d_HA_root_13 : decode b_HA_root 13 = .ok (.iload_n 1, 1) := by decide +kernel
theorem d_HA_root_14 : decode b_HA_root 14 = .ok (.aload_n 0, 1) := by decide +kernel
theorem d_HA_root_15 : decode b_HA_root 15 = .ok (.getfield 34, 3) := by decide +kernel
theorem d_HA_root_18 : decode b_HA_root 18 = .ok (.invokestatic 37, 3) := by decide +kernel
theorem d_HA_root_21 : decode b_HA_root 21 = .ok (.ifCond .eq 5, 3) := by decide +kernel
theorem d_HA_root_24 : decode b_HA_root 24 = .ok (.iload_n 1, 1) := by decide +kernel
theorem d_HA_root_25 : decode b_HA_root 25 = .ok (.ireturn, 1) := by decide +kernel
theorem d_HA_root_26 : decode b_HA_root 26 = .ok (.iinc 1 1, 3) := by decide +kernel
theorem d_HA_root_29 : decode b_HA_root 29 = .ok (.goto (-27), 3) := by decide +kernel
theorem d_HA_root_32 : decode b_HA_root 32 = .ok (.iconst (-1), 1) := by decide +kernel
theorem d_HA_root_33 : decode b_HA_root 33 = .ok (.ireturn, 1) := by decide +kernel
theorem d_JO_compareRows_0 : decode b_JO_compareRows 0 = .ok (.iconst 0, 1) := by decide +kernel
theorem d_JO_compareRows_1 : decode b_JO_compareRows 1 = .ok (.istore_n 1, 1) := by decide +kernel
theorem d_JO_compareRows_2 : decode b_JO_compareRows 2 = .ok (.iload_n 1, 1) := by decide +kernel
theorem d_JO_compareRows_3 : decode b_JO_compareRows 3 = .ok (.aload_n 0, 1) := by decide +kernel
theorem d_JO_compareRows_4 : decode b_JO_compareRows 4 = .ok (.getfield 28, 3) := by decide +kernel
theorem d_JO_compareRows_7 : decode b_JO_compareRows 7 = .ok (.getfield 89, 3) := by decide +kernel
theorem d_JO_compareRows_10 : decode b_JO_compareRows 10 = .ok (.if_icmp .ge 29, 3) := by decide +kernel
theorem d_JO_compareRows_13 : decode b_JO_compareRows 13 = .ok (.aload_n 0, 1) := by decide +kernel
theorem d_JO_compareRows_14 : decode b_JO_compareRows 14 = .ok (.getfield 16, 3) := by decide +kernel
theorem d_JO_compareRows_17 : decode b_JO_compareRows 17 = .ok (.iconst 0, 1) := by decide +kernel
theorem d_JO_compareRows_18 : decode b_JO_compareRows 18 = .ok (.aaload, 1) := by decide +kernel
theorem d_JO_compareRows_19 : decode b_JO_compareRows 19 = .ok (.iload_n 1, 1) := by decide +kernel
theorem d_JO_compareRows_20 : decode b_JO_compareRows 20 = .ok (.aload_n 0, 1) := by decide +kernel
theorem d_JO_compareRows_21 : decode b_JO_compareRows 21 = .ok (.getfield 28, 3) := by decide +kernel
theorem d_JO_compareRows_24 : decode b_JO_compareRows 24 = .ok (.getfield 92, 3) := by decide +kernel
theorem d_JO_compareRows_27 : decode b_JO_compareRows 27 = .ok (.iload_n 1, 1) := by decide +kernel
theorem d_JO_compareRows_28 : decode b_JO_compareRows 28 = .ok (.aaload, 1) := by decide +kernel
theorem d_JO_compareRows_29 : decode b_JO_compareRows 29 = .ok (.invokevirtual 96, 3) := by decide +kernel
theorem d_JO_compareRows_32 : decode b_JO_compareRows 32 = .ok (.iastore, 1) := by decide +kernel
theorem d_JO_compareRows_33 : decode b_JO_compareRows 33 = .ok (.iinc 1 1, 3) := by decide +kernel
theorem d_JO_compareRows_36 : decode b_JO_compareRows 36 = .ok (.goto (-34), 3) := by decide +kernel
theorem d_JO_compareRows_39 : decode b_JO_compareRows 39 = .ok (.iconst 0, 1) := by decide +kernel
theorem d_JO_compareRows_40 : decode b_JO_compareRows 40 = .ok (.istore_n 1, 1) := by decide +kernel
theorem d_JO_compareRows_41 : decode b_JO_compareRows 41 = .ok (.iload_n 1, 1) := by decide +kernel
theorem d_JO_compareRows_42 : decode b_JO_compareRows 42 = .ok (.aload_n 0, 1) := by decide +kernel
theorem d_JO_compareRows_43 : decode b_JO_compareRows 43 = .ok (.getfield 32, 3) := by decide +kernel
theorem d_JO_compareRows_46 : decode b_JO_compareRows 46 = .ok (.getfield 58, 3) := by decide +kernel
theorem d_JO_compareRows_49 : decode b_JO_compareRows 49 = .ok (.if_icmp .ge 82, 3) := by decide +kernel
theorem d_JO_compareRows_52 : decode b_JO_compareRows 52 = .ok (.aload_n 0, 1) := by decide +kernel
theorem d_JO_compareRows_53 : decode b_JO_compareRows 53 = .ok (.getfield 32, 3) := by decide +kernel
theorem d_JO_compareRows_56 : decode b_JO_compareRows 56 = .ok (.getfield 62, 3) := by decide +kernel
theorem d_JO_compareRows_59 : decode b_JO_compareRows 59 = .ok (.iload_n 1, 1) := by decide +kernel
theorem d_JO_compareRows_60 : decode b_JO_compareRows 60 = .ok (.iaload, 1) := by decide +kernel
theorem d_JO_compareRows_61 : decode b_JO_compareRows 61 = .ok (.istore_n 2, 1) := by decide +kernel
theorem d_JO_compareRows_62 : decode b_JO_compareRows 62 = .ok (.aload_n 0, 1) := by decide +kernel
theorem d_JO_compareRows_63 : decode b_JO_compareRows 63 = .ok (.getfield 28, 3) := by decide +kernel
theorem d_JO_compareRows_66 : decode b_JO_compareRows 66 = .ok (.getfield 92, 3) := by decide +kernel
theorem d_JO_compareRows_69 : decode b_JO_compareRows 69 = .ok (.aload_n 0, 1) := by decide +kernel
theorem d_JO_compareRows_70 : decode b_JO_compareRows 70 = .ok (.getfield 32, 3) := by decide +kernel
theorem d_JO_compareRows_73 : decode b_JO_compareRows 73 = .ok (.getfield 101, 3) := by decide +kernel
theorem d_JO_compareRows_76 : decode b_JO_compareRows 76 = .ok (.iload_n 2, 1) := by decide +kernel
theorem d_JO_compareRows_77 : decode b_JO_compareRows 77 = .ok (.iaload, 1) := by decide +kernel
theorem d_JO_compareRows_78 : decode b_JO_compareRows 78 = .ok (.aaload, 1) := by decide +kernel
theorem d_JO_compareRows_79 : decode b_JO_compareRows 79 = .ok (.astore_n 3, 1) := by decide +kernel
theorem d_JO_compareRows_80 : decode b_JO_compareRows 80 = .ok (.iconst 0, 1) := by decide +kernel
theorem d_JO_compareRows_81 : decode b_JO_compareRows 81 = .ok (.istore 4, 2) := by decide +kernel
theorem d_JO_compareRows_83 : decode b_JO_compareRows 83 = .ok (.iload 4, 2) := by decide +kernel
theorem d_JO_compareRows_85 : decode b_JO_compareRows 85 = .ok (.aload_n 3, 1) := by decide +kernel
theorem d_JO_compareRows_86 : decode b_JO_compareRows 86 = .ok (.getfield 104, 3) := by decide +kernel
theorem d_JO_compareRows_89 : decode b_JO_compareRows 89 = .ok (.getfield 108, 3) := by decide +kernel
theorem d_JO_compareRows_92 : decode b_JO_compareRows 92 = .ok (.if_icmp .ge 33, 3) := by decide +kernel
theorem d_JO_compareRows_95 : decode b_JO_compareRows 95 = .ok (.aload_n 0, 1) := by decide +kernel
theorem d_JO_compareRows_96 : decode b_JO_compareRows 96 = .ok (.getfield 11, 3) := by decide +kernel
theorem d_JO_compareRows_99 : decode b_JO_compareRows 99 = .ok (.iload_n 2, 1) := by decide +kernel
theorem d_JO_compareRows_100 : decode b_JO_compareRows 100 = .ok (.aaload, 1) := by decide +kernel
theorem d_JO_compareRows_101 : decode b_JO_compareRows 101 = .ok (.iload 4, 2) := by decide +kernel
theorem d_JO_compareRows_103 : decode b_JO_compareRows 103 = .ok (.aload_n 0, 1) := by decide +kernel
theorem d_JO_compareRows_104 : decode b_JO_compareRows 104 = .ok (.getfield 28, 3) := by decide +kernel
theorem d_JO_compareRows_107 : decode b_JO_compareRows 107 = .ok (.getfield 92, 3) := by decide +kernel
theorem d_JO_compareRows_110 : decode b_JO_compareRows 110 = .ok (.iload_n 2, 1) := by decide +kernel
theorem d_JO_compareRows_111 : decode b_JO_compareRows 111 = .ok (.aaload, 1) := by decide +kernel
theorem d_JO_compareRows_112 : decode b_JO_compareRows 112 = .ok (.aload_n 3, 1) := by decide +kernel
theorem d_JO_compareRows_113 : decode b_JO_compareRows 113 = .ok (.iload 4, 2) := by decide +kernel
theorem d_JO_compareRows_115 : decode b_JO_compareRows 115 = .ok (.invokevirtual 113, 3) := by decide +kernel
theorem d_JO_compareRows_118 : decode b_JO_compareRows 118 = .ok (.iastore, 1) := by decide +kernel
theorem d_JO_compareRows_119 : decode b_JO_compareRows 119 = .ok (.iinc 4 1, 3) := by decide +kernel
theorem d_JO_compareRows_122 : decode b_JO_compareRows 122 = .ok (.goto (-39), 3) := by decide +kernel
theorem d_JO_compareRows_125 : decode b_JO_compareRows 125 = .ok (.iinc 1 1, 3) := by decide +kernel
theorem d_JO_compareRows_128 : decode b_JO_compareRows 128 = .ok (.goto (-87), 3) := by decide +kernel
theorem d_JO_compareRows_131 : decode b_JO_compareRows 131 = .ok (.return_, 1) := by decide +kernel
theorem d_AT_rowsAgreeingWithThemselves_0 : decode b_AT_rowsAgreeingWithThemselves 0 = .ok (.iconst 0, 1) := by decide +kernel
theorem d_AT_rowsAgreeingWithThemselves_1 : decode b_AT_rowsAgreeingWithThemselves 1 = .ok (.istore_n 1, 1) := by decide +kernel
theorem d_AT_rowsAgreeingWithThemselves_2 : decode b_AT_rowsAgreeingWithThemselves 2 = .ok (.iconst 0, 1) := by decide +kernel
theorem d_AT_rowsAgreeingWithThemselves_3 : decode b_AT_rowsAgreeingWithThemselves 3 = .ok (.istore_n 2, 1) := by decide +kernel
theorem d_AT_rowsAgreeingWithThemselves_4 : decode b_AT_rowsAgreeingWithThemselves 4 = .ok (.iload_n 2, 1) := by decide +kernel
theorem d_AT_rowsAgreeingWithThemselves_5 : decode b_AT_rowsAgreeingWithThemselves 5 = .ok (.aload_n 0, 1) := by decide +kernel
theorem d_AT_rowsAgreeingWithThemselves_6 : decode b_AT_rowsAgreeingWithThemselves 6 = .ok (.getfield 15, 3) := by decide +kernel
theorem d_AT_rowsAgreeingWithThemselves_9 : decode b_AT_rowsAgreeingWithThemselves 9 = .ok (.getfield 32, 3) := by decide +kernel
theorem d_AT_rowsAgreeingWithThemselves_12 : decode b_AT_rowsAgreeingWithThemselves 12 = .ok (.if_icmp .ge 23, 3) := by decide +kernel
theorem d_AT_rowsAgreeingWithThemselves_15 : decode b_AT_rowsAgreeingWithThemselves 15 = .ok (.aload_n 0, 1) := by decide +kernel
theorem d_AT_rowsAgreeingWithThemselves_16 : decode b_AT_rowsAgreeingWithThemselves 16 = .ok (.iload_n 2, 1) := by decide +kernel
theorem d_AT_rowsAgreeingWithThemselves_17 : decode b_AT_rowsAgreeingWithThemselves 17 = .ok (.invokevirtual 35, 3) := by decide +kernel
theorem d_AT_rowsAgreeingWithThemselves_20 : decode b_AT_rowsAgreeingWithThemselves 20 = .ok (.ifCond .eq 9, 3) := by decide +kernel
theorem d_AT_rowsAgreeingWithThemselves_23 : decode b_AT_rowsAgreeingWithThemselves 23 = .ok (.iload_n 1, 1) := by decide +kernel
theorem d_AT_rowsAgreeingWithThemselves_24 : decode b_AT_rowsAgreeingWithThemselves 24 = .ok (.iconst 1, 1) := by decide +kernel
theorem d_AT_rowsAgreeingWithThemselves_25 : decode b_AT_rowsAgreeingWithThemselves 25 = .ok (.iload_n 2, 1) := by decide +kernel
theorem d_AT_rowsAgreeingWithThemselves_26 : decode b_AT_rowsAgreeingWithThemselves 26 = .ok (.ishl, 1) := by decide +kernel
theorem d_AT_rowsAgreeingWithThemselves_27 : decode b_AT_rowsAgreeingWithThemselves 27 = .ok (.ior, 1) := by decide +kernel
theorem d_AT_rowsAgreeingWithThemselves_28 : decode b_AT_rowsAgreeingWithThemselves 28 = .ok (.istore_n 1, 1) := by decide +kernel
theorem d_AT_rowsAgreeingWithThemselves_29 : decode b_AT_rowsAgreeingWithThemselves 29 = .ok (.iinc 2 1, 3) := by decide +kernel
theorem d_AT_rowsAgreeingWithThemselves_32 : decode b_AT_rowsAgreeingWithThemselves 32 = .ok (.goto (-28), 3) := by decide +kernel
theorem d_AT_rowsAgreeingWithThemselves_35 : decode b_AT_rowsAgreeingWithThemselves 35 = .ok (.iload_n 1, 1) := by decide +kernel
theorem d_AT_rowsAgreeingWithThemselves_36 : decode b_AT_rowsAgreeingWithThemselves 36 = .ok (.ireturn, 1) := by decide +kernel
theorem d_AT_agreesWithItself_0 : decode b_AT_agreesWithItself 0 = .ok (.iconst 1, 1) := by decide +kernel
theorem d_AT_agreesWithItself_1 : decode b_AT_agreesWithItself 1 = .ok (.istore_n 2, 1) := by decide +kernel
theorem d_AT_agreesWithItself_2 : decode b_AT_agreesWithItself 2 = .ok (.iload_n 2, 1) := by decide +kernel
theorem d_AT_agreesWithItself_3 : decode b_AT_agreesWithItself 3 = .ok (.iconst 3, 1) := by decide +kernel
theorem d_AT_agreesWithItself_4 : decode b_AT_agreesWithItself 4 = .ok (.if_icmp .ge 60, 3) := by decide +kernel
theorem d_AT_agreesWithItself_7 : decode b_AT_agreesWithItself 7 = .ok (.iconst 0, 1) := by decide +kernel
theorem d_AT_agreesWithItself_8 : decode b_AT_agreesWithItself 8 = .ok (.istore_n 3, 1) := by decide +kernel
theorem d_AT_agreesWithItself_9 : decode b_AT_agreesWithItself 9 = .ok (.iload_n 3, 1) := by decide +kernel
theorem d_AT_agreesWithItself_10 : decode b_AT_agreesWithItself 10 = .ok (.iload_n 2, 1) := by decide +kernel
theorem d_AT_agreesWithItself_11 : decode b_AT_agreesWithItself 11 = .ok (.if_icmp .ge 47, 3) := by decide +kernel
theorem d_AT_agreesWithItself_14 : decode b_AT_agreesWithItself 14 = .ok (.aload_n 0, 1) := by decide +kernel
theorem d_AT_agreesWithItself_15 : decode b_AT_agreesWithItself 15 = .ok (.getfield 9, 3) := by decide +kernel
theorem d_AT_agreesWithItself_18 : decode b_AT_agreesWithItself 18 = .ok (.iload_n 2, 1) := by decide +kernel
theorem d_AT_agreesWithItself_19 : decode b_AT_agreesWithItself 19 = .ok (.iaload, 1) := by decide +kernel
theorem d_AT_agreesWithItself_20 : decode b_AT_agreesWithItself 20 = .ok (.aload_n 0, 1) := by decide +kernel
theorem d_AT_agreesWithItself_21 : decode b_AT_agreesWithItself 21 = .ok (.getfield 9, 3) := by decide +kernel
theorem d_AT_agreesWithItself_24 : decode b_AT_agreesWithItself 24 = .ok (.iload_n 3, 1) := by decide +kernel
theorem d_AT_agreesWithItself_25 : decode b_AT_agreesWithItself 25 = .ok (.iaload, 1) := by decide +kernel
theorem d_AT_agreesWithItself_26 : decode b_AT_agreesWithItself 26 = .ok (.if_icmp .ne 26, 3) := by decide +kernel
theorem d_AT_agreesWithItself_29 : decode b_AT_agreesWithItself 29 = .ok (.aload_n 0, 1) := by decide +kernel
theorem d_AT_agreesWithItself_30 : decode b_AT_agreesWithItself 30 = .ok (.getfield 15, 3) := by decide +kernel
theorem d_AT_agreesWithItself_33 : decode b_AT_agreesWithItself 33 = .ok (.iload_n 1, 1) := by decide +kernel
theorem d_AT_agreesWithItself_34 : decode b_AT_agreesWithItself 34 = .ok (.iload_n 2, 1) := by decide +kernel
theorem d_AT_agreesWithItself_35 : decode b_AT_agreesWithItself 35 = .ok (.invokevirtual 39, 3) := by decide +kernel
theorem d_AT_agreesWithItself_38 : decode b_AT_agreesWithItself 38 = .ok (.aload_n 0, 1) := by decide +kernel
theorem d_AT_agreesWithItself_39 : decode b_AT_agreesWithItself 39 = .ok (.getfield 15, 3) := by decide +kernel
theorem d_AT_agreesWithItself_42 : decode b_AT_agreesWithItself 42 = .ok (.iload_n 1, 1) := by decide +kernel
theorem d_AT_agreesWithItself_43 : decode b_AT_agreesWithItself 43 = .ok (.iload_n 3, 1) := by decide +kernel
theorem d_AT_agreesWithItself_44 : decode b_AT_agreesWithItself 44 = .ok (.invokevirtual 39, 3) := by decide +kernel
theorem d_AT_agreesWithItself_47 : decode b_AT_agreesWithItself 47 = .ok (.if_icmp .eq 5, 3) := by decide +kernel
theorem d_AT_agreesWithItself_50 : decode b_AT_agreesWithItself 50 = .ok (.iconst 0, 1) := by decide +kernel
theorem d_AT_agreesWithItself_51 : decode b_AT_agreesWithItself 51 = .ok (.ireturn, 1) := by decide +kernel
theorem d_AT_agreesWithItself_52 : decode b_AT_agreesWithItself 52 = .ok (.iinc 3 1, 3) := by decide +kernel
theorem d_AT_agreesWithItself_55 : decode b_AT_agreesWithItself 55 = .ok (.goto (-46), 3) := by decide +kernel
theorem d_AT_agreesWithItself_58 : decode b_AT_agreesWithItself 58 = .ok (.iinc 2 1, 3) := by decide +kernel
theorem d_AT_agreesWithItself_61 : decode b_AT_agreesWithItself 61 = .ok (.goto (-59), 3) := by decide +kernel
theorem d_AT_agreesWithItself_64 : decode b_AT_agreesWithItself 64 = .ok (.iconst 1, 1) := by decide +kernel
theorem d_AT_agreesWithItself_65 : decode b_AT_agreesWithItself 65 = .ok (.ireturn, 1) := by decide +kernel
theorem d_RE_valueAt_0 : decode b_RE_valueAt 0 = .ok (.aload_n 0, 1) := by decide +kernel
theorem d_RE_valueAt_1 : decode b_RE_valueAt 1 = .ok (.getfield 9, 3) := by decide +kernel
theorem d_RE_valueAt_4 : decode b_RE_valueAt 4 = .ok (.iload_n 1, 1) := by decide +kernel
theorem d_RE_valueAt_5 : decode b_RE_valueAt 5 = .ok (.iaload, 1) := by decide +kernel
theorem d_RE_valueAt_6 : decode b_RE_valueAt 6 = .ok (.iconst 4, 1) := by decide +kernel
theorem d_RE_valueAt_7 : decode b_RE_valueAt 7 = .ok (.iload_n 2, 1) := by decide +kernel
theorem d_RE_valueAt_8 : decode b_RE_valueAt 8 = .ok (.imul, 1) := by decide +kernel
theorem d_RE_valueAt_9 : decode b_RE_valueAt 9 = .ok (.ishr, 1) := by decide +kernel
theorem d_RE_valueAt_10 : decode b_RE_valueAt 10 = .ok (.bipush 15, 2) := by decide +kernel
theorem d_RE_valueAt_12 : decode b_RE_valueAt 12 = .ok (.iand, 1) := by decide +kernel
theorem d_RE_valueAt_13 : decode b_RE_valueAt 13 = .ok (.ireturn, 1) := by decide +kernel
theorem d_AT_rowsAgreeingWith_0 : decode b_AT_rowsAgreeingWith 0 = .ok (.iconst 1, 1) := by decide +kernel
theorem d_AT_rowsAgreeingWith_1 : decode b_AT_rowsAgreeingWith 1 = .ok (.aload_n 0, 1) := by decide +kernel
theorem d_AT_rowsAgreeingWith_2 : decode b_AT_rowsAgreeingWith 2 = .ok (.getfield 15, 3) := by decide +kernel
theorem d_AT_rowsAgreeingWith_5 : decode b_AT_rowsAgreeingWith 5 = .ok (.getfield 32, 3) := by decide +kernel
theorem d_AT_rowsAgreeingWith_8 : decode b_AT_rowsAgreeingWith 8 = .ok (.ishl, 1) := by decide +kernel
theorem d_AT_rowsAgreeingWith_9 : decode b_AT_rowsAgreeingWith 9 = .ok (.iconst 1, 1) := by decide +kernel
theorem d_AT_rowsAgreeingWith_10 : decode b_AT_rowsAgreeingWith 10 = .ok (.isub, 1) := by decide +kernel
theorem d_AT_rowsAgreeingWith_11 : decode b_AT_rowsAgreeingWith 11 = .ok (.istore_n 3, 1) := by decide +kernel
theorem d_AT_rowsAgreeingWith_12 : decode b_AT_rowsAgreeingWith 12 = .ok (.iconst 0, 1) := by decide +kernel
theorem d_AT_rowsAgreeingWith_13 : decode b_AT_rowsAgreeingWith 13 = .ok (.istore 4, 2) := by decide +kernel
theorem d_AT_rowsAgreeingWith_15 : decode b_AT_rowsAgreeingWith 15 = .ok (.iload 4, 2) := by decide +kernel
theorem d_AT_rowsAgreeingWith_17 : decode b_AT_rowsAgreeingWith 17 = .ok (.iconst 3, 1) := by decide +kernel
theorem d_AT_rowsAgreeingWith_18 : decode b_AT_rowsAgreeingWith 18 = .ok (.if_icmp .ge 37, 3) := by decide +kernel
theorem d_AT_rowsAgreeingWith_21 : decode b_AT_rowsAgreeingWith 21 = .ok (.aload_n 1, 1) := by decide +kernel
theorem d_AT_rowsAgreeingWith_22 : decode b_AT_rowsAgreeingWith 22 = .ok (.getfield 15, 3) := by decide +kernel
theorem d_AT_rowsAgreeingWith_25 : decode b_AT_rowsAgreeingWith 25 = .ok (.iload_n 2, 1) := by decide +kernel
theorem d_AT_rowsAgreeingWith_26 : decode b_AT_rowsAgreeingWith 26 = .ok (.iload 4, 2) := by decide +kernel
theorem d_AT_rowsAgreeingWith_28 : decode b_AT_rowsAgreeingWith 28 = .ok (.invokevirtual 39, 3) := by decide +kernel
theorem d_AT_rowsAgreeingWith_31 : decode b_AT_rowsAgreeingWith 31 = .ok (.istore 5, 2) := by decide +kernel
theorem d_AT_rowsAgreeingWith_33 : decode b_AT_rowsAgreeingWith 33 = .ok (.iload_n 3, 1) := by decide +kernel
theorem d_AT_rowsAgreeingWith_34 : decode b_AT_rowsAgreeingWith 34 = .ok (.aload_n 0, 1) := by decide +kernel
theorem d_AT_rowsAgreeingWith_35 : decode b_AT_rowsAgreeingWith 35 = .ok (.aload_n 1, 1) := by decide +kernel
theorem d_AT_rowsAgreeingWith_36 : decode b_AT_rowsAgreeingWith 36 = .ok (.getfield 9, 3) := by decide +kernel
theorem d_AT_rowsAgreeingWith_39 : decode b_AT_rowsAgreeingWith 39 = .ok (.iload 4, 2) := by decide +kernel
theorem d_AT_rowsAgreeingWith_41 : decode b_AT_rowsAgreeingWith 41 = .ok (.iaload, 1) := by decide +kernel
theorem d_AT_rowsAgreeingWith_42 : decode b_AT_rowsAgreeingWith 42 = .ok (.iload 5, 2) := by decide +kernel
theorem d_AT_rowsAgreeingWith_44 : decode b_AT_rowsAgreeingWith 44 = .ok (.invokevirtual 43, 3) := by decide +kernel
theorem d_AT_rowsAgreeingWith_47 : decode b_AT_rowsAgreeingWith 47 = .ok (.iand, 1) := by decide +kernel
theorem d_AT_rowsAgreeingWith_48 : decode b_AT_rowsAgreeingWith 48 = .ok (.istore_n 3, 1) := by decide +kernel
theorem d_AT_rowsAgreeingWith_49 : decode b_AT_rowsAgreeingWith 49 = .ok (.iinc 4 1, 3) := by decide +kernel
theorem d_AT_rowsAgreeingWith_52 : decode b_AT_rowsAgreeingWith 52 = .ok (.goto (-37), 3) := by decide +kernel
theorem d_AT_rowsAgreeingWith_55 : decode b_AT_rowsAgreeingWith 55 = .ok (.iload_n 3, 1) := by decide +kernel
theorem d_AT_rowsAgreeingWith_56 : decode b_AT_rowsAgreeingWith 56 = .ok (.ireturn, 1) := by decide +kernel
theorem d_AT_rowsAllowing_0 : decode b_AT_rowsAllowing 0 = .ok (.iconst 1, 1) := by decide +kernel
theorem d_AT_rowsAllowing_1 : decode b_AT_rowsAllowing 1 = .ok (.aload_n 0, 1) := by decide +kernel
theorem d_AT_rowsAllowing_2 : decode b_AT_rowsAllowing 2 = .ok (.getfield 15, 3) := by decide +kernel
theorem d_AT_rowsAllowing_5 : decode b_AT_rowsAllowing 5 = .ok (.getfield 32, 3) := by decide +kernel
theorem d_AT_rowsAllowing_8 : decode b_AT_rowsAllowing 8 = .ok (.ishl, 1) := by decide +kernel
theorem d_AT_rowsAllowing_9 : decode b_AT_rowsAllowing 9 = .ok (.iconst 1, 1) := by decide +kernel
theorem d_AT_rowsAllowing_10 : decode b_AT_rowsAllowing 10 = .ok (.isub, 1) := by decide +kernel
theorem d_AT_rowsAllowing_11 : decode b_AT_rowsAllowing 11 = .ok (.istore_n 3, 1) := by decide +kernel
theorem d_AT_rowsAllowing_12 : decode b_AT_rowsAllowing 12 = .ok (.iconst 0, 1) := by decide +kernel
theorem d_AT_rowsAllowing_13 : decode b_AT_rowsAllowing 13 = .ok (.istore 4, 2) := by decide +kernel
theorem d_AT_rowsAllowing_15 : decode b_AT_rowsAllowing 15 = .ok (.iload 4, 2) := by decide +kernel
theorem d_AT_rowsAllowing_17 : decode b_AT_rowsAllowing 17 = .ok (.iconst 3, 1) := by decide +kernel
theorem d_AT_rowsAllowing_18 : decode b_AT_rowsAllowing 18 = .ok (.if_icmp .ge 65, 3) := by decide +kernel
theorem d_AT_rowsAllowing_21 : decode b_AT_rowsAllowing 21 = .ok (.iconst 0, 1) := by decide +kernel
theorem d_AT_rowsAllowing_22 : decode b_AT_rowsAllowing 22 = .ok (.istore 5, 2) := by decide +kernel
theorem d_AT_rowsAllowing_24 : decode b_AT_rowsAllowing 24 = .ok (.iload 5, 2) := by decide +kernel
theorem d_AT_rowsAllowing_26 : decode b_AT_rowsAllowing 26 = .ok (.aload_n 0, 1) := by decide +kernel
theorem d_AT_rowsAllowing_27 : decode b_AT_rowsAllowing 27 = .ok (.getfield 15, 3) := by decide +kernel
theorem d_AT_rowsAllowing_30 : decode b_AT_rowsAllowing 30 = .ok (.getfield 32, 3) := by decide +kernel
theorem d_AT_rowsAllowing_33 : decode b_AT_rowsAllowing 33 = .ok (.if_icmp .ge 44, 3) := by decide +kernel
theorem d_AT_rowsAllowing_36 : decode b_AT_rowsAllowing 36 = .ok (.aload_n 0, 1) := by decide +kernel
theorem d_AT_rowsAllowing_37 : decode b_AT_rowsAllowing 37 = .ok (.getfield 9, 3) := by decide +kernel
theorem d_AT_rowsAllowing_40 : decode b_AT_rowsAllowing 40 = .ok (.iload 4, 2) := by decide +kernel
theorem d_AT_rowsAllowing_42 : decode b_AT_rowsAllowing 42 = .ok (.iaload, 1) := by decide +kernel
theorem d_AT_rowsAllowing_43 : decode b_AT_rowsAllowing 43 = .ok (.iload_n 1, 1) := by decide +kernel
theorem d_AT_rowsAllowing_44 : decode b_AT_rowsAllowing 44 = .ok (.if_icmp .ne 33, 3) := by decide +kernel
theorem d_AT_rowsAllowing_47 : decode b_AT_rowsAllowing 47 = .ok (.aload_n 0, 1) := by decide +kernel
theorem d_AT_rowsAllowing_48 : decode b_AT_rowsAllowing 48 = .ok (.getfield 15, 3) := by decide +kernel
theorem d_AT_rowsAllowing_51 : decode b_AT_rowsAllowing 51 = .ok (.iload 5, 2) := by decide +kernel
theorem d_AT_rowsAllowing_53 : decode b_AT_rowsAllowing 53 = .ok (.iload 4, 2) := by decide +kernel
theorem d_AT_rowsAllowing_55 : decode b_AT_rowsAllowing 55 = .ok (.invokevirtual 39, 3) := by decide +kernel
theorem d_AT_rowsAllowing_58 : decode b_AT_rowsAllowing 58 = .ok (.iload_n 2, 1) := by decide +kernel
theorem d_AT_rowsAllowing_59 : decode b_AT_rowsAllowing 59 = .ok (.if_icmp .eq 12, 3) := by decide +kernel
theorem d_AT_rowsAllowing_62 : decode b_AT_rowsAllowing 62 = .ok (.iload_n 3, 1) := by decide +kernel
theorem d_AT_rowsAllowing_63 : decode b_AT_rowsAllowing 63 = .ok (.iconst 1, 1) := by decide +kernel
theorem d_AT_rowsAllowing_64 : decode b_AT_rowsAllowing 64 = .ok (.iload 5, 2) := by decide +kernel
theorem d_AT_rowsAllowing_66 : decode b_AT_rowsAllowing 66 = .ok (.ishl, 1) := by decide +kernel
theorem d_AT_rowsAllowing_67 : decode b_AT_rowsAllowing 67 = .ok (.iconst (-1), 1) := by decide +kernel
theorem d_AT_rowsAllowing_68 : decode b_AT_rowsAllowing 68 = .ok (.ixor, 1) := by decide +kernel
theorem d_AT_rowsAllowing_69 : decode b_AT_rowsAllowing 69 = .ok (.iand, 1) := by decide +kernel
theorem d_AT_rowsAllowing_70 : decode b_AT_rowsAllowing 70 = .ok (.istore_n 3, 1) := by decide +kernel
theorem d_AT_rowsAllowing_71 : decode b_AT_rowsAllowing 71 = .ok (.iinc 5 1, 3) := by decide +kernel
theorem d_AT_rowsAllowing_74 : decode b_AT_rowsAllowing 74 = .ok (.goto (-50), 3) := by decide +kernel
theorem d_AT_rowsAllowing_77 : decode b_AT_rowsAllowing 77 = .ok (.iinc 4 1, 3) := by decide +kernel
theorem d_AT_rowsAllowing_80 : decode b_AT_rowsAllowing 80 = .ok (.goto (-65), 3) := by decide +kernel
theorem d_AT_rowsAllowing_83 : decode b_AT_rowsAllowing 83 = .ok (.iload_n 3, 1) := by decide +kernel
theorem d_AT_rowsAllowing_84 : decode b_AT_rowsAllowing 84 = .ok (.ireturn, 1) := by decide +kernel
theorem d_JO_startWeights_0 : decode b_JO_startWeights 0 = .ok (.iconst 0, 1) := by decide +kernel
theorem d_JO_startWeights_1 : decode b_JO_startWeights 1 = .ok (.istore_n 1, 1) := by decide +kernel
theorem d_JO_startWeights_2 : decode b_JO_startWeights 2 = .ok (.iload_n 1, 1) := by decide +kernel
theorem d_JO_startWeights_3 : decode b_JO_startWeights 3 = .ok (.aload_n 0, 1) := by decide +kernel
theorem d_JO_startWeights_4 : decode b_JO_startWeights 4 = .ok (.getfield 28, 3) := by decide +kernel
theorem d_JO_startWeights_7 : decode b_JO_startWeights 7 = .ok (.getfield 89, 3) := by decide +kernel
theorem d_JO_startWeights_10 : decode b_JO_startWeights 10 = .ok (.if_icmp .ge 32, 3) := by decide +kernel
theorem d_JO_startWeights_13 : decode b_JO_startWeights 13 = .ok (.iconst 0, 1) := by decide +kernel
theorem d_JO_startWeights_14 : decode b_JO_startWeights 14 = .ok (.istore_n 2, 1) := by decide +kernel
theorem d_JO_startWeights_15 : decode b_JO_startWeights 15 = .ok (.iload_n 2, 1) := by decide +kernel
theorem d_JO_startWeights_16 : decode b_JO_startWeights 16 = .ok (.bipush 12, 2) := by decide +kernel
theorem d_JO_startWeights_18 : decode b_JO_startWeights 18 = .ok (.if_icmp .ge 18, 3) := by decide +kernel
theorem d_JO_startWeights_21 : decode b_JO_startWeights 21 = .ok (.aload_n 0, 1) := by decide +kernel
theorem d_JO_startWeights_22 : decode b_JO_startWeights 22 = .ok (.getfield 21, 3) := by decide +kernel
theorem d_JO_startWeights_25 : decode b_JO_startWeights 25 = .ok (.iload_n 1, 1) := by decide +kernel
theorem d_JO_startWeights_26 : decode b_JO_startWeights 26 = .ok (.aaload, 1) := by decide +kernel
theorem d_JO_startWeights_27 : decode b_JO_startWeights 27 = .ok (.iload_n 2, 1) := by decide +kernel
theorem d_JO_startWeights_28 : decode b_JO_startWeights 28 = .ok (.lconst 1, 1) := by decide +kernel
theorem d_JO_startWeights_29 : decode b_JO_startWeights 29 = .ok (.lastore, 1) := by decide +kernel
theorem d_JO_startWeights_30 : decode b_JO_startWeights 30 = .ok (.iinc 2 1, 3) := by decide +kernel
theorem d_JO_startWeights_33 : decode b_JO_startWeights 33 = .ok (.goto (-18), 3) := by decide +kernel
theorem d_JO_startWeights_36 : decode b_JO_startWeights 36 = .ok (.iinc 1 1, 3) := by decide +kernel
theorem d_JO_startWeights_39 : decode b_JO_startWeights 39 = .ok (.goto (-37), 3) := by decide +kernel
theorem d_JO_startWeights_42 : decode b_JO_startWeights 42 = .ok (.return_, 1) := by decide +kernel
theorem d_JO_weighIntoParent_0 : decode b_JO_weighIntoParent 0 = .ok (.aload_n 0, 1) := by decide +kernel
theorem d_JO_weighIntoParent_1 : decode b_JO_weighIntoParent 1 = .ok (.getfield 32, 3) := by decide +kernel
theorem d_JO_weighIntoParent_4 : decode b_JO_weighIntoParent 4 = .ok (.getfield 101, 3) := by decide +kernel
theorem d_JO_weighIntoParent_7 : decode b_JO_weighIntoParent 7 = .ok (.iload_n 1, 1) := by decide +kernel
theorem d_JO_weighIntoParent_8 : decode b_JO_weighIntoParent 8 = .ok (.iaload, 1) := by decide +kernel
theorem d_JO_weighIntoParent_9 : decode b_JO_weighIntoParent 9 = .ok (.istore_n 2, 1) := by decide +kernel
theorem d_JO_weighIntoParent_10 : decode b_JO_weighIntoParent 10 = .ok (.iconst 0, 1) := by decide +kernel
theorem d_JO_weighIntoParent_11 : decode b_JO_weighIntoParent 11 = .ok (.istore_n 3, 1) := by decide +kernel
theorem d_JO_weighIntoParent_12 : decode b_JO_weighIntoParent 12 = .ok (.iload_n 3, 1) := by decide +kernel
theorem d_JO_weighIntoParent_13 : decode b_JO_weighIntoParent 13 = .ok (.bipush 12, 2) := by decide +kernel
theorem d_JO_weighIntoParent_15 : decode b_JO_weighIntoParent 15 = .ok (.if_icmp .ge 57, 3) := by decide +kernel
theorem d_JO_weighIntoParent_18 : decode b_JO_weighIntoParent 18 = .ok (.iload_n 3, 1) := by decide +kernel
theorem d_JO_weighIntoParent_19 : decode b_JO_weighIntoParent 19 = .ok (.aload_n 0, 1) := by decide +kernel
theorem d_JO_weighIntoParent_20 : decode b_JO_weighIntoParent 20 = .ok (.getfield 16, 3) := by decide +kernel
theorem d_JO_weighIntoParent_23 : decode b_JO_weighIntoParent 23 = .ok (.iconst 0, 1) := by decide +kernel
theorem d_JO_weighIntoParent_24 : decode b_JO_weighIntoParent 24 = .ok (.aaload, 1) := by decide +kernel
theorem d_JO_weighIntoParent_25 : decode b_JO_weighIntoParent 25 = .ok (.iload_n 2, 1) := by decide +kernel
theorem d_JO_weighIntoParent_26 : decode b_JO_weighIntoParent 26 = .ok (.iaload, 1) := by decide +kernel
theorem d_JO_weighIntoParent_27 : decode b_JO_weighIntoParent 27 = .ok (.invokestatic 124, 3) := by decide +kernel
theorem d_JO_weighIntoParent_30 : decode b_JO_weighIntoParent 30 = .ok (.ifCond .eq 36, 3) := by decide +kernel
theorem d_JO_weighIntoParent_33 : decode b_JO_weighIntoParent 33 = .ok (.aload_n 0, 1) := by decide +kernel
theorem d_JO_weighIntoParent_34 : decode b_JO_weighIntoParent 34 = .ok (.getfield 21, 3) := by decide +kernel
theorem d_JO_weighIntoParent_37 : decode b_JO_weighIntoParent 37 = .ok (.iload_n 2, 1) := by decide +kernel
theorem d_JO_weighIntoParent_38 : decode b_JO_weighIntoParent 38 = .ok (.aaload, 1) := by decide +kernel
theorem d_JO_weighIntoParent_39 : decode b_JO_weighIntoParent 39 = .ok (.iload_n 3, 1) := by decide +kernel
theorem d_JO_weighIntoParent_40 : decode b_JO_weighIntoParent 40 = .ok (.dup2, 1) := by decide +kernel
theorem d_JO_weighIntoParent_41 : decode b_JO_weighIntoParent 41 = .ok (.laload, 1) := by decide +kernel
theorem d_JO_weighIntoParent_42 : decode b_JO_weighIntoParent 42 = .ok (.aload_n 0, 1) := by decide +kernel
theorem d_JO_weighIntoParent_43 : decode b_JO_weighIntoParent 43 = .ok (.iload_n 1, 1) := by decide +kernel
theorem d_JO_weighIntoParent_44 : decode b_JO_weighIntoParent 44 = .ok (.aload_n 0, 1) := by decide +kernel
theorem d_JO_weighIntoParent_45 : decode b_JO_weighIntoParent 45 = .ok (.getfield 11, 3) := by decide +kernel
theorem d_JO_weighIntoParent_48 : decode b_JO_weighIntoParent 48 = .ok (.iload_n 1, 1) := by decide +kernel
theorem d_JO_weighIntoParent_49 : decode b_JO_weighIntoParent 49 = .ok (.aaload, 1) := by decide +kernel
theorem d_JO_weighIntoParent_50 : decode b_JO_weighIntoParent 50 = .ok (.iload_n 3, 1) := by decide +kernel
theorem d_JO_weighIntoParent_51 : decode b_JO_weighIntoParent 51 = .ok (.iaload, 1) := by decide +kernel
theorem d_JO_weighIntoParent_52 : decode b_JO_weighIntoParent 52 = .ok (.aload_n 0, 1) := by decide +kernel
theorem d_JO_weighIntoParent_53 : decode b_JO_weighIntoParent 53 = .ok (.getfield 16, 3) := by decide +kernel
theorem d_JO_weighIntoParent_56 : decode b_JO_weighIntoParent 56 = .ok (.iconst 0, 1) := by decide +kernel
theorem d_JO_weighIntoParent_57 : decode b_JO_weighIntoParent 57 = .ok (.aaload, 1) := by decide +kernel
theorem d_JO_weighIntoParent_58 : decode b_JO_weighIntoParent 58 = .ok (.iload_n 1, 1) := by decide +kernel
theorem d_JO_weighIntoParent_59 : decode b_JO_weighIntoParent 59 = .ok (.iaload, 1) := by decide +kernel
theorem d_JO_weighIntoParent_60 : decode b_JO_weighIntoParent 60 = .ok (.iand, 1) := by decide +kernel
theorem d_JO_weighIntoParent_61 : decode b_JO_weighIntoParent 61 = .ok (.invokevirtual 69, 3) := by decide +kernel
theorem d_JO_weighIntoParent_64 : decode b_JO_weighIntoParent 64 = .ok (.lmul, 1) := by decide +kernel
theorem d_JO_weighIntoParent_65 : decode b_JO_weighIntoParent 65 = .ok (.lastore, 1) := by decide +kernel
theorem d_JO_weighIntoParent_66 : decode b_JO_weighIntoParent 66 = .ok (.iinc 3 1, 3) := by decide +kernel
theorem d_JO_weighIntoParent_69 : decode b_JO_weighIntoParent 69 = .ok (.goto (-57), 3) := by decide +kernel
theorem d_JO_weighIntoParent_72 : decode b_JO_weighIntoParent 72 = .ok (.return_, 1) := by decide +kernel
theorem d_JO_weightOf_0 : decode b_JO_weightOf 0 = .ok (.lconst 0, 1) := by decide +kernel
theorem d_JO_weightOf_1 : decode b_JO_weightOf 1 = .ok (.lstore_n 3, 1) := by decide +kernel
theorem d_JO_weightOf_2 : decode b_JO_weightOf 2 = .ok (.iconst 0, 1) := by decide +kernel
theorem d_JO_weightOf_3 : decode b_JO_weightOf 3 = .ok (.istore 5, 2) := by decide +kernel
theorem d_JO_weightOf_5 : decode b_JO_weightOf 5 = .ok (.iload 5, 2) := by decide +kernel
theorem d_JO_weightOf_7 : decode b_JO_weightOf 7 = .ok (.bipush 12, 2) := by decide +kernel
theorem d_JO_weightOf_9 : decode b_JO_weightOf 9 = .ok (.if_icmp .ge 30, 3) := by decide +kernel
theorem d_JO_weightOf_12 : decode b_JO_weightOf 12 = .ok (.iload 5, 2) := by decide +kernel
theorem d_JO_weightOf_14 : decode b_JO_weightOf 14 = .ok (.iload_n 2, 1) := by decide +kernel
theorem d_JO_weightOf_15 : decode b_JO_weightOf 15 = .ok (.invokestatic 124, 3) := by decide +kernel
theorem d_JO_weightOf_18 : decode b_JO_weightOf 18 = .ok (.ifCond .eq 15, 3) := by decide +kernel
theorem d_JO_weightOf_21 : decode b_JO_weightOf 21 = .ok (.lload_n 3, 1) := by decide +kernel
theorem d_JO_weightOf_22 : decode b_JO_weightOf 22 = .ok (.aload_n 0, 1) := by decide +kernel
theorem d_JO_weightOf_23 : decode b_JO_weightOf 23 = .ok (.getfield 21, 3) := by decide +kernel
theorem d_JO_weightOf_26 : decode b_JO_weightOf 26 = .ok (.iload_n 1, 1) := by decide +kernel
theorem d_JO_weightOf_27 : decode b_JO_weightOf 27 = .ok (.aaload, 1) := by decide +kernel
theorem d_JO_weightOf_28 : decode b_JO_weightOf 28 = .ok (.iload 5, 2) := by decide +kernel
theorem d_JO_weightOf_30 : decode b_JO_weightOf 30 = .ok (.laload, 1) := by decide +kernel
theorem d_JO_weightOf_31 : decode b_JO_weightOf 31 = .ok (.ladd, 1) := by decide +kernel
theorem d_JO_weightOf_32 : decode b_JO_weightOf 32 = .ok (.lstore_n 3, 1) := by decide +kernel
theorem d_JO_weightOf_33 : decode b_JO_weightOf 33 = .ok (.iinc 5 1, 3) := by decide +kernel
theorem d_JO_weightOf_36 : decode b_JO_weightOf 36 = .ok (.goto (-31), 3) := by decide +kernel
theorem d_JO_weightOf_39 : decode b_JO_weightOf 39 = .ok (.lload_n 3, 1) := by decide +kernel
theorem d_JO_weightOf_40 : decode b_JO_weightOf 40 = .ok (.lreturn, 1) := by decide +kernel
theorem d_LA_live_0 : decode b_LA_live 0 = .ok (.aload_n 2, 1) := by decide +kernel
theorem d_LA_live_1 : decode b_LA_live 1 = .ok (.iconst 0, 1) := by decide +kernel
theorem d_LA_live_2 : decode b_LA_live 2 = .ok (.aload_n 0, 1) := by decide +kernel
theorem d_LA_live_3 : decode b_LA_live 3 = .ok (.iload_n 1, 1) := by decide +kernel
theorem d_LA_live_4 : decode b_LA_live 4 = .ok (.invokevirtual 15, 3) := by decide +kernel
theorem d_LA_live_7 : decode b_LA_live 7 = .ok (.i2l, 1) := by decide +kernel
theorem d_LA_live_8 : decode b_LA_live 8 = .ok (.lastore, 1) := by decide +kernel
theorem d_LA_live_9 : decode b_LA_live 9 = .ok (.goto 9, 3) := by decide +kernel
theorem d_LA_live_12 : decode b_LA_live 12 = .ok (.astore_n 3, 1) := by decide +kernel
theorem d_LA_live_13 : decode b_LA_live 13 = .ok (.iconst 1, 1) := by decide +kernel
theorem d_LA_live_14 : decode b_LA_live 14 = .ok (.ireturn, 1) := by decide +kernel
theorem d_LA_live_15 : decode b_LA_live 15 = .ok (.astore_n 3, 1) := by decide +kernel
theorem d_LA_live_16 : decode b_LA_live 16 = .ok (.iconst 2, 1) := by decide +kernel
theorem d_LA_live_17 : decode b_LA_live 17 = .ok (.ireturn, 1) := by decide +kernel
theorem d_LA_live_18 : decode b_LA_live 18 = .ok (.iconst 0, 1) := by decide +kernel
theorem d_LA_live_19 : decode b_LA_live 19 = .ok (.ireturn, 1) := by decide +kernel
theorem d_JL_live_0 : decode b_JL_live 0 = .ok (.aload_n 0, 1) := by decide +kernel
theorem d_JL_live_1 : decode b_JL_live 1 = .ok (.invokevirtual 95, 3) := by decide +kernel
theorem d_JL_live_4 : decode b_JL_live 4 = .ok (.iload_n 1, 1) := by decide +kernel
theorem d_JL_live_5 : decode b_JL_live 5 = .ok (.aload_n 0, 1) := by decide +kernel
theorem d_JL_live_6 : decode b_JL_live 6 = .ok (.getfield 21, 3) := by decide +kernel
theorem d_JL_live_9 : decode b_JL_live 9 = .ok (.getfield 71, 3) := by decide +kernel
theorem d_JL_live_12 : decode b_JL_live 12 = .ok (.invokestatic 50, 3) := by decide +kernel
theorem d_JL_live_15 : decode b_JL_live 15 = .ok (.ifCond .ne 13, 3) := by decide +kernel
theorem d_JL_live_18 : decode b_JL_live 18 = .ok (.new 102, 3) := by decide +kernel
theorem d_JL_live_21 : decode b_JL_live 21 = .ok (.dup, 1) := by decide +kernel
theorem d_JL_live_22 : decode b_JL_live 22 = .ok (.ldc 104, 2) := by decide +kernel
theorem d_JL_live_24 : decode b_JL_live 24 = .ok (.invokespecial 106, 3) := by decide +kernel
theorem d_JL_live_27 : decode b_JL_live 27 = .ok (.athrow, 1) := by decide +kernel
theorem d_JL_live_28 : decode b_JL_live 28 = .ok (.aload_n 0, 1) := by decide +kernel
theorem d_JL_live_29 : decode b_JL_live 29 = .ok (.getfield 39, 3) := by decide +kernel
theorem d_JL_live_32 : decode b_JL_live 32 = .ok (.iload_n 1, 1) := by decide +kernel
theorem d_JL_live_33 : decode b_JL_live 33 = .ok (.invokevirtual 109, 3) := by decide +kernel
theorem d_JL_live_36 : decode b_JL_live 36 = .ok (.ireturn, 1) := by decide +kernel
theorem d_JO_countLiveRows_0 : decode b_JO_countLiveRows 0 = .ok (.aload_n 0, 1) := by decide +kernel
theorem d_JO_countLiveRows_1 : decode b_JO_countLiveRows 1 = .ok (.invokevirtual 36, 3) := by decide +kernel
theorem d_JO_countLiveRows_4 : decode b_JO_countLiveRows 4 = .ok (.aload_n 0, 1) := by decide +kernel
theorem d_JO_countLiveRows_5 : decode b_JO_countLiveRows 5 = .ok (.aload_n 0, 1) := by decide +kernel
theorem d_JO_countLiveRows_6 : decode b_JO_countLiveRows 6 = .ok (.getfield 16, 3) := by decide +kernel
theorem d_JO_countLiveRows_9 : decode b_JO_countLiveRows 9 = .ok (.iconst 0, 1) := by decide +kernel
theorem d_JO_countLiveRows_10 : decode b_JO_countLiveRows 10 = .ok (.aaload, 1) := by decide +kernel
theorem d_JO_countLiveRows_11 : decode b_JO_countLiveRows 11 = .ok (.invokevirtual 39, 3) := by decide +kernel
theorem d_JO_countLiveRows_14 : decode b_JO_countLiveRows 14 = .ok (.aload_n 0, 1) := by decide +kernel
theorem d_JO_countLiveRows_15 : decode b_JO_countLiveRows 15 = .ok (.getfield 16, 3) := by decide +kernel
theorem d_JO_countLiveRows_18 : decode b_JO_countLiveRows 18 = .ok (.iconst 0, 1) := by decide +kernel
theorem d_JO_countLiveRows_19 : decode b_JO_countLiveRows 19 = .ok (.aaload, 1) := by decide +kernel
theorem d_JO_countLiveRows_20 : decode b_JO_countLiveRows 20 = .ok (.iload_n 1, 1) := by decide +kernel
theorem d_JO_countLiveRows_21 : decode b_JO_countLiveRows 21 = .ok (.iaload, 1) := by decide +kernel
theorem d_JO_countLiveRows_22 : decode b_JO_countLiveRows 22 = .ok (.invokestatic 43, 3) := by decide +kernel
theorem d_JO_countLiveRows_25 : decode b_JO_countLiveRows 25 = .ok (.ireturn, 1) := by decide +kernel
theorem d_JO_keepLiveRows_0 : decode b_JO_keepLiveRows 0 = .ok (.iconst 0, 1) := by decide +kernel
theorem d_JO_keepLiveRows_1 : decode b_JO_keepLiveRows 1 = .ok (.istore_n 2, 1) := by decide +kernel
theorem d_JO_keepLiveRows_2 : decode b_JO_keepLiveRows 2 = .ok (.iload_n 2, 1) := by decide +kernel
theorem d_JO_keepLiveRows_3 : decode b_JO_keepLiveRows 3 = .ok (.aload_n 0, 1) := by decide +kernel
theorem d_JO_keepLiveRows_4 : decode b_JO_keepLiveRows 4 = .ok (.getfield 32, 3) := by decide +kernel
theorem d_JO_keepLiveRows_7 : decode b_JO_keepLiveRows 7 = .ok (.getfield 58, 3) := by decide +kernel
theorem d_JO_keepLiveRows_10 : decode b_JO_keepLiveRows 10 = .ok (.if_icmp .ge 23, 3) := by decide +kernel
theorem d_JO_keepLiveRows_13 : decode b_JO_keepLiveRows 13 = .ok (.aload_n 0, 1) := by decide +kernel
theorem d_JO_keepLiveRows_14 : decode b_JO_keepLiveRows 14 = .ok (.aload_n 1, 1) := by decide +kernel
theorem d_JO_keepLiveRows_15 : decode b_JO_keepLiveRows 15 = .ok (.aload_n 0, 1) := by decide +kernel
theorem d_JO_keepLiveRows_16 : decode b_JO_keepLiveRows 16 = .ok (.getfield 32, 3) := by decide +kernel
theorem d_JO_keepLiveRows_19 : decode b_JO_keepLiveRows 19 = .ok (.getfield 62, 3) := by decide +kernel
theorem d_JO_keepLiveRows_22 : decode b_JO_keepLiveRows 22 = .ok (.iload_n 2, 1) := by decide +kernel
theorem d_JO_keepLiveRows_23 : decode b_JO_keepLiveRows 23 = .ok (.iaload, 1) := by decide +kernel
theorem d_JO_keepLiveRows_24 : decode b_JO_keepLiveRows 24 = .ok (.invokevirtual 117, 3) := by decide +kernel
theorem d_JO_keepLiveRows_27 : decode b_JO_keepLiveRows 27 = .ok (.iinc 2 1, 3) := by decide +kernel
theorem d_JO_keepLiveRows_30 : decode b_JO_keepLiveRows 30 = .ok (.goto (-28), 3) := by decide +kernel
theorem d_JO_keepLiveRows_33 : decode b_JO_keepLiveRows 33 = .ok (.aload_n 0, 1) := by decide +kernel
theorem d_JO_keepLiveRows_34 : decode b_JO_keepLiveRows 34 = .ok (.getfield 32, 3) := by decide +kernel
theorem d_JO_keepLiveRows_37 : decode b_JO_keepLiveRows 37 = .ok (.getfield 58, 3) := by decide +kernel
theorem d_JO_keepLiveRows_40 : decode b_JO_keepLiveRows 40 = .ok (.iconst 1, 1) := by decide +kernel
theorem d_JO_keepLiveRows_41 : decode b_JO_keepLiveRows 41 = .ok (.isub, 1) := by decide +kernel
theorem d_JO_keepLiveRows_42 : decode b_JO_keepLiveRows 42 = .ok (.istore_n 2, 1) := by decide +kernel
theorem d_JO_keepLiveRows_43 : decode b_JO_keepLiveRows 43 = .ok (.iload_n 2, 1) := by decide +kernel
theorem d_JO_keepLiveRows_44 : decode b_JO_keepLiveRows 44 = .ok (.ifCond .lt 23, 3) := by decide +kernel
theorem d_JO_keepLiveRows_47 : decode b_JO_keepLiveRows 47 = .ok (.aload_n 0, 1) := by decide +kernel
theorem d_JO_keepLiveRows_48 : decode b_JO_keepLiveRows 48 = .ok (.aload_n 1, 1) := by decide +kernel
theorem d_JO_keepLiveRows_49 : decode b_JO_keepLiveRows 49 = .ok (.aload_n 0, 1) := by decide +kernel
theorem d_JO_keepLiveRows_50 : decode b_JO_keepLiveRows 50 = .ok (.getfield 32, 3) := by decide +kernel
theorem d_JO_keepLiveRows_53 : decode b_JO_keepLiveRows 53 = .ok (.getfield 62, 3) := by decide +kernel
theorem d_JO_keepLiveRows_56 : decode b_JO_keepLiveRows 56 = .ok (.iload_n 2, 1) := by decide +kernel
theorem d_JO_keepLiveRows_57 : decode b_JO_keepLiveRows 57 = .ok (.iaload, 1) := by decide +kernel
theorem d_JO_keepLiveRows_58 : decode b_JO_keepLiveRows 58 = .ok (.invokevirtual 121, 3) := by decide +kernel
theorem d_JO_keepLiveRows_61 : decode b_JO_keepLiveRows 61 = .ok (.iinc 2 (-1), 3) := by decide +kernel
theorem d_JO_keepLiveRows_64 : decode b_JO_keepLiveRows 64 = .ok (.goto (-21), 3) := by decide +kernel
theorem d_JO_keepLiveRows_67 : decode b_JO_keepLiveRows 67 = .ok (.return_, 1) := by decide +kernel
theorem d_JO_keepRowsOfParent_0 : decode b_JO_keepRowsOfParent 0 = .ok (.aload_n 0, 1) := by decide +kernel
theorem d_JO_keepRowsOfParent_1 : decode b_JO_keepRowsOfParent 1 = .ok (.getfield 32, 3) := by decide +kernel
theorem d_JO_keepRowsOfParent_4 : decode b_JO_keepRowsOfParent 4 = .ok (.getfield 101, 3) := by decide +kernel
theorem d_JO_keepRowsOfParent_7 : decode b_JO_keepRowsOfParent 7 = .ok (.iload_n 2, 1) := by decide +kernel
theorem d_JO_keepRowsOfParent_8 : decode b_JO_keepRowsOfParent 8 = .ok (.iaload, 1) := by decide +kernel
theorem d_JO_keepRowsOfParent_9 : decode b_JO_keepRowsOfParent 9 = .ok (.istore_n 3, 1) := by decide +kernel
theorem d_JO_keepRowsOfParent_10 : decode b_JO_keepRowsOfParent 10 = .ok (.iconst 0, 1) := by decide +kernel
theorem d_JO_keepRowsOfParent_11 : decode b_JO_keepRowsOfParent 11 = .ok (.istore 4, 2) := by decide +kernel
theorem d_JO_keepRowsOfParent_13 : decode b_JO_keepRowsOfParent 13 = .ok (.iload 4, 2) := by decide +kernel
theorem d_JO_keepRowsOfParent_15 : decode b_JO_keepRowsOfParent 15 = .ok (.bipush 12, 2) := by decide +kernel
theorem d_JO_keepRowsOfParent_17 : decode b_JO_keepRowsOfParent 17 = .ok (.if_icmp .ge 48, 3) := by decide +kernel
theorem d_JO_keepRowsOfParent_20 : decode b_JO_keepRowsOfParent 20 = .ok (.iload 4, 2) := by decide +kernel
theorem d_JO_keepRowsOfParent_22 : decode b_JO_keepRowsOfParent 22 = .ok (.aload_n 1, 1) := by decide +kernel
theorem d_JO_keepRowsOfParent_23 : decode b_JO_keepRowsOfParent 23 = .ok (.iload_n 3, 1) := by decide +kernel
theorem d_JO_keepRowsOfParent_24 : decode b_JO_keepRowsOfParent 24 = .ok (.iaload, 1) := by decide +kernel
theorem d_JO_keepRowsOfParent_25 : decode b_JO_keepRowsOfParent 25 = .ok (.invokestatic 124, 3) := by decide +kernel
theorem d_JO_keepRowsOfParent_28 : decode b_JO_keepRowsOfParent 28 = .ok (.ifCond .eq 31, 3) := by decide +kernel
theorem d_JO_keepRowsOfParent_31 : decode b_JO_keepRowsOfParent 31 = .ok (.aload_n 0, 1) := by decide +kernel
theorem d_JO_keepRowsOfParent_32 : decode b_JO_keepRowsOfParent 32 = .ok (.getfield 11, 3) := by decide +kernel
theorem d_JO_keepRowsOfParent_35 : decode b_JO_keepRowsOfParent 35 = .ok (.iload_n 2, 1) := by decide +kernel
theorem d_JO_keepRowsOfParent_36 : decode b_JO_keepRowsOfParent 36 = .ok (.aaload, 1) := by decide +kernel
theorem d_JO_keepRowsOfParent_37 : decode b_JO_keepRowsOfParent 37 = .ok (.iload 4, 2) := by decide +kernel
theorem d_JO_keepRowsOfParent_39 : decode b_JO_keepRowsOfParent 39 = .ok (.iaload, 1) := by decide +kernel
theorem d_JO_keepRowsOfParent_40 : decode b_JO_keepRowsOfParent 40 = .ok (.aload_n 1, 1) := by decide +kernel
theorem d_JO_keepRowsOfParent_41 : decode b_JO_keepRowsOfParent 41 = .ok (.iload_n 2, 1) := by decide +kernel
theorem d_JO_keepRowsOfParent_42 : decode b_JO_keepRowsOfParent 42 = .ok (.iaload, 1) := by decide +kernel
theorem d_JO_keepRowsOfParent_43 : decode b_JO_keepRowsOfParent 43 = .ok (.iand, 1) := by decide +kernel
theorem d_JO_keepRowsOfParent_44 : decode b_JO_keepRowsOfParent 44 = .ok (.ifCond .ne 15, 3) := by decide +kernel
theorem d_JO_keepRowsOfParent_47 : decode b_JO_keepRowsOfParent 47 = .ok (.aload_n 1, 1) := by decide +kernel
theorem d_JO_keepRowsOfParent_48 : decode b_JO_keepRowsOfParent 48 = .ok (.iload_n 3, 1) := by decide +kernel
theorem d_JO_keepRowsOfParent_49 : decode b_JO_keepRowsOfParent 49 = .ok (.dup2, 1) := by decide +kernel
theorem d_JO_keepRowsOfParent_50 : decode b_JO_keepRowsOfParent 50 = .ok (.iaload, 1) := by decide +kernel
theorem d_JO_keepRowsOfParent_51 : decode b_JO_keepRowsOfParent 51 = .ok (.iconst 1, 1) := by decide +kernel
theorem d_JO_keepRowsOfParent_52 : decode b_JO_keepRowsOfParent 52 = .ok (.iload 4, 2) := by decide +kernel
theorem d_JO_keepRowsOfParent_54 : decode b_JO_keepRowsOfParent 54 = .ok (.ishl, 1) := by decide +kernel
theorem d_JO_keepRowsOfParent_55 : decode b_JO_keepRowsOfParent 55 = .ok (.iconst (-1), 1) := by decide +kernel
theorem d_JO_keepRowsOfParent_56 : decode b_JO_keepRowsOfParent 56 = .ok (.ixor, 1) := by decide +kernel
theorem d_JO_keepRowsOfParent_57 : decode b_JO_keepRowsOfParent 57 = .ok (.iand, 1) := by decide +kernel
theorem d_JO_keepRowsOfParent_58 : decode b_JO_keepRowsOfParent 58 = .ok (.iastore, 1) := by decide +kernel
theorem d_JO_keepRowsOfParent_59 : decode b_JO_keepRowsOfParent 59 = .ok (.iinc 4 1, 3) := by decide +kernel
theorem d_JO_keepRowsOfParent_62 : decode b_JO_keepRowsOfParent 62 = .ok (.goto (-49), 3) := by decide +kernel
theorem d_JO_keepRowsOfParent_65 : decode b_JO_keepRowsOfParent 65 = .ok (.return_, 1) := by decide +kernel
theorem d_JO_keepRowsOfChild_0 : decode b_JO_keepRowsOfChild 0 = .ok (.aload_n 0, 1) := by decide +kernel
theorem d_JO_keepRowsOfChild_1 : decode b_JO_keepRowsOfChild 1 = .ok (.getfield 32, 3) := by decide +kernel
theorem d_JO_keepRowsOfChild_4 : decode b_JO_keepRowsOfChild 4 = .ok (.getfield 101, 3) := by decide +kernel
theorem d_JO_keepRowsOfChild_7 : decode b_JO_keepRowsOfChild 7 = .ok (.iload_n 2, 1) := by decide +kernel
theorem d_JO_keepRowsOfChild_8 : decode b_JO_keepRowsOfChild 8 = .ok (.iaload, 1) := by decide +kernel
theorem d_JO_keepRowsOfChild_9 : decode b_JO_keepRowsOfChild 9 = .ok (.istore_n 3, 1) := by decide +kernel
theorem d_JO_keepRowsOfChild_10 : decode b_JO_keepRowsOfChild 10 = .ok (.iconst 0, 1) := by decide +kernel
theorem d_JO_keepRowsOfChild_11 : decode b_JO_keepRowsOfChild 11 = .ok (.istore 4, 2) := by decide +kernel
theorem d_JO_keepRowsOfChild_13 : decode b_JO_keepRowsOfChild 13 = .ok (.iconst 0, 1) := by decide +kernel
theorem d_JO_keepRowsOfChild_14 : decode b_JO_keepRowsOfChild 14 = .ok (.istore 5, 2) := by decide +kernel
theorem d_JO_keepRowsOfChild_16 : decode b_JO_keepRowsOfChild 16 = .ok (.iload 5, 2) := by decide +kernel
theorem d_JO_keepRowsOfChild_18 : decode b_JO_keepRowsOfChild 18 = .ok (.bipush 12, 2) := by decide +kernel
theorem d_JO_keepRowsOfChild_20 : decode b_JO_keepRowsOfChild 20 = .ok (.if_icmp .ge 34, 3) := by decide +kernel
theorem d_JO_keepRowsOfChild_23 : decode b_JO_keepRowsOfChild 23 = .ok (.iload 5, 2) := by decide +kernel
theorem d_JO_keepRowsOfChild_25 : decode b_JO_keepRowsOfChild 25 = .ok (.aload_n 1, 1) := by decide +kernel
theorem d_JO_keepRowsOfChild_26 : decode b_JO_keepRowsOfChild 26 = .ok (.iload_n 3, 1) := by decide +kernel
theorem d_JO_keepRowsOfChild_27 : decode b_JO_keepRowsOfChild 27 = .ok (.iaload, 1) := by decide +kernel
theorem d_JO_keepRowsOfChild_28 : decode b_JO_keepRowsOfChild 28 = .ok (.invokestatic 124, 3) := by decide +kernel
theorem d_JO_keepRowsOfChild_31 : decode b_JO_keepRowsOfChild 31 = .ok (.ifCond .eq 17, 3) := by decide +kernel
theorem d_JO_keepRowsOfChild_34 : decode b_JO_keepRowsOfChild 34 = .ok (.iload 4, 2) := by decide +kernel
theorem d_JO_keepRowsOfChild_36 : decode b_JO_keepRowsOfChild 36 = .ok (.aload_n 0, 1) := by decide +kernel
theorem d_JO_keepRowsOfChild_37 : decode b_JO_keepRowsOfChild 37 = .ok (.getfield 11, 3) := by decide +kernel
theorem d_JO_keepRowsOfChild_40 : decode b_JO_keepRowsOfChild 40 = .ok (.iload_n 2, 1) := by decide +kernel
theorem d_JO_keepRowsOfChild_41 : decode b_JO_keepRowsOfChild 41 = .ok (.aaload, 1) := by decide +kernel
theorem d_JO_keepRowsOfChild_42 : decode b_JO_keepRowsOfChild 42 = .ok (.iload 5, 2) := by decide +kernel
theorem d_JO_keepRowsOfChild_44 : decode b_JO_keepRowsOfChild 44 = .ok (.iaload, 1) := by decide +kernel
theorem d_JO_keepRowsOfChild_45 : decode b_JO_keepRowsOfChild 45 = .ok (.ior, 1) := by decide +kernel
theorem d_JO_keepRowsOfChild_46 : decode b_JO_keepRowsOfChild 46 = .ok (.istore 4, 2) := by decide +kernel
theorem d_JO_keepRowsOfChild_48 : decode b_JO_keepRowsOfChild 48 = .ok (.iinc 5 1, 3) := by decide +kernel
theorem d_JO_keepRowsOfChild_51 : decode b_JO_keepRowsOfChild 51 = .ok (.goto (-35), 3) := by decide +kernel
theorem d_JO_keepRowsOfChild_54 : decode b_JO_keepRowsOfChild 54 = .ok (.aload_n 1, 1) := by decide +kernel
theorem d_JO_keepRowsOfChild_55 : decode b_JO_keepRowsOfChild 55 = .ok (.iload_n 2, 1) := by decide +kernel
theorem d_JO_keepRowsOfChild_56 : decode b_JO_keepRowsOfChild 56 = .ok (.dup2, 1) := by decide +kernel
theorem d_JO_keepRowsOfChild_57 : decode b_JO_keepRowsOfChild 57 = .ok (.iaload, 1) := by decide +kernel
theorem d_JO_keepRowsOfChild_58 : decode b_JO_keepRowsOfChild 58 = .ok (.iload 4, 2) := by decide +kernel
theorem d_JO_keepRowsOfChild_60 : decode b_JO_keepRowsOfChild 60 = .ok (.iand, 1) := by decide +kernel
theorem d_JO_keepRowsOfChild_61 : decode b_JO_keepRowsOfChild 61 = .ok (.iastore, 1) := by decide +kernel
theorem d_JO_keepRowsOfChild_62 : decode b_JO_keepRowsOfChild 62 = .ok (.return_, 1) := by decide +kernel
theorem d_JI_bitCount_0 : decode b_JI_bitCount 0 = .ok (.iload_n 0, 1) := by decide +kernel
theorem d_JI_bitCount_1 : decode b_JI_bitCount 1 = .ok (.iload_n 0, 1) := by decide +kernel
theorem d_JI_bitCount_2 : decode b_JI_bitCount 2 = .ok (.iconst 1, 1) := by decide +kernel
theorem d_JI_bitCount_3 : decode b_JI_bitCount 3 = .ok (.iushr, 1) := by decide +kernel
theorem d_JI_bitCount_4 : decode b_JI_bitCount 4 = .ok (.ldc_w 265, 3) := by decide +kernel
theorem d_JI_bitCount_7 : decode b_JI_bitCount 7 = .ok (.iand, 1) := by decide +kernel
theorem d_JI_bitCount_8 : decode b_JI_bitCount 8 = .ok (.isub, 1) := by decide +kernel
theorem d_JI_bitCount_9 : decode b_JI_bitCount 9 = .ok (.istore_n 0, 1) := by decide +kernel
theorem d_JI_bitCount_10 : decode b_JI_bitCount 10 = .ok (.iload_n 0, 1) := by decide +kernel
theorem d_JI_bitCount_11 : decode b_JI_bitCount 11 = .ok (.ldc_w 266, 3) := by decide +kernel
theorem d_JI_bitCount_14 : decode b_JI_bitCount 14 = .ok (.iand, 1) := by decide +kernel
theorem d_JI_bitCount_15 : decode b_JI_bitCount 15 = .ok (.iload_n 0, 1) := by decide +kernel
theorem d_JI_bitCount_16 : decode b_JI_bitCount 16 = .ok (.iconst 2, 1) := by decide +kernel
theorem d_JI_bitCount_17 : decode b_JI_bitCount 17 = .ok (.iushr, 1) := by decide +kernel
theorem d_JI_bitCount_18 : decode b_JI_bitCount 18 = .ok (.ldc_w 266, 3) := by decide +kernel
theorem d_JI_bitCount_21 : decode b_JI_bitCount 21 = .ok (.iand, 1) := by decide +kernel
theorem d_JI_bitCount_22 : decode b_JI_bitCount 22 = .ok (.iadd, 1) := by decide +kernel
theorem d_JI_bitCount_23 : decode b_JI_bitCount 23 = .ok (.istore_n 0, 1) := by decide +kernel
theorem d_JI_bitCount_24 : decode b_JI_bitCount 24 = .ok (.iload_n 0, 1) := by decide +kernel
theorem d_JI_bitCount_25 : decode b_JI_bitCount 25 = .ok (.iload_n 0, 1) := by decide +kernel
theorem d_JI_bitCount_26 : decode b_JI_bitCount 26 = .ok (.iconst 4, 1) := by decide +kernel
theorem d_JI_bitCount_27 : decode b_JI_bitCount 27 = .ok (.iushr, 1) := by decide +kernel
theorem d_JI_bitCount_28 : decode b_JI_bitCount 28 = .ok (.iadd, 1) := by decide +kernel
theorem d_JI_bitCount_29 : decode b_JI_bitCount 29 = .ok (.ldc_w 267, 3) := by decide +kernel
theorem d_JI_bitCount_32 : decode b_JI_bitCount 32 = .ok (.iand, 1) := by decide +kernel
theorem d_JI_bitCount_33 : decode b_JI_bitCount 33 = .ok (.istore_n 0, 1) := by decide +kernel
theorem d_JI_bitCount_34 : decode b_JI_bitCount 34 = .ok (.iload_n 0, 1) := by decide +kernel
theorem d_JI_bitCount_35 : decode b_JI_bitCount 35 = .ok (.iload_n 0, 1) := by decide +kernel
theorem d_JI_bitCount_36 : decode b_JI_bitCount 36 = .ok (.bipush 8, 2) := by decide +kernel
theorem d_JI_bitCount_38 : decode b_JI_bitCount 38 = .ok (.iushr, 1) := by decide +kernel
theorem d_JI_bitCount_39 : decode b_JI_bitCount 39 = .ok (.iadd, 1) := by decide +kernel
theorem d_JI_bitCount_40 : decode b_JI_bitCount 40 = .ok (.istore_n 0, 1) := by decide +kernel
theorem d_JI_bitCount_41 : decode b_JI_bitCount 41 = .ok (.iload_n 0, 1) := by decide +kernel
theorem d_JI_bitCount_42 : decode b_JI_bitCount 42 = .ok (.iload_n 0, 1) := by decide +kernel
theorem d_JI_bitCount_43 : decode b_JI_bitCount 43 = .ok (.bipush 16, 2) := by decide +kernel
theorem d_JI_bitCount_45 : decode b_JI_bitCount 45 = .ok (.iushr, 1) := by decide +kernel
theorem d_JI_bitCount_46 : decode b_JI_bitCount 46 = .ok (.iadd, 1) := by decide +kernel
theorem d_JI_bitCount_47 : decode b_JI_bitCount 47 = .ok (.istore_n 0, 1) := by decide +kernel
theorem d_JI_bitCount_48 : decode b_JI_bitCount 48 = .ok (.iload_n 0, 1) := by decide +kernel
theorem d_JI_bitCount_49 : decode b_JI_bitCount 49 = .ok (.bipush 63, 2) := by decide +kernel
theorem d_JI_bitCount_51 : decode b_JI_bitCount 51 = .ok (.iand, 1) := by decide +kernel
theorem d_JI_bitCount_52 : decode b_JI_bitCount 52 = .ok (.ireturn, 1) := by decide +kernel
theorem d_LA_answers_0 : decode b_LA_answers 0 = .ok (.aload_n 1, 1) := by decide +kernel
theorem d_LA_answers_1 : decode b_LA_answers 1 = .ok (.iconst 0, 1) := by decide +kernel
theorem d_LA_answers_2 : decode b_LA_answers 2 = .ok (.aload_n 0, 1) := by decide +kernel
theorem d_LA_answers_3 : decode b_LA_answers 3 = .ok (.invokevirtual 21, 3) := by decide +kernel
theorem d_LA_answers_6 : decode b_LA_answers 6 = .ok (.i2l, 1) := by decide +kernel
theorem d_LA_answers_7 : decode b_LA_answers 7 = .ok (.lastore, 1) := by decide +kernel
theorem d_LA_answers_8 : decode b_LA_answers 8 = .ok (.goto 12, 3) := by decide +kernel
theorem d_LA_answers_11 : decode b_LA_answers 11 = .ok (.astore_n 2, 1) := by decide +kernel
theorem d_LA_answers_12 : decode b_LA_answers 12 = .ok (.iconst 1, 1) := by decide +kernel
theorem d_LA_answers_13 : decode b_LA_answers 13 = .ok (.ireturn, 1) := by decide +kernel
theorem d_LA_answers_14 : decode b_LA_answers 14 = .ok (.astore_n 2, 1) := by decide +kernel
theorem d_LA_answers_15 : decode b_LA_answers 15 = .ok (.iconst 2, 1) := by decide +kernel
theorem d_LA_answers_16 : decode b_LA_answers 16 = .ok (.ireturn, 1) := by decide +kernel
theorem d_LA_answers_17 : decode b_LA_answers 17 = .ok (.astore_n 2, 1) := by decide +kernel
theorem d_LA_answers_18 : decode b_LA_answers 18 = .ok (.iconst 3, 1) := by decide +kernel
theorem d_LA_answers_19 : decode b_LA_answers 19 = .ok (.ireturn, 1) := by decide +kernel
theorem d_LA_answers_20 : decode b_LA_answers 20 = .ok (.iconst 0, 1) := by decide +kernel
theorem d_LA_answers_21 : decode b_LA_answers 21 = .ok (.ireturn, 1) := by decide +kernel
theorem d_JL_answers_0 : decode b_JL_answers 0 = .ok (.aload_n 0, 1) := by decide +kernel
theorem d_JL_answers_1 : decode b_JL_answers 1 = .ok (.invokevirtual 113, 3) := by decide +kernel
theorem d_JL_answers_4 : decode b_JL_answers 4 = .ok (.aload_n 0, 1) := by decide +kernel
theorem d_JL_answers_5 : decode b_JL_answers 5 = .ok (.getfield 39, 3) := by decide +kernel
theorem d_JL_answers_8 : decode b_JL_answers 8 = .ok (.getfield 116, 3) := by decide +kernel
theorem d_JL_answers_11 : decode b_JL_answers 11 = .ok (.ireturn, 1) := by decide +kernel
theorem d_JL_findAnswers_0 : decode b_JL_findAnswers 0 = .ok (.aload_n 0, 1) := by decide +kernel
theorem d_JL_findAnswers_1 : decode b_JL_findAnswers 1 = .ok (.invokevirtual 95, 3) := by decide +kernel
theorem d_JL_findAnswers_4 : decode b_JL_findAnswers 4 = .ok (.aload_n 0, 1) := by decide +kernel
theorem d_JL_findAnswers_5 : decode b_JL_findAnswers 5 = .ok (.getfield 21, 3) := by decide +kernel
theorem d_JL_findAnswers_8 : decode b_JL_findAnswers 8 = .ok (.invokevirtual 125, 3) := by decide +kernel
theorem d_JL_findAnswers_11 : decode b_JL_findAnswers 11 = .ok (.ifCond .ne 13, 3) := by decide +kernel
theorem d_JL_findAnswers_14 : decode b_JL_findAnswers 14 = .ok (.new 128, 3) := by decide +kernel
