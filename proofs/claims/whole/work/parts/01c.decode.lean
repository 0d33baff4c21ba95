/-! decode rows, by program -/
theorem d_JL_init_0 : decode b_JL_init 0 = .ok (.aload_n 0, 1) := by decide +kernel
theorem d_JL_init_1 : decode b_JL_init 1 = .ok (.invokespecial 1, 3) := by decide +kernel
theorem d_JL_init_4 : decode b_JL_init 4 = .ok (.aload_n 0, 1) := by decide +kernel
theorem d_JL_init_5 : decode b_JL_init 5 = .ok (.bipush 6, 2) := by decide +kernel
theorem d_JL_init_7 : decode b_JL_init 7 = .ok (.anewarray 9, 3) := by decide +kernel
theorem d_JL_init_10 : decode b_JL_init 10 = .ok (.putfield 11, 3) := by decide +kernel
theorem d_JL_init_13 : decode b_JL_init 13 = .ok (.iconst 0, 1) := by decide +kernel
theorem d_JL_init_14 : decode b_JL_init 14 = .ok (.istore_n 1, 1) := by decide +kernel
theorem d_JL_init_15 : decode b_JL_init 15 = .ok (.iload_n 1, 1) := by decide +kernel
theorem d_JL_init_16 : decode b_JL_init 16 = .ok (.bipush 6, 2) := by decide +kernel
theorem d_JL_init_18 : decode b_JL_init 18 = .ok (.if_icmp .ge 22, 3) := by decide +kernel
theorem d_JL_init_21 : decode b_JL_init 21 = .ok (.aload_n 0, 1) := by decide +kernel
theorem d_JL_init_22 : decode b_JL_init 22 = .ok (.getfield 11, 3) := by decide +kernel
theorem d_JL_init_25 : decode b_JL_init 25 = .ok (.iload_n 1, 1) := by decide +kernel
theorem d_JL_init_26 : decode b_JL_init 26 = .ok (.new 9, 3) := by decide +kernel
theorem d_JL_init_29 : decode b_JL_init 29 = .ok (.dup, 1) := by decide +kernel
theorem d_JL_init_30 : decode b_JL_init 30 = .ok (.invokespecial 15, 3) := by decide +kernel
theorem d_JL_init_33 : decode b_JL_init 33 = .ok (.aastore, 1) := by decide +kernel
theorem d_JL_init_34 : decode b_JL_init 34 = .ok (.iinc 1 1, 3) := by decide +kernel
theorem d_JL_init_37 : decode b_JL_init 37 = .ok (.goto (-22), 3) := by decide +kernel
theorem d_JL_init_40 : decode b_JL_init 40 = .ok (.aload_n 0, 1) := by decide +kernel
theorem d_JL_init_41 : decode b_JL_init 41 = .ok (.new 16, 3) := by decide +kernel
theorem d_JL_init_44 : decode b_JL_init 44 = .ok (.dup, 1) := by decide +kernel
theorem d_JL_init_45 : decode b_JL_init 45 = .ok (.aload_n 0, 1) := by decide +kernel
theorem d_JL_init_46 : decode b_JL_init 46 = .ok (.getfield 11, 3) := by decide +kernel
theorem d_JL_init_49 : decode b_JL_init 49 = .ok (.iconst 0, 1) := by decide +kernel
theorem d_JL_init_50 : decode b_JL_init 50 = .ok (.aaload, 1) := by decide +kernel
theorem d_JL_init_51 : decode b_JL_init 51 = .ok (.invokespecial 18, 3) := by decide +kernel
theorem d_JL_init_54 : decode b_JL_init 54 = .ok (.putfield 21, 3) := by decide +kernel
theorem d_JL_init_57 : decode b_JL_init 57 = .ok (.aload_n 0, 1) := by decide +kernel
theorem d_JL_init_58 : decode b_JL_init 58 = .ok (.new 25, 3) := by decide +kernel
theorem d_JL_init_61 : decode b_JL_init 61 = .ok (.dup, 1) := by decide +kernel
theorem d_JL_init_62 : decode b_JL_init 62 = .ok (.aload_n 0, 1) := by decide +kernel
theorem d_JL_init_63 : decode b_JL_init 63 = .ok (.getfield 21, 3) := by decide +kernel
theorem d_JL_init_66 : decode b_JL_init 66 = .ok (.invokespecial 27, 3) := by decide +kernel
theorem d_JL_init_69 : decode b_JL_init 69 = .ok (.putfield 30, 3) := by decide +kernel
theorem d_JL_init_72 : decode b_JL_init 72 = .ok (.aload_n 0, 1) := by decide +kernel
theorem d_JL_init_73 : decode b_JL_init 73 = .ok (.new 34, 3) := by decide +kernel
theorem d_JL_init_76 : decode b_JL_init 76 = .ok (.dup, 1) := by decide +kernel
theorem d_JL_init_77 : decode b_JL_init 77 = .ok (.aload_n 0, 1) := by decide +kernel
theorem d_JL_init_78 : decode b_JL_init 78 = .ok (.getfield 21, 3) := by decide +kernel
theorem d_JL_init_81 : decode b_JL_init 81 = .ok (.aload_n 0, 1) := by decide +kernel
theorem d_JL_init_82 : decode b_JL_init 82 = .ok (.getfield 30, 3) := by decide +kernel
theorem d_JL_init_85 : decode b_JL_init 85 = .ok (.invokespecial 36, 3) := by decide +kernel
theorem d_JL_init_88 : decode b_JL_init 88 = .ok (.putfield 39, 3) := by decide +kernel
theorem d_JL_init_91 : decode b_JL_init 91 = .ok (.return_, 1) := by decide +kernel
theorem d_RE_init_0 : decode b_RE_init 0 = .ok (.aload_n 0, 1) := by decide +kernel
theorem d_RE_init_1 : decode b_RE_init 1 = .ok (.invokespecial 3, 3) := by decide +kernel
theorem d_RE_init_4 : decode b_RE_init 4 = .ok (.aload_n 0, 1) := by decide +kernel
theorem d_RE_init_5 : decode b_RE_init 5 = .ok (.bipush 12, 2) := by decide +kernel
theorem d_RE_init_7 : decode b_RE_init 7 = .ok (.newarray .int, 2) := by decide +kernel
theorem d_RE_init_9 : decode b_RE_init 9 = .ok (.putfield 9, 3) := by decide +kernel
theorem d_RE_init_12 : decode b_RE_init 12 = .ok (.return_, 1) := by decide +kernel
theorem d_QU_init_0 : decode b_QU_init 0 = .ok (.aload_n 0, 1) := by decide +kernel
theorem d_QU_init_1 : decode b_QU_init 1 = .ok (.invokespecial 3, 3) := by decide +kernel
theorem d_QU_init_4 : decode b_QU_init 4 = .ok (.aload_n 0, 1) := by decide +kernel
theorem d_QU_init_5 : decode b_QU_init 5 = .ok (.bipush 6, 2) := by decide +kernel
theorem d_QU_init_7 : decode b_QU_init 7 = .ok (.anewarray 9, 3) := by decide +kernel
theorem d_QU_init_10 : decode b_QU_init 10 = .ok (.putfield 11, 3) := by decide +kernel
theorem d_QU_init_13 : decode b_QU_init 13 = .ok (.aload_n 0, 1) := by decide +kernel
theorem d_QU_init_14 : decode b_QU_init 14 = .ok (.iconst 4, 1) := by decide +kernel
theorem d_QU_init_15 : decode b_QU_init 15 = .ok (.newarray .int, 2) := by decide +kernel
theorem d_QU_init_17 : decode b_QU_init 17 = .ok (.putfield 17, 3) := by decide +kernel
theorem d_QU_init_20 : decode b_QU_init 20 = .ok (.iconst 0, 1) := by decide +kernel
theorem d_QU_init_21 : decode b_QU_init 21 = .ok (.istore_n 2, 1) := by decide +kernel
theorem d_QU_init_22 : decode b_QU_init 22 = .ok (.iload_n 2, 1) := by decide +kernel
theorem d_QU_init_23 : decode b_QU_init 23 = .ok (.bipush 6, 2) := by decide +kernel
theorem d_QU_init_25 : decode b_QU_init 25 = .ok (.if_icmp .ge 23, 3) := by decide +kernel
theorem d_QU_init_28 : decode b_QU_init 28 = .ok (.aload_n 0, 1) := by decide +kernel
theorem d_QU_init_29 : decode b_QU_init 29 = .ok (.getfield 11, 3) := by decide +kernel
theorem d_QU_init_32 : decode b_QU_init 32 = .ok (.iload_n 2, 1) := by decide +kernel
theorem d_QU_init_33 : decode b_QU_init 33 = .ok (.new 9, 3) := by decide +kernel
theorem d_QU_init_36 : decode b_QU_init 36 = .ok (.dup, 1) := by decide +kernel
theorem d_QU_init_37 : decode b_QU_init 37 = .ok (.aload_n 1, 1) := by decide +kernel
theorem d_QU_init_38 : decode b_QU_init 38 = .ok (.invokespecial 21, 3) := by decide +kernel
theorem d_QU_init_41 : decode b_QU_init 41 = .ok (.aastore, 1) := by decide +kernel
theorem d_QU_init_42 : decode b_QU_init 42 = .ok (.iinc 2 1, 3) := by decide +kernel
theorem d_QU_init_45 : decode b_QU_init 45 = .ok (.goto (-23), 3) := by decide +kernel
theorem d_QU_init_48 : decode b_QU_init 48 = .ok (.return_, 1) := by decide +kernel
theorem d_AT_init_0 : decode b_AT_init 0 = .ok (.aload_n 0, 1) := by decide +kernel
theorem d_AT_init_1 : decode b_AT_init 1 = .ok (.invokespecial 3, 3) := by decide +kernel
theorem d_AT_init_4 : decode b_AT_init 4 = .ok (.aload_n 0, 1) := by decide +kernel
theorem d_AT_init_5 : decode b_AT_init 5 = .ok (.iconst 3, 1) := by decide +kernel
theorem d_AT_init_6 : decode b_AT_init 6 = .ok (.newarray .int, 2) := by decide +kernel
theorem d_AT_init_8 : decode b_AT_init 8 = .ok (.putfield 9, 3) := by decide +kernel
theorem d_AT_init_11 : decode b_AT_init 11 = .ok (.aload_n 0, 1) := by decide +kernel
theorem d_AT_init_12 : decode b_AT_init 12 = .ok (.aload_n 1, 1) := by decide +kernel
theorem d_AT_init_13 : decode b_AT_init 13 = .ok (.putfield 15, 3) := by decide +kernel
theorem d_AT_init_16 : decode b_AT_init 16 = .ok (.return_, 1) := by decide +kernel
theorem d_HA_init_0 : decode b_HA_init 0 = .ok (.aload_n 0, 1) := by decide +kernel
theorem d_HA_init_1 : decode b_HA_init 1 = .ok (.invokespecial 3, 3) := by decide +kernel
theorem d_HA_init_4 : decode b_HA_init 4 = .ok (.aload_n 0, 1) := by decide +kernel
theorem d_HA_init_5 : decode b_HA_init 5 = .ok (.bipush 6, 2) := by decide +kernel
theorem d_HA_init_7 : decode b_HA_init 7 = .ok (.newarray .int, 2) := by decide +kernel
theorem d_HA_init_9 : decode b_HA_init 9 = .ok (.putfield 9, 3) := by decide +kernel
theorem d_HA_init_12 : decode b_HA_init 12 = .ok (.aload_n 0, 1) := by decide +kernel
theorem d_HA_init_13 : decode b_HA_init 13 = .ok (.bipush 6, 2) := by decide +kernel
theorem d_HA_init_15 : decode b_HA_init 15 = .ok (.newarray .int, 2) := by decide +kernel
theorem d_HA_init_17 : decode b_HA_init 17 = .ok (.putfield 15, 3) := by decide +kernel
theorem d_HA_init_20 : decode b_HA_init 20 = .ok (.aload_n 0, 1) := by decide +kernel
theorem d_HA_init_21 : decode b_HA_init 21 = .ok (.bipush 6, 2) := by decide +kernel
theorem d_HA_init_23 : decode b_HA_init 23 = .ok (.newarray .int, 2) := by decide +kernel
theorem d_HA_init_25 : decode b_HA_init 25 = .ok (.putfield 18, 3) := by decide +kernel
theorem d_HA_init_28 : decode b_HA_init 28 = .ok (.aload_n 0, 1) := by decide +kernel
theorem d_HA_init_29 : decode b_HA_init 29 = .ok (.aload_n 1, 1) := by decide +kernel
theorem d_HA_init_30 : decode b_HA_init 30 = .ok (.putfield 21, 3) := by decide +kernel
theorem d_HA_init_33 : decode b_HA_init 33 = .ok (.return_, 1) := by decide +kernel
theorem d_JO_init_0 : decode b_JO_init 0 = .ok (.aload_n 0, 1) := by decide +kernel
theorem d_JO_init_1 : decode b_JO_init 1 = .ok (.invokespecial 3, 3) := by decide +kernel
theorem d_JO_init_4 : decode b_JO_init 4 = .ok (.aload_n 0, 1) := by decide +kernel
theorem d_JO_init_5 : decode b_JO_init 5 = .ok (.bipush 6, 2) := by decide +kernel
theorem d_JO_init_7 : decode b_JO_init 7 = .ok (.bipush 12, 2) := by decide +kernel
theorem d_JO_init_9 : decode b_JO_init 9 = .ok (.multianewarray 9 2, 4) := by decide +kernel
theorem d_JO_init_13 : decode b_JO_init 13 = .ok (.putfield 11, 3) := by decide +kernel
theorem d_JO_init_16 : decode b_JO_init 16 = .ok (.aload_n 0, 1) := by decide +kernel
theorem d_JO_init_17 : decode b_JO_init 17 = .ok (.iconst 5, 1) := by decide +kernel
theorem d_JO_init_18 : decode b_JO_init 18 = .ok (.bipush 6, 2) := by decide +kernel
theorem d_JO_init_20 : decode b_JO_init 20 = .ok (.multianewarray 9 2, 4) := by decide +kernel
theorem d_JO_init_24 : decode b_JO_init 24 = .ok (.putfield 16, 3) := by decide +kernel
theorem d_JO_init_27 : decode b_JO_init 27 = .ok (.aload_n 0, 1) := by decide +kernel
theorem d_JO_init_28 : decode b_JO_init 28 = .ok (.bipush 6, 2) := by decide +kernel
theorem d_JO_init_30 : decode b_JO_init 30 = .ok (.bipush 12, 2) := by decide +kernel
theorem d_JO_init_32 : decode b_JO_init 32 = .ok (.multianewarray 19 2, 4) := by decide +kernel
theorem d_JO_init_36 : decode b_JO_init 36 = .ok (.putfield 21, 3) := by decide +kernel
theorem d_JO_init_39 : decode b_JO_init 39 = .ok (.aload_n 0, 1) := by decide +kernel
theorem d_JO_init_40 : decode b_JO_init 40 = .ok (.bipush 64, 2) := by decide +kernel
theorem d_JO_init_42 : decode b_JO_init 42 = .ok (.newarray .int, 2) := by decide +kernel
theorem d_JO_init_44 : decode b_JO_init 44 = .ok (.putfield 24, 3) := by decide +kernel
theorem d_JO_init_47 : decode b_JO_init 47 = .ok (.aload_n 0, 1) := by decide +kernel
theorem d_JO_init_48 : decode b_JO_init 48 = .ok (.aload_n 1, 1) := by decide +kernel
theorem d_JO_init_49 : decode b_JO_init 49 = .ok (.putfield 28, 3) := by decide +kernel
theorem d_JO_init_52 : decode b_JO_init 52 = .ok (.aload_n 0, 1) := by decide +kernel
theorem d_JO_init_53 : decode b_JO_init 53 = .ok (.aload_n 2, 1) := by decide +kernel
theorem d_JO_init_54 : decode b_JO_init 54 = .ok (.putfield 32, 3) := by decide +kernel
theorem d_JO_init_57 : decode b_JO_init 57 = .ok (.return_, 1) := by decide +kernel
theorem d_JL_relation_0 : decode b_JL_relation 0 = .ok (.iload_n 1, 1) := by decide +kernel
theorem d_JL_relation_1 : decode b_JL_relation 1 = .ok (.iconst 1, 1) := by decide +kernel
theorem d_JL_relation_2 : decode b_JL_relation 2 = .ok (.if_icmp .lt 17, 3) := by decide +kernel
theorem d_JL_relation_5 : decode b_JL_relation 5 = .ok (.iload_n 1, 1) := by decide +kernel
theorem d_JL_relation_6 : decode b_JL_relation 6 = .ok (.iconst 3, 1) := by decide +kernel
theorem d_JL_relation_7 : decode b_JL_relation 7 = .ok (.if_icmp .gt 12, 3) := by decide +kernel
theorem d_JL_relation_10 : decode b_JL_relation 10 = .ok (.aload_n 0, 1) := by decide +kernel
theorem d_JL_relation_11 : decode b_JL_relation 11 = .ok (.getfield 43, 3) := by decide +kernel
theorem d_JL_relation_14 : decode b_JL_relation 14 = .ok (.bipush 6, 2) := by decide +kernel
theorem d_JL_relation_16 : decode b_JL_relation 16 = .ok (.if_icmp .ne 5, 3) := by decide +kernel
theorem d_JL_relation_19 : decode b_JL_relation 19 = .ok (.iconst (-1), 1) := by decide +kernel
theorem d_JL_relation_20 : decode b_JL_relation 20 = .ok (.ireturn, 1) := by decide +kernel
theorem d_JL_relation_21 : decode b_JL_relation 21 = .ok (.aload_n 0, 1) := by decide +kernel
theorem d_JL_relation_22 : decode b_JL_relation 22 = .ok (.getfield 11, 3) := by decide +kernel
theorem d_JL_relation_25 : decode b_JL_relation 25 = .ok (.aload_n 0, 1) := by decide +kernel
theorem d_JL_relation_26 : decode b_JL_relation 26 = .ok (.getfield 43, 3) := by decide +kernel
theorem d_JL_relation_29 : decode b_JL_relation 29 = .ok (.aaload, 1) := by decide +kernel
theorem d_JL_relation_30 : decode b_JL_relation 30 = .ok (.iload_n 1, 1) := by decide +kernel
theorem d_JL_relation_31 : decode b_JL_relation 31 = .ok (.putfield 47, 3) := by decide +kernel
theorem d_JL_relation_34 : decode b_JL_relation 34 = .ok (.aload_n 0, 1) := by decide +kernel
theorem d_JL_relation_35 : decode b_JL_relation 35 = .ok (.dup, 1) := by decide +kernel
theorem d_JL_relation_36 : decode b_JL_relation 36 = .ok (.getfield 43, 3) := by decide +kernel
theorem d_JL_relation_39 : decode b_JL_relation 39 = .ok (.iconst 1, 1) := by decide +kernel
theorem d_JL_relation_40 : decode b_JL_relation 40 = .ok (.iadd, 1) := by decide +kernel
theorem d_JL_relation_41 : decode b_JL_relation 41 = .ok (.putfield 43, 3) := by decide +kernel
theorem d_JL_relation_44 : decode b_JL_relation 44 = .ok (.aload_n 0, 1) := by decide +kernel
theorem d_JL_relation_45 : decode b_JL_relation 45 = .ok (.getfield 43, 3) := by decide +kernel
theorem d_JL_relation_48 : decode b_JL_relation 48 = .ok (.iconst 1, 1) := by decide +kernel
theorem d_JL_relation_49 : decode b_JL_relation 49 = .ok (.isub, 1) := by decide +kernel
theorem d_JL_relation_50 : decode b_JL_relation 50 = .ok (.ireturn, 1) := by decide +kernel
theorem d_JL_add_0 : decode b_JL_add 0 = .ok (.iload_n 1, 1) := by decide +kernel
theorem d_JL_add_1 : decode b_JL_add 1 = .ok (.aload_n 0, 1) := by decide +kernel
theorem d_JL_add_2 : decode b_JL_add 2 = .ok (.getfield 43, 3) := by decide +kernel
theorem d_JL_add_5 : decode b_JL_add 5 = .ok (.invokestatic 50, 3) := by decide +kernel
theorem d_JL_add_8 : decode b_JL_add 8 = .ok (.ifCond .eq 23, 3) := by decide +kernel
theorem d_JL_add_11 : decode b_JL_add 11 = .ok (.aload_n 0, 1) := by decide +kernel
theorem d_JL_add_12 : decode b_JL_add 12 = .ok (.getfield 11, 3) := by decide +kernel
theorem d_JL_add_15 : decode b_JL_add 15 = .ok (.iload_n 1, 1) := by decide +kernel
theorem d_JL_add_16 : decode b_JL_add 16 = .ok (.aaload, 1) := by decide +kernel
theorem d_JL_add_17 : decode b_JL_add 17 = .ok (.iload_n 2, 1) := by decide +kernel
theorem d_JL_add_18 : decode b_JL_add 18 = .ok (.iload_n 3, 1) := by decide +kernel
theorem d_JL_add_19 : decode b_JL_add 19 = .ok (.iload 4, 2) := by decide +kernel
theorem d_JL_add_21 : decode b_JL_add 21 = .ok (.invokevirtual 54, 3) := by decide +kernel
theorem d_JL_add_24 : decode b_JL_add 24 = .ok (.ifCond .eq 7, 3) := by decide +kernel
theorem d_JL_add_27 : decode b_JL_add 27 = .ok (.iconst 1, 1) := by decide +kernel
theorem d_JL_add_28 : decode b_JL_add 28 = .ok (.goto 4, 3) := by decide +kernel
theorem d_JL_add_31 : decode b_JL_add 31 = .ok (.iconst 0, 1) := by decide +kernel
theorem d_JL_add_32 : decode b_JL_add 32 = .ok (.ireturn, 1) := by decide +kernel
theorem d_JL_isBelow_0 : decode b_JL_isBelow 0 = .ok (.iload_n 0, 1) := by decide +kernel
theorem d_JL_isBelow_1 : decode b_JL_isBelow 1 = .ok (.ifCond .lt 12, 3) := by decide +kernel
theorem d_JL_isBelow_4 : decode b_JL_isBelow 4 = .ok (.iload_n 0, 1) := by decide +kernel
theorem d_JL_isBelow_5 : decode b_JL_isBelow 5 = .ok (.iload_n 1, 1) := by decide +kernel
theorem d_JL_isBelow_6 : decode b_JL_isBelow 6 = .ok (.if_icmp .ge 7, 3) := by decide +kernel
theorem d_JL_isBelow_9 : decode b_JL_isBelow 9 = .ok (.iconst 1, 1) := by decide +kernel
theorem d_JL_isBelow_10 : decode b_JL_isBelow 10 = .ok (.goto 4, 3) := by decide +kernel
theorem d_JL_isBelow_13 : decode b_JL_isBelow 13 = .ok (.iconst 0, 1) := by decide +kernel
theorem d_JL_isBelow_14 : decode b_JL_isBelow 14 = .ok (.ireturn, 1) := by decide +kernel
theorem d_RE_put_0 : decode b_RE_put 0 = .ok (.aload_n 0, 1) := by decide +kernel
theorem d_RE_put_1 : decode b_RE_put 1 = .ok (.iload_n 1, 1) := by decide +kernel
theorem d_RE_put_2 : decode b_RE_put 2 = .ok (.iload_n 2, 1) := by decide +kernel
theorem d_RE_put_3 : decode b_RE_put 3 = .ok (.iload_n 3, 1) := by decide +kernel
theorem d_RE_put_4 : decode b_RE_put 4 = .ok (.invokevirtual 15, 3) := by decide +kernel
theorem d_RE_put_7 : decode b_RE_put 7 = .ok (.istore 4, 2) := by decide +kernel
theorem d_RE_put_9 : decode b_RE_put 9 = .ok (.iload 4, 2) := by decide +kernel
theorem d_RE_put_11 : decode b_RE_put 11 = .ok (.iconst (-1), 1) := by decide +kernel
theorem d_RE_put_12 : decode b_RE_put 12 = .ok (.if_icmp .eq 22, 3) := by decide +kernel
theorem d_RE_put_15 : decode b_RE_put 15 = .ok (.aload_n 0, 1) := by decide +kernel
theorem d_RE_put_16 : decode b_RE_put 16 = .ok (.getfield 19, 3) := by decide +kernel
theorem d_RE_put_19 : decode b_RE_put 19 = .ok (.bipush 12, 2) := by decide +kernel
theorem d_RE_put_21 : decode b_RE_put 21 = .ok (.if_icmp .eq 13, 3) := by decide +kernel
theorem d_RE_put_24 : decode b_RE_put 24 = .ok (.aload_n 0, 1) := by decide +kernel
theorem d_RE_put_25 : decode b_RE_put 25 = .ok (.iload 4, 2) := by decide +kernel
theorem d_RE_put_27 : decode b_RE_put 27 = .ok (.invokevirtual 23, 3) := by decide +kernel
theorem d_RE_put_30 : decode b_RE_put 30 = .ok (.iconst (-1), 1) := by decide +kernel
theorem d_RE_put_31 : decode b_RE_put 31 = .ok (.if_icmp .eq 5, 3) := by decide +kernel
theorem d_RE_put_34 : decode b_RE_put 34 = .ok (.iconst 0, 1) := by decide +kernel
theorem d_RE_put_35 : decode b_RE_put 35 = .ok (.ireturn, 1) := by decide +kernel
theorem d_RE_put_36 : decode b_RE_put 36 = .ok (.aload_n 0, 1) := by decide +kernel
theorem d_RE_put_37 : decode b_RE_put 37 = .ok (.getfield 9, 3) := by decide +kernel
theorem d_RE_put_40 : decode b_RE_put 40 = .ok (.aload_n 0, 1) := by decide +kernel
theorem d_RE_put_41 : decode b_RE_put 41 = .ok (.getfield 19, 3) := by decide +kernel
theorem d_RE_put_44 : decode b_RE_put 44 = .ok (.iload 4, 2) := by decide +kernel
theorem d_RE_put_46 : decode b_RE_put 46 = .ok (.iastore, 1) := by decide +kernel
theorem d_RE_put_47 : decode b_RE_put 47 = .ok (.aload_n 0, 1) := by decide +kernel
theorem d_RE_put_48 : decode b_RE_put 48 = .ok (.dup, 1) := by decide +kernel
theorem d_RE_put_49 : decode b_RE_put 49 = .ok (.getfield 19, 3) := by decide +kernel
theorem d_RE_put_52 : decode b_RE_put 52 = .ok (.iconst 1, 1) := by decide +kernel
theorem d_RE_put_53 : decode b_RE_put 53 = .ok (.iadd, 1) := by decide +kernel
theorem d_RE_put_54 : decode b_RE_put 54 = .ok (.putfield 19, 3) := by decide +kernel
theorem d_RE_put_57 : decode b_RE_put 57 = .ok (.iconst 1, 1) := by decide +kernel
theorem d_RE_put_58 : decode b_RE_put 58 = .ok (.ireturn, 1) := by decide +kernel
theorem d_RE_pack_0 : decode b_RE_pack 0 = .ok (.aload_n 0, 1) := by decide +kernel
theorem d_RE_pack_1 : decode b_RE_pack 1 = .ok (.getfield 27, 3) := by decide +kernel
theorem d_RE_pack_4 : decode b_RE_pack 4 = .ok (.iconst 1, 1) := by decide +kernel
theorem d_RE_pack_5 : decode b_RE_pack 5 = .ok (.if_icmp .le 7, 3) := by decide +kernel
theorem d_RE_pack_8 : decode b_RE_pack 8 = .ok (.iload_n 2, 1) := by decide +kernel
theorem d_RE_pack_9 : decode b_RE_pack 9 = .ok (.goto 4, 3) := by decide +kernel
theorem d_RE_pack_12 : decode b_RE_pack 12 = .ok (.iload_n 1, 1) := by decide +kernel
theorem d_RE_pack_13 : decode b_RE_pack 13 = .ok (.istore 4, 2) := by decide +kernel
theorem d_RE_pack_15 : decode b_RE_pack 15 = .ok (.aload_n 0, 1) := by decide +kernel
theorem d_RE_pack_16 : decode b_RE_pack 16 = .ok (.getfield 27, 3) := by decide +kernel
theorem d_RE_pack_19 : decode b_RE_pack 19 = .ok (.iconst 2, 1) := by decide +kernel
theorem d_RE_pack_20 : decode b_RE_pack 20 = .ok (.if_icmp .le 7, 3) := by decide +kernel
theorem d_RE_pack_23 : decode b_RE_pack 23 = .ok (.iload_n 3, 1) := by decide +kernel
theorem d_RE_pack_24 : decode b_RE_pack 24 = .ok (.goto 4, 3) := by decide +kernel
theorem d_RE_pack_27 : decode b_RE_pack 27 = .ok (.iload_n 1, 1) := by decide +kernel
theorem d_RE_pack_28 : decode b_RE_pack 28 = .ok (.istore 5, 2) := by decide +kernel
theorem d_RE_pack_30 : decode b_RE_pack 30 = .ok (.iload_n 1, 1) := by decide +kernel
theorem d_RE_pack_31 : decode b_RE_pack 31 = .ok (.bipush 16, 2) := by decide +kernel
theorem d_RE_pack_33 : decode b_RE_pack 33 = .ok (.invokestatic 30, 3) := by decide +kernel
theorem d_RE_pack_36 : decode b_RE_pack 36 = .ok (.ifCond .eq 23, 3) := by decide +kernel
theorem d_RE_pack_39 : decode b_RE_pack 39 = .ok (.iload 4, 2) := by decide +kernel
theorem d_RE_pack_41 : decode b_RE_pack 41 = .ok (.bipush 16, 2) := by decide +kernel
theorem d_RE_pack_43 : decode b_RE_pack 43 = .ok (.invokestatic 30, 3) := by decide +kernel
theorem d_RE_pack_46 : decode b_RE_pack 46 = .ok (.ifCond .eq 13, 3) := by decide +kernel
theorem d_RE_pack_49 : decode b_RE_pack 49 = .ok (.iload 5, 2) := by decide +kernel
theorem d_RE_pack_51 : decode b_RE_pack 51 = .ok (.bipush 16, 2) := by decide +kernel
theorem d_RE_pack_53 : decode b_RE_pack 53 = .ok (.invokestatic 30, 3) := by decide +kernel
theorem d_RE_pack_56 : decode b_RE_pack 56 = .ok (.ifCond .ne 5, 3) := by decide +kernel
theorem d_RE_pack_59 : decode b_RE_pack 59 = .ok (.iconst (-1), 1) := by decide +kernel
theorem d_RE_pack_60 : decode b_RE_pack 60 = .ok (.ireturn, 1) := by decide +kernel
theorem d_RE_pack_61 : decode b_RE_pack 61 = .ok (.iload_n 1, 1) := by decide +kernel
theorem d_RE_pack_62 : decode b_RE_pack 62 = .ok (.iload 4, 2) := by decide +kernel
theorem d_RE_pack_64 : decode b_RE_pack 64 = .ok (.iconst 4, 1) := by decide +kernel
theorem d_RE_pack_65 : decode b_RE_pack 65 = .ok (.ishl, 1) := by decide +kernel
theorem d_RE_pack_66 : decode b_RE_pack 66 = .ok (.ior, 1) := by decide +kernel
theorem d_RE_pack_67 : decode b_RE_pack 67 = .ok (.iload 5, 2) := by decide +kernel
theorem d_RE_pack_69 : decode b_RE_pack 69 = .ok (.bipush 8, 2) := by decide +kernel
theorem d_RE_pack_71 : decode b_RE_pack 71 = .ok (.ishl, 1) := by decide +kernel
theorem d_RE_pack_72 : decode b_RE_pack 72 = .ok (.ior, 1) := by decide +kernel
theorem d_RE_pack_73 : decode b_RE_pack 73 = .ok (.ireturn, 1) := by decide +kernel
theorem d_RE_placeOf_0 : decode b_RE_placeOf 0 = .ok (.iconst 0, 1) := by decide +kernel
theorem d_RE_placeOf_1 : decode b_RE_placeOf 1 = .ok (.istore_n 2, 1) := by decide +kernel
theorem d_RE_placeOf_2 : decode b_RE_placeOf 2 = .ok (.iload_n 2, 1) := by decide +kernel
theorem d_RE_placeOf_3 : decode b_RE_placeOf 3 = .ok (.aload_n 0, 1) := by decide +kernel
theorem d_RE_placeOf_4 : decode b_RE_placeOf 4 = .ok (.getfield 19, 3) := by decide +kernel
theorem d_RE_placeOf_7 : decode b_RE_placeOf 7 = .ok (.if_icmp .ge 21, 3) := by decide +kernel
theorem d_RE_placeOf_10 : decode b_RE_placeOf 10 = .ok (.aload_n 0, 1) := by decide +kernel
theorem d_RE_placeOf_11 : decode b_RE_placeOf 11 = .ok (.getfield 9, 3) := by decide +kernel
theorem d_RE_placeOf_14 : decode b_RE_placeOf 14 = .ok (.iload_n 2, 1) := by decide +kernel
theorem d_RE_placeOf_15 : decode b_RE_placeOf 15 = .ok (.iaload, 1) := by decide +kernel
theorem d_RE_placeOf_16 : decode b_RE_placeOf 16 = .ok (.iload_n 1, 1) := by decide +kernel
theorem d_RE_placeOf_17 : decode b_RE_placeOf 17 = .ok (.if_icmp .ne 5, 3) := by decide +kernel
theorem d_RE_placeOf_20 : decode b_RE_placeOf 20 = .ok (.iload_n 2, 1) := by decide +kernel
theorem d_RE_placeOf_21 : decode b_RE_placeOf 21 = .ok (.ireturn, 1) := by decide +kernel
theorem d_RE_placeOf_22 : decode b_RE_placeOf 22 = .ok (.iinc 2 1, 3) := by decide +kernel
theorem d_RE_placeOf_25 : decode b_RE_placeOf 25 = .ok (.goto (-23), 3) := by decide +kernel
theorem d_RE_placeOf_28 : decode b_RE_placeOf 28 = .ok (.iconst (-1), 1) := by decide +kernel
theorem d_RE_placeOf_29 : decode b_RE_placeOf 29 = .ok (.ireturn, 1) := by decide +kernel
theorem d_JL_drop_0 : decode b_JL_drop 0 = .ok (.iload_n 1, 1) := by decide +kernel
theorem d_JL_drop_1 : decode b_JL_drop 1 = .ok (.aload_n 0, 1) := by decide +kernel
theorem d_JL_drop_2 : decode b_JL_drop 2 = .ok (.getfield 43, 3) := by decide +kernel
theorem d_JL_drop_5 : decode b_JL_drop 5 = .ok (.invokestatic 50, 3) := by decide +kernel
theorem d_JL_drop_8 : decode b_JL_drop 8 = .ok (.ifCond .eq 23, 3) := by decide +kernel
theorem d_JL_drop_11 : decode b_JL_drop 11 = .ok (.aload_n 0, 1) := by decide +kernel
theorem d_JL_drop_12 : decode b_JL_drop 12 = .ok (.getfield 11, 3) := by decide +kernel
theorem d_JL_drop_15 : decode b_JL_drop 15 = .ok (.iload_n 1, 1) := by decide +kernel
theorem d_JL_drop_16 : decode b_JL_drop 16 = .ok (.aaload, 1) := by decide +kernel
theorem d_JL_drop_17 : decode b_JL_drop 17 = .ok (.iload_n 2, 1) := by decide +kernel
theorem d_JL_drop_18 : decode b_JL_drop 18 = .ok (.iload_n 3, 1) := by decide +kernel
theorem d_JL_drop_19 : decode b_JL_drop 19 = .ok (.iload 4, 2) := by decide +kernel
theorem d_JL_drop_21 : decode b_JL_drop 21 = .ok (.invokevirtual 58, 3) := by decide +kernel
theorem d_JL_drop_24 : decode b_JL_drop 24 = .ok (.ifCond .eq 7, 3) := by decide +kernel
theorem d_JL_drop_27 : decode b_JL_drop 27 = .ok (.iconst 1, 1) := by decide +kernel
theorem d_JL_drop_28 : decode b_JL_drop 28 = .ok (.goto 4, 3) := by decide +kernel
theorem d_JL_drop_31 : decode b_JL_drop 31 = .ok (.iconst 0, 1) := by decide +kernel
theorem d_JL_drop_32 : decode b_JL_drop 32 = .ok (.ireturn, 1) := by decide +kernel
theorem d_RE_take_0 : decode b_RE_take 0 = .ok (.aload_n 0, 1) := by decide +kernel
theorem d_RE_take_1 : decode b_RE_take 1 = .ok (.aload_n 0, 1) := by decide +kernel
theorem d_RE_take_2 : decode b_RE_take 2 = .ok (.iload_n 1, 1) := by decide +kernel
theorem d_RE_take_3 : decode b_RE_take 3 = .ok (.iload_n 2, 1) := by decide +kernel
theorem d_RE_take_4 : decode b_RE_take 4 = .ok (.iload_n 3, 1) := by decide +kernel
theorem d_RE_take_5 : decode b_RE_take 5 = .ok (.invokevirtual 15, 3) := by decide +kernel
theorem d_RE_take_8 : decode b_RE_take 8 = .ok (.invokevirtual 23, 3) := by decide +kernel
theorem d_RE_take_11 : decode b_RE_take 11 = .ok (.istore 4, 2) := by decide +kernel
theorem d_RE_take_13 : decode b_RE_take 13 = .ok (.iload 4, 2) := by decide +kernel
theorem d_RE_take_15 : decode b_RE_take 15 = .ok (.iconst (-1), 1) := by decide +kernel
theorem d_RE_take_16 : decode b_RE_take 16 = .ok (.if_icmp .ne 5, 3) := by decide +kernel
theorem d_RE_take_19 : decode b_RE_take 19 = .ok (.iconst 0, 1) := by decide +kernel
theorem d_RE_take_20 : decode b_RE_take 20 = .ok (.ireturn, 1) := by decide +kernel
theorem d_RE_take_21 : decode b_RE_take 21 = .ok (.aload_n 0, 1) := by decide +kernel
theorem d_RE_take_22 : decode b_RE_take 22 = .ok (.dup, 1) := by decide +kernel
theorem d_RE_take_23 : decode b_RE_take 23 = .ok (.getfield 19, 3) := by decide +kernel
theorem d_RE_take_26 : decode b_RE_take 26 = .ok (.iconst 1, 1) := by decide +kernel
theorem d_RE_take_27 : decode b_RE_take 27 = .ok (.isub, 1) := by decide +kernel
theorem d_RE_take_28 : decode b_RE_take 28 = .ok (.putfield 19, 3) := by decide +kernel
theorem d_RE_take_31 : decode b_RE_take 31 = .ok (.aload_n 0, 1) := by decide +kernel
theorem d_RE_take_32 : decode b_RE_take 32 = .ok (.getfield 9, 3) := by decide +kernel
theorem d_RE_take_35 : decode b_RE_take 35 = .ok (.iload 4, 2) := by decide +kernel
theorem d_RE_take_37 : decode b_RE_take 37 = .ok (.aload_n 0, 1) := by decide +kernel
theorem d_RE_take_38 : decode b_RE_take 38 = .ok (.getfield 9, 3) := by decide +kernel
theorem d_RE_take_41 : decode b_RE_take 41 = .ok (.aload_n 0, 1) := by decide +kernel
theorem d_RE_take_42 : decode b_RE_take 42 = .ok (.getfield 19, 3) := by decide +kernel
theorem d_RE_take_45 : decode b_RE_take 45 = .ok (.iaload, 1) := by decide +kernel
theorem d_RE_take_46 : decode b_RE_take 46 = .ok (.iastore, 1) := by decide +kernel
theorem d_RE_take_47 : decode b_RE_take 47 = .ok (.iconst 1, 1) := by decide +kernel
theorem d_RE_take_48 : decode b_RE_take 48 = .ok (.ireturn, 1) := by decide +kernel
theorem d_JL_rows_0 : decode b_JL_rows 0 = .ok (.iload_n 1, 1) := by decide +kernel
theorem d_JL_rows_1 : decode b_JL_rows 1 = .ok (.aload_n 0, 1) := by decide +kernel
theorem d_JL_rows_2 : decode b_JL_rows 2 = .ok (.getfield 43, 3) := by decide +kernel
theorem d_JL_rows_5 : decode b_JL_rows 5 = .ok (.invokestatic 50, 3) := by decide +kernel
theorem d_JL_rows_8 : decode b_JL_rows 8 = .ok (.ifCond .eq 15, 3) := by decide +kernel
theorem d_JL_rows_11 : decode b_JL_rows 11 = .ok (.aload_n 0, 1) := by decide +kernel
theorem d_JL_rows_12 : decode b_JL_rows 12 = .ok (.getfield 11, 3) := by decide +kernel
theorem d_JL_rows_15 : decode b_JL_rows 15 = .ok (.iload_n 1, 1) := by decide +kernel
theorem d_JL_rows_16 : decode b_JL_rows 16 = .ok (.aaload, 1) := by decide +kernel
theorem d_JL_rows_17 : decode b_JL_rows 17 = .ok (.getfield 61, 3) := by decide +kernel
theorem d_JL_rows_20 : decode b_JL_rows 20 = .ok (.goto 4, 3) := by decide +kernel
theorem d_JL_rows_23 : decode b_JL_rows 23 = .ok (.iconst (-1), 1) := by decide +kernel
theorem d_JL_rows_24 : decode b_JL_rows 24 = .ok (.ireturn, 1) := by decide +kernel
theorem d_JL_atom_0 : decode b_JL_atom 0 = .ok (.iload_n 1, 1) := by decide +kernel
theorem d_JL_atom_1 : decode b_JL_atom 1 = .ok (.aload_n 0, 1) := by decide +kernel
theorem d_JL_atom_2 : decode b_JL_atom 2 = .ok (.getfield 43, 3) := by decide +kernel
theorem d_JL_atom_5 : decode b_JL_atom 5 = .ok (.invokestatic 50, 3) := by decide +kernel
theorem d_JL_atom_8 : decode b_JL_atom 8 = .ok (.ifCond .eq 23, 3) := by decide +kernel
theorem d_JL_atom_11 : decode b_JL_atom 11 = .ok (.aload_n 0, 1) := by decide +kernel
theorem d_JL_atom_12 : decode b_JL_atom 12 = .ok (.getfield 21, 3) := by decide +kernel
theorem d_JL_atom_15 : decode b_JL_atom 15 = .ok (.aload_n 0, 1) := by decide +kernel
theorem d_JL_atom_16 : decode b_JL_atom 16 = .ok (.getfield 11, 3) := by decide +kernel
theorem d_JL_atom_19 : decode b_JL_atom 19 = .ok (.iload_n 1, 1) := by decide +kernel
theorem d_JL_atom_20 : decode b_JL_atom 20 = .ok (.aaload, 1) := by decide +kernel
theorem d_JL_atom_21 : decode b_JL_atom 21 = .ok (.iload_n 2, 1) := by decide +kernel
theorem d_JL_atom_22 : decode b_JL_atom 22 = .ok (.iload_n 3, 1) := by decide +kernel
theorem d_JL_atom_23 : decode b_JL_atom 23 = .ok (.iload 4, 2) := by decide +kernel
theorem d_JL_atom_25 : decode b_JL_atom 25 = .ok (.invokevirtual 64, 3) := by decide +kernel
theorem d_JL_atom_28 : decode b_JL_atom 28 = .ok (.ifCond .ne 5, 3) := by decide +kernel
theorem d_JL_atom_31 : decode b_JL_atom 31 = .ok (.iconst (-1), 1) := by decide +kernel
theorem d_JL_atom_32 : decode b_JL_atom 32 = .ok (.ireturn, 1) := by decide +kernel
theorem d_JL_atom_33 : decode b_JL_atom 33 = .ok (.aload_n 0, 1) := by decide +kernel
theorem d_JL_atom_34 : decode b_JL_atom 34 = .ok (.getfield 30, 3) := by decide +kernel
theorem d_JL_atom_37 : decode b_JL_atom 37 = .ok (.invokevirtual 68, 3) := by decide +kernel
theorem d_JL_atom_40 : decode b_JL_atom 40 = .ok (.aload_n 0, 1) := by decide +kernel
theorem d_JL_atom_41 : decode b_JL_atom 41 = .ok (.getfield 21, 3) := by decide +kernel
theorem d_JL_atom_44 : decode b_JL_atom 44 = .ok (.getfield 71, 3) := by decide +kernel
theorem d_JL_atom_47 : decode b_JL_atom 47 = .ok (.iconst 1, 1) := by decide +kernel
theorem d_JL_atom_48 : decode b_JL_atom 48 = .ok (.isub, 1) := by decide +kernel
theorem d_JL_atom_49 : decode b_JL_atom 49 = .ok (.ireturn, 1) := by decide +kernel
theorem d_QU_putAtom_0 : decode b_QU_putAtom 0 = .ok (.aload_n 0, 1) := by decide +kernel
theorem d_QU_putAtom_1 : decode b_QU_putAtom 1 = .ok (.getfield 24, 3) := by decide +kernel
theorem d_QU_putAtom_4 : decode b_QU_putAtom 4 = .ok (.bipush 6, 2) := by decide +kernel
theorem d_QU_putAtom_6 : decode b_QU_putAtom 6 = .ok (.if_icmp .eq 23, 3) := by decide +kernel
theorem d_QU_putAtom_9 : decode b_QU_putAtom 9 = .ok (.aload_n 0, 1) := by decide +kernel
theorem d_QU_putAtom_10 : decode b_QU_putAtom 10 = .ok (.getfield 11, 3) := by decide +kernel
theorem d_QU_putAtom_13 : decode b_QU_putAtom 13 = .ok (.aload_n 0, 1) := by decide +kernel
theorem d_QU_putAtom_14 : decode b_QU_putAtom 14 = .ok (.getfield 24, 3) := by decide +kernel
theorem d_QU_putAtom_17 : decode b_QU_putAtom 17 = .ok (.aaload, 1) := by decide +kernel
theorem d_QU_putAtom_18 : decode b_QU_putAtom 18 = .ok (.aload_n 1, 1) := by decide +kernel
theorem d_QU_putAtom_19 : decode b_QU_putAtom 19 = .ok (.iload_n 2, 1) := by decide +kernel
theorem d_QU_putAtom_20 : decode b_QU_putAtom 20 = .ok (.iload_n 3, 1) := by decide +kernel
theorem d_QU_putAtom_21 : decode b_QU_putAtom 21 = .ok (.iload 4, 2) := by decide +kernel
theorem d_QU_putAtom_23 : decode b_QU_putAtom 23 = .ok (.invokevirtual 28, 3) := by decide +kernel
theorem d_QU_putAtom_26 : decode b_QU_putAtom 26 = .ok (.ifCond .ne 5, 3) := by decide +kernel
theorem d_QU_putAtom_29 : decode b_QU_putAtom 29 = .ok (.iconst 0, 1) := by decide +kernel
theorem d_QU_putAtom_30 : decode b_QU_putAtom 30 = .ok (.ireturn, 1) := by decide +kernel
theorem d_QU_putAtom_31 : decode b_QU_putAtom 31 = .ok (.aload_n 0, 1) := by decide +kernel
theorem d_QU_putAtom_32 : decode b_QU_putAtom 32 = .ok (.dup, 1) := by decide +kernel
theorem d_QU_putAtom_33 : decode b_QU_putAtom 33 = .ok (.getfield 24, 3) := by decide +kernel
theorem d_QU_putAtom_36 : decode b_QU_putAtom 36 = .ok (.iconst 1, 1) := by decide +kernel
theorem d_QU_putAtom_37 : decode b_QU_putAtom 37 = .ok (.iadd, 1) := by decide +kernel
theorem d_QU_putAtom_38 : decode b_QU_putAtom 38 = .ok (.putfield 24, 3) := by decide +kernel
theorem d_QU_putAtom_41 : decode b_QU_putAtom 41 = .ok (.iconst 1, 1) := by decide +kernel
theorem d_QU_putAtom_42 : decode b_QU_putAtom 42 = .ok (.ireturn, 1) := by decide +kernel
theorem d_AT_bind_0 : decode b_AT_bind 0 = .ok (.aload_n 1, 1) := by decide +kernel
theorem d_AT_bind_1 : decode b_AT_bind 1 = .ok (.getfield 19, 3) := by decide +kernel
theorem d_AT_bind_4 : decode b_AT_bind 4 = .ok (.iconst 1, 1) := by decide +kernel
theorem d_AT_bind_5 : decode b_AT_bind 5 = .ok (.if_icmp .le 7, 3) := by decide +kernel
theorem d_AT_bind_8 : decode b_AT_bind 8 = .ok (.iload_n 3, 1) := by decide +kernel
theorem d_AT_bind_9 : decode b_AT_bind 9 = .ok (.goto 4, 3) := by decide +kernel
theorem d_AT_bind_12 : decode b_AT_bind 12 = .ok (.iload_n 2, 1) := by decide +kernel
theorem d_AT_bind_13 : decode b_AT_bind 13 = .ok (.istore 5, 2) := by decide +kernel
theorem d_AT_bind_15 : decode b_AT_bind 15 = .ok (.aload_n 1, 1) := by decide +kernel
theorem d_AT_bind_16 : decode b_AT_bind 16 = .ok (.getfield 19, 3) := by decide +kernel
theorem d_AT_bind_19 : decode b_AT_bind 19 = .ok (.iconst 2, 1) := by decide +kernel
theorem d_AT_bind_20 : decode b_AT_bind 20 = .ok (.if_icmp .le 8, 3) := by decide +kernel
theorem d_AT_bind_23 : decode b_AT_bind 23 = .ok (.iload 4, 2) := by decide +kernel
theorem d_AT_bind_25 : decode b_AT_bind 25 = .ok (.goto 4, 3) := by decide +kernel
theorem d_AT_bind_28 : decode b_AT_bind 28 = .ok (.iload_n 2, 1) := by decide +kernel
theorem d_AT_bind_29 : decode b_AT_bind 29 = .ok (.istore 6, 2) := by decide +kernel
theorem d_AT_bind_31 : decode b_AT_bind 31 = .ok (.iload_n 2, 1) := by decide +kernel
theorem d_AT_bind_32 : decode b_AT_bind 32 = .ok (.bipush 8, 2) := by decide +kernel
theorem d_AT_bind_34 : decode b_AT_bind 34 = .ok (.invokestatic 25, 3) := by decide +kernel
theorem d_AT_bind_37 : decode b_AT_bind 37 = .ok (.ifCond .eq 23, 3) := by decide +kernel
theorem d_AT_bind_40 : decode b_AT_bind 40 = .ok (.iload 5, 2) := by decide +kernel
theorem d_AT_bind_42 : decode b_AT_bind 42 = .ok (.bipush 8, 2) := by decide +kernel
theorem d_AT_bind_44 : decode b_AT_bind 44 = .ok (.invokestatic 25, 3) := by decide +kernel
theorem d_AT_bind_47 : decode b_AT_bind 47 = .ok (.ifCond .eq 13, 3) := by decide +kernel
theorem d_AT_bind_50 : decode b_AT_bind 50 = .ok (.iload 6, 2) := by decide +kernel
theorem d_AT_bind_52 : decode b_AT_bind 52 = .ok (.bipush 8, 2) := by decide +kernel
theorem d_AT_bind_54 : decode b_AT_bind 54 = .ok (.invokestatic 25, 3) := by decide +kernel
theorem d_AT_bind_57 : decode b_AT_bind 57 = .ok (.ifCond .ne 5, 3) := by decide +kernel
theorem d_AT_bind_60 : decode b_AT_bind 60 = .ok (.iconst 0, 1) := by decide +kernel
theorem d_AT_bind_61 : decode b_AT_bind 61 = .ok (.ireturn, 1) := by decide +kernel
theorem d_AT_bind_62 : decode b_AT_bind 62 = .ok (.aload_n 0, 1) := by decide +kernel
theorem d_AT_bind_63 : decode b_AT_bind 63 = .ok (.aload_n 1, 1) := by decide +kernel
theorem d_AT_bind_64 : decode b_AT_bind 64 = .ok (.putfield 15, 3) := by decide +kernel
theorem d_AT_bind_67 : decode b_AT_bind 67 = .ok (.aload_n 0, 1) := by decide +kernel
theorem d_AT_bind_68 : decode b_AT_bind 68 = .ok (.getfield 9, 3) := by decide +kernel
theorem d_AT_bind_71 : decode b_AT_bind 71 = .ok (.iconst 0, 1) := by decide +kernel
theorem d_AT_bind_72 : decode b_AT_bind 72 = .ok (.iload_n 2, 1) := by decide +kernel
theorem d_AT_bind_73 : decode b_AT_bind 73 = .ok (.iastore, 1) := by decide +kernel
theorem d_AT_bind_74 : decode b_AT_bind 74 = .ok (.aload_n 0, 1) := by decide +kernel
theorem d_AT_bind_75 : decode b_AT_bind 75 = .ok (.getfield 9, 3) := by decide +kernel
theorem d_AT_bind_78 : decode b_AT_bind 78 = .ok (.iconst 1, 1) := by decide +kernel
theorem d_AT_bind_79 : decode b_AT_bind 79 = .ok (.iload 5, 2) := by decide +kernel
theorem d_AT_bind_81 : decode b_AT_bind 81 = .ok (.iastore, 1) := by decide +kernel
theorem d_AT_bind_82 : decode b_AT_bind 82 = .ok (.aload_n 0, 1) := by decide +kernel
theorem d_AT_bind_83 : decode b_AT_bind 83 = .ok (.getfield 9, 3) := by decide +kernel
theorem d_AT_bind_86 : decode b_AT_bind 86 = .ok (.iconst 2, 1) := by decide +kernel
theorem d_AT_bind_87 : decode b_AT_bind 87 = .ok (.iload 6, 2) := by decide +kernel
theorem d_AT_bind_89 : decode b_AT_bind 89 = .ok (.iastore, 1) := by decide +kernel
theorem d_AT_bind_90 : decode b_AT_bind 90 = .ok (.aload_n 0, 1) := by decide +kernel
theorem d_AT_bind_91 : decode b_AT_bind 91 = .ok (.iconst 1, 1) := by decide +kernel
theorem d_AT_bind_92 : decode b_AT_bind 92 = .ok (.iload_n 2, 1) := by decide +kernel
theorem d_AT_bind_93 : decode b_AT_bind 93 = .ok (.ishl, 1) := by decide +kernel
theorem d_AT_bind_94 : decode b_AT_bind 94 = .ok (.iconst 1, 1) := by decide +kernel
theorem d_AT_bind_95 : decode b_AT_bind 95 = .ok (.iload 5, 2) := by decide +kernel
theorem d_AT_bind_97 : decode b_AT_bind 97 = .ok (.ishl, 1) := by decide +kernel
theorem d_AT_bind_98 : decode b_AT_bind 98 = .ok (.ior, 1) := by decide +kernel
theorem d_AT_bind_99 : decode b_AT_bind 99 = .ok (.iconst 1, 1) := by decide +kernel
theorem d_AT_bind_100 : decode b_AT_bind 100 = .ok (.iload 6, 2) := by decide +kernel
theorem d_AT_bind_102 : decode b_AT_bind 102 = .ok (.ishl, 1) := by decide +kernel
theorem d_AT_bind_103 : decode b_AT_bind 103 = .ok (.ior, 1) := by decide +kernel
theorem d_AT_bind_104 : decode b_AT_bind 104 = .ok (.putfield 29, 3) := by decide +kernel
theorem d_AT_bind_107 : decode b_AT_bind 107 = .ok (.iconst 1, 1) := by decide +kernel
theorem d_AT_bind_108 : decode b_AT_bind 108 = .ok (.ireturn, 1) := by decide +kernel
theorem d_HA_hangAtoms_0 : decode b_HA_hangAtoms 0 = .ok (.aload_n 0, 1) := by decide +kernel
theorem d_HA_hangAtoms_1 : decode b_HA_hangAtoms 1 = .ok (.iconst 1, 1) := by decide +kernel
theorem d_HA_hangAtoms_2 : decode b_HA_hangAtoms 2 = .ok (.aload_n 0, 1) := by decide +kernel
theorem d_HA_hangAtoms_3 : decode b_HA_hangAtoms 3 = .ok (.getfield 21, 3) := by decide +kernel
theorem d_HA_hangAtoms_6 : decode b_HA_hangAtoms 6 = .ok (.getfield 25, 3) := by decide +kernel
theorem d_HA_hangAtoms_9 : decode b_HA_hangAtoms 9 = .ok (.ishl, 1) := by decide +kernel
theorem d_HA_hangAtoms_10 : decode b_HA_hangAtoms 10 = .ok (.iconst 1, 1) := by decide +kernel
theorem d_HA_hangAtoms_11 : decode b_HA_hangAtoms 11 = .ok (.isub, 1) := by decide +kernel
theorem d_HA_hangAtoms_12 : decode b_HA_hangAtoms 12 = .ok (.putfield 34, 3) := by decide +kernel
theorem d_HA_hangAtoms_15 : decode b_HA_hangAtoms 15 = .ok (.aload_n 0, 1) := by decide +kernel
theorem d_HA_hangAtoms_16 : decode b_HA_hangAtoms 16 = .ok (.iconst 0, 1) := by decide +kernel
theorem d_HA_hangAtoms_17 : decode b_HA_hangAtoms 17 = .ok (.putfield 31, 3) := by decide +kernel
theorem d_HA_hangAtoms_20 : decode b_HA_hangAtoms 20 = .ok (.iconst 0, 1) := by decide +kernel
theorem d_HA_hangAtoms_21 : decode b_HA_hangAtoms 21 = .ok (.istore_n 1, 1) := by decide +kernel
theorem d_HA_hangAtoms_22 : decode b_HA_hangAtoms 22 = .ok (.iload_n 1, 1) := by decide +kernel
theorem d_HA_hangAtoms_23 : decode b_HA_hangAtoms 23 = .ok (.bipush 6, 2) := by decide +kernel
theorem d_HA_hangAtoms_25 : decode b_HA_hangAtoms 25 = .ok (.if_icmp .ge 23, 3) := by decide +kernel
theorem d_HA_hangAtoms_28 : decode b_HA_hangAtoms 28 = .ok (.aload_n 0, 1) := by decide +kernel
theorem d_HA_hangAtoms_29 : decode b_HA_hangAtoms 29 = .ok (.getfield 9, 3) := by decide +kernel
theorem d_HA_hangAtoms_32 : decode b_HA_hangAtoms 32 = .ok (.iload_n 1, 1) := by decide +kernel
theorem d_HA_hangAtoms_33 : decode b_HA_hangAtoms 33 = .ok (.iconst (-1), 1) := by decide +kernel
theorem d_HA_hangAtoms_34 : decode b_HA_hangAtoms 34 = .ok (.iastore, 1) := by decide +kernel
theorem d_HA_hangAtoms_35 : decode b_HA_hangAtoms 35 = .ok (.aload_n 0, 1) := by decide +kernel
theorem d_HA_hangAtoms_36 : decode b_HA_hangAtoms 36 = .ok (.getfield 15, 3) := by decide +kernel
theorem d_HA_hangAtoms_39 : decode b_HA_hangAtoms 39 = .ok (.iload_n 1, 1) := by decide +kernel
theorem d_HA_hangAtoms_40 : decode b_HA_hangAtoms 40 = .ok (.iconst (-1), 1) := by decide +kernel
theorem d_HA_hangAtoms_41 : decode b_HA_hangAtoms 41 = .ok (.iastore, 1) := by decide +kernel
theorem d_HA_hangAtoms_42 : decode b_HA_hangAtoms 42 = .ok (.iinc 1 1, 3) := by decide +kernel
theorem d_HA_hangAtoms_45 : decode b_HA_hangAtoms 45 = .ok (.goto (-23), 3) := by decide +kernel
theorem d_HA_hangAtoms_48 : decode b_HA_hangAtoms 48 = .ok (.iconst 0, 1) := by decide +kernel
theorem d_HA_hangAtoms_49 : decode b_HA_hangAtoms 49 = .ok (.istore_n 1, 1) := by decide +kernel
theorem d_HA_hangAtoms_50 : decode b_HA_hangAtoms 50 = .ok (.iload_n 1, 1) := by decide +kernel
theorem d_HA_hangAtoms_51 : decode b_HA_hangAtoms 51 = .ok (.aload_n 0, 1) := by decide +kernel
theorem d_HA_hangAtoms_52 : decode b_HA_hangAtoms 52 = .ok (.getfield 21, 3) := by decide +kernel
theorem d_HA_hangAtoms_55 : decode b_HA_hangAtoms 55 = .ok (.getfield 25, 3) := by decide +kernel
theorem d_HA_hangAtoms_58 : decode b_HA_hangAtoms 58 = .ok (.if_icmp .ge 13, 3) := by decide +kernel
theorem d_HA_hangAtoms_61 : decode b_HA_hangAtoms 61 = .ok (.aload_n 0, 1) := by decide +kernel
theorem d_HA_hangAtoms_62 : decode b_HA_hangAtoms 62 = .ok (.invokevirtual 41, 3) := by decide +kernel
theorem d_HA_hangAtoms_65 : decode b_HA_hangAtoms 65 = .ok (.iinc 1 1, 3) := by decide +kernel
theorem d_HA_hangAtoms_68 : decode b_HA_hangAtoms 68 = .ok (.goto (-18), 3) := by decide +kernel
theorem d_HA_hangAtoms_71 : decode b_HA_hangAtoms 71 = .ok (.return_, 1) := by decide +kernel
theorem d_HA_hangLeastEar_0 : decode b_HA_hangLeastEar 0 = .ok (.iconst 0, 1) := by decide +kernel
theorem d_HA_hangLeastEar_1 : decode b_HA_hangLeastEar 1 = .ok (.istore_n 1, 1) := by decide +kernel
theorem d_HA_hangLeastEar_2 : decode b_HA_hangLeastEar 2 = .ok (.iload_n 1, 1) := by decide +kernel
theorem d_HA_hangLeastEar_3 : decode b_HA_hangLeastEar 3 = .ok (.aload_n 0, 1) := by decide +kernel
theorem d_HA_hangLeastEar_4 : decode b_HA_hangLeastEar 4 = .ok (.getfield 21, 3) := by decide +kernel
theorem d_HA_hangLeastEar_7 : decode b_HA_hangLeastEar 7 = .ok (.getfield 25, 3) := by decide +kernel
theorem d_HA_hangLeastEar_10 : decode b_HA_hangLeastEar 10 = .ok (.if_icmp .ge 72, 3) := by decide +kernel
theorem d_HA_hangLeastEar_13 : decode b_HA_hangLeastEar 13 = .ok (.aload_n 0, 1) := by decide +kernel
theorem d_HA_hangLeastEar_14 : decode b_HA_hangLeastEar 14 = .ok (.iload_n 1, 1) := by decide +kernel
theorem d_HA_hangLeastEar_15 : decode b_HA_hangLeastEar 15 = .ok (.invokevirtual 44, 3) := by decide +kernel
theorem d_HA_hangLeastEar_18 : decode b_HA_hangLeastEar 18 = .ok (.istore_n 2, 1) := by decide +kernel
theorem d_HA_hangLeastEar_19 : decode b_HA_hangLeastEar 19 = .ok (.iload_n 2, 1) := by decide +kernel
theorem d_HA_hangLeastEar_20 : decode b_HA_hangLeastEar 20 = .ok (.iconst (-1), 1) := by decide +kernel
theorem d_HA_hangLeastEar_21 : decode b_HA_hangLeastEar 21 = .ok (.if_icmp .eq 55, 3) := by decide +kernel
theorem d_HA_hangLeastEar_24 : decode b_HA_hangLeastEar 24 = .ok (.aload_n 0, 1) := by decide +kernel
theorem d_HA_hangLeastEar_25 : decode b_HA_hangLeastEar 25 = .ok (.getfield 9, 3) := by decide +kernel
theorem d_HA_hangLeastEar_28 : decode b_HA_hangLeastEar 28 = .ok (.iload_n 1, 1) := by decide +kernel
theorem d_HA_hangLeastEar_29 : decode b_HA_hangLeastEar 29 = .ok (.iload_n 2, 1) := by decide +kernel
theorem d_HA_hangLeastEar_30 : decode b_HA_hangLeastEar 30 = .ok (.iastore, 1) := by decide +kernel
theorem d_HA_hangLeastEar_31 : decode b_HA_hangLeastEar 31 = .ok (.aload_n 0, 1) := by decide +kernel
theorem d_HA_hangLeastEar_32 : decode b_HA_hangLeastEar 32 = .ok (.getfield 15, 3) := by decide +kernel
theorem d_HA_hangLeastEar_35 : decode b_HA_hangLeastEar 35 = .ok (.iload_n 1, 1) := by decide +kernel
theorem d_HA_hangLeastEar_36 : decode b_HA_hangLeastEar 36 = .ok (.aload_n 0, 1) := by decide +kernel
theorem d_HA_hangLeastEar_37 : decode b_HA_hangLeastEar 37 = .ok (.getfield 31, 3) := by decide +kernel
theorem d_HA_hangLeastEar_40 : decode b_HA_hangLeastEar 40 = .ok (.iastore, 1) := by decide +kernel
theorem d_HA_hangLeastEar_41 : decode b_HA_hangLeastEar 41 = .ok (.aload_n 0, 1) := by decide +kernel
theorem d_HA_hangLeastEar_42 : decode b_HA_hangLeastEar 42 = .ok (.getfield 18, 3) := by decide +kernel
theorem d_HA_hangLeastEar_45 : decode b_HA_hangLeastEar 45 = .ok (.aload_n 0, 1) := by decide +kernel
theorem d_HA_hangLeastEar_46 : decode b_HA_hangLeastEar 46 = .ok (.getfield 31, 3) := by decide +kernel
theorem d_HA_hangLeastEar_49 : decode b_HA_hangLeastEar 49 = .ok (.iload_n 1, 1) := by decide +kernel
theorem d_HA_hangLeastEar_50 : decode b_HA_hangLeastEar 50 = .ok (.iastore, 1) := by decide +kernel
theorem d_HA_hangLeastEar_51 : decode b_HA_hangLeastEar 51 = .ok (.aload_n 0, 1) := by decide +kernel
theorem d_HA_hangLeastEar_52 : decode b_HA_hangLeastEar 52 = .ok (.dup, 1) := by decide +kernel
theorem d_HA_hangLeastEar_53 : decode b_HA_hangLeastEar 53 = .ok (.getfield 31, 3) := by decide +kernel
theorem d_HA_hangLeastEar_56 : decode b_HA_hangLeastEar 56 = .ok (.iconst 1, 1) := by decide +kernel
theorem d_HA_hangLeastEar_57 : decode b_HA_hangLeastEar 57 = .ok (.iadd, 1) := by decide +kernel
theorem d_HA_hangLeastEar_58 : decode b_HA_hangLeastEar 58 = .ok (.putfield 31, 3) := by decide +kernel
theorem d_HA_hangLeastEar_61 : decode b_HA_hangLeastEar 61 = .ok (.aload_n 0, 1) := by decide +kernel
theorem d_HA_hangLeastEar_62 : decode b_HA_hangLeastEar 62 = .ok (.dup, 1) := by decide +kernel
theorem d_HA_hangLeastEar_63 : decode b_HA_hangLeastEar 63 = .ok (.getfield 34, 3) := by decide +kernel
theorem d_HA_hangLeastEar_66 : decode b_HA_hangLeastEar 66 = .ok (.iconst 1, 1) := by decide +kernel
theorem d_HA_hangLeastEar_67 : decode b_HA_hangLeastEar 67 = .ok (.iload_n 1, 1) := by decide +kernel
theorem d_HA_hangLeastEar_68 : decode b_HA_hangLeastEar 68 = .ok (.ishl, 1) := by decide +kernel
theorem d_HA_hangLeastEar_69 : decode b_HA_hangLeastEar 69 = .ok (.iconst (-1), 1) := by decide +kernel
theorem d_HA_hangLeastEar_70 : decode b_HA_hangLeastEar 70 = .ok (.ixor, 1) := by decide +kernel
theorem d_HA_hangLeastEar_71 : decode b_HA_hangLeastEar 71 = .ok (.iand, 1) := by decide +kernel
theorem d_HA_hangLeastEar_72 : decode b_HA_hangLeastEar 72 = .ok (.putfield 34, 3) := by decide +kernel
theorem d_HA_hangLeastEar_75 : decode b_HA_hangLeastEar 75 = .ok (.return_, 1) := by decide +kernel
theorem d_HA_hangLeastEar_76 : decode b_HA_hangLeastEar 76 = .ok (.iinc 1 1, 3) := by decide +kernel
theorem d_HA_hangLeastEar_79 : decode b_HA_hangLeastEar 79 = .ok (.goto (-77), 3) := by decide +kernel
theorem d_HA_hangLeastEar_82 : decode b_HA_hangLeastEar 82 = .ok (.return_, 1) := by decide +kernel
theorem d_HA_leastHolderOf_0 : decode b_HA_leastHolderOf 0 = .ok (.iload_n 1, 1) := by decide +kernel
theorem d_HA_leastHolderOf_1 : decode b_HA_leastHolderOf 1 = .ok (.aload_n 0, 1) := by decide +kernel
theorem d_HA_leastHolderOf_2 : decode b_HA_leastHolderOf 2 = .ok (.getfield 34, 3) := by decide +kernel
theorem d_HA_leastHolderOf_5 : decode b_HA_leastHolderOf 5 = .ok (.invokestatic 37, 3) := by decide +kernel
theorem d_HA_leastHolderOf_8 : decode b_HA_leastHolderOf 8 = .ok (.ifCond .ne 5, 3) := by decide +kernel
theorem d_HA_leastHolderOf_11 : decode b_HA_leastHolderOf 11 = .ok (.iconst (-1), 1) := by decide +kernel
theorem d_HA_leastHolderOf_12 : decode b_HA_leastHolderOf 12 = .ok (.ireturn, 1) := by decide +kernel
theorem d_HA_leastHolderOf_13 : decode b_HA_leastHolderOf 13 = .ok (.aload_n 0, 1) := by decide +kernel
theorem d_HA_leastHolderOf_14 : decode b_HA_leastHolderOf 14 = .ok (.getfield 34, 3) := by decide +kernel
theorem d_HA_leastHolderOf_17 : decode b_HA_leastHolderOf 17 = .ok (.iconst 1, 1) := by decide +kernel
theorem d_HA_leastHolderOf_18 : decode b_HA_leastHolderOf 18 = .ok (.iload_n 1, 1) := by decide +kernel
theorem d_HA_leastHolderOf_19 : decode b_HA_leastHolderOf 19 = .ok (.ishl, 1) := by decide +kernel
theorem d_HA_leastHolderOf_20 : decode b_HA_leastHolderOf 20 = .ok (.iconst (-1), 1) := by decide +kernel
theorem d_HA_leastHolderOf_21 : decode b_HA_leastHolderOf 21 = .ok (.ixor, 1) := by decide +kernel
theorem d_HA_leastHolderOf_22 : decode b_HA_leastHolderOf 22 = .ok (.iand, 1) := by decide +kernel
theorem d_HA_leastHolderOf_23 : decode b_HA_leastHolderOf 23 = .ok (.istore_n 2, 1) := by decide +kernel
theorem d_HA_leastHolderOf_24 : decode b_HA_leastHolderOf 24 = .ok (.aload_n 0, 1) := by decide +kernel
theorem d_HA_leastHolderOf_25 : decode b_HA_leastHolderOf 25 = .ok (.getfield 21, 3) := by decide +kernel
theorem d_HA_leastHolderOf_28 : decode b_HA_leastHolderOf 28 = .ok (.getfield 48, 3) := by decide +kernel
theorem d_HA_leastHolderOf_31 : decode b_HA_leastHolderOf 31 = .ok (.iload_n 1, 1) := by decide +kernel
theorem d_HA_leastHolderOf_32 : decode b_HA_leastHolderOf 32 = .ok (.aaload, 1) := by decide +kernel
theorem d_HA_leastHolderOf_33 : decode b_HA_leastHolderOf 33 = .ok (.getfield 52, 3) := by decide +kernel
theorem d_HA_leastHolderOf_36 : decode b_HA_leastHolderOf 36 = .ok (.aload_n 0, 1) := by decide +kernel
theorem d_HA_leastHolderOf_37 : decode b_HA_leastHolderOf 37 = .ok (.iload_n 2, 1) := by decide +kernel
theorem d_HA_leastHolderOf_38 : decode b_HA_leastHolderOf 38 = .ok (.invokevirtual 57, 3) := by decide +kernel
theorem d_HA_leastHolderOf_41 : decode b_HA_leastHolderOf 41 = .ok (.iand, 1) := by decide +kernel
theorem d_HA_leastHolderOf_42 : decode b_HA_leastHolderOf 42 = .ok (.istore_n 3, 1) := by decide +kernel
theorem d_HA_leastHolderOf_43 : decode b_HA_leastHolderOf 43 = .ok (.iconst 0, 1) := by decide +kernel
theorem d_HA_leastHolderOf_44 : decode b_HA_leastHolderOf 44 = .ok (.istore 4, 2) := by decide +kernel
theorem d_HA_leastHolderOf_46 : decode b_HA_leastHolderOf 46 = .ok (.iload 4, 2) := by decide +kernel
theorem d_HA_leastHolderOf_48 : decode b_HA_leastHolderOf 48 = .ok (.aload_n 0, 1) := by decide +kernel
theorem d_HA_leastHolderOf_49 : decode b_HA_leastHolderOf 49 = .ok (.getfield 21, 3) := by decide +kernel
theorem d_HA_leastHolderOf_52 : decode b_HA_leastHolderOf 52 = .ok (.getfield 25, 3) := by decide +kernel
theorem d_HA_leastHolderOf_55 : decode b_HA_leastHolderOf 55 = .ok (.if_icmp .ge 41, 3) := by decide +kernel
theorem d_HA_leastHolderOf_58 : decode b_HA_leastHolderOf 58 = .ok (.iload 4, 2) := by decide +kernel
theorem d_HA_leastHolderOf_60 : decode b_HA_leastHolderOf 60 = .ok (.iload_n 2, 1) := by decide +kernel
theorem d_HA_leastHolderOf_61 : decode b_HA_leastHolderOf 61 = .ok (.invokestatic 37, 3) := by decide +kernel
theorem d_HA_leastHolderOf_64 : decode b_HA_leastHolderOf 64 = .ok (.ifCond .eq 26, 3) := by decide +kernel
theorem d_HA_leastHolderOf_67 : decode b_HA_leastHolderOf 67 = .ok (.iload_n 3, 1) := by decide +kernel
theorem d_HA_leastHolderOf_68 : decode b_HA_leastHolderOf 68 = .ok (.aload_n 0, 1) := by decide +kernel
theorem d_HA_leastHolderOf_69 : decode b_HA_leastHolderOf 69 = .ok (.getfield 21, 3) := by decide +kernel
theorem d_HA_leastHolderOf_72 : decode b_HA_leastHolderOf 72 = .ok (.getfield 48, 3) := by decide +kernel
theorem d_HA_leastHolderOf_75 : decode b_HA_leastHolderOf 75 = .ok (.iload 4, 2) := by decide +kernel
theorem d_HA_leastHolderOf_77 : decode b_HA_leastHolderOf 77 = .ok (.aaload, 1) := by decide +kernel
theorem d_HA_leastHolderOf_78 : decode b_HA_leastHolderOf 78 = .ok (.getfield 52, 3) := by decide +kernel
theorem d_HA_leastHolderOf_81 : decode b_HA_leastHolderOf 81 = .ok (.iconst (-1), 1) := by decide +kernel
theorem d_HA_leastHolderOf_82 : decode b_HA_leastHolderOf 82 = .ok (.ixor, 1) := by decide +kernel
theorem d_HA_leastHolderOf_83 : decode b_HA_leastHolderOf 83 = .ok (.iand, 1) := by decide +kernel
theorem d_HA_leastHolderOf_84 : decode b_HA_leastHolderOf 84 = .ok (.ifCond .ne 6, 3) := by decide +kernel
theorem d_HA_leastHolderOf_87 : decode b_HA_leastHolderOf 87 = .ok (.iload 4, 2) := by decide +kernel
theorem d_HA_leastHolderOf_89 : decode b_HA_leastHolderOf 89 = .ok (.ireturn, 1) := by decide +kernel
theorem d_HA_leastHolderOf_90 : decode b_HA_leastHolderOf 90 = .ok (.iinc 4 1, 3) := by decide +kernel
theorem d_HA_leastHolderOf_93 : decode b_HA_leastHolderOf 93 = .ok (.goto (-47), 3) := by decide +kernel
theorem d_HA_leastHolderOf_96 : decode b_HA_leastHolderOf 96 = .ok (.iconst (-1), 1) := by decide +kernel
theorem d_HA_leastHolderOf_97 : decode b_HA_leastHolderOf 97 = .ok (.ireturn, 1) := by decide +kernel
theorem d_JL_isIn_0 : decode b_JL_isIn 0 = .ok (.iload_n 1, 1) := by decide +kernel
theorem d_JL_isIn_1 : decode b_JL_isIn 1 = .ok (.iload_n 0, 1) := by decide +kernel
theorem d_JL_isIn_2 : decode b_JL_isIn 2 = .ok (.ishr, 1) := by decide +kernel
theorem d_JL_isIn_3 : decode b_JL_isIn 3 = .ok (.iconst 1, 1) := by decide +kernel
theorem d_JL_isIn_4 : decode b_JL_isIn 4 = .ok (.iand, 1) := by decide +kernel
theorem d_JL_isIn_5 : decode b_JL_isIn 5 = .ok (.ifCond .eq 7, 3) := by decide +kernel
theorem d_JL_isIn_8 : decode b_JL_isIn 8 = .ok (.iconst 1, 1) := by decide +kernel
theorem d_JL_isIn_9 : decode b_JL_isIn 9 = .ok (.goto 4, 3) := by decide +kernel
theorem d_JL_isIn_12 : decode b_JL_isIn 12 = .ok (.iconst 0, 1) := by decide +kernel
theorem d_JL_isIn_13 : decode b_JL_isIn 13 = .ok (.ireturn, 1) := by decide +kernel
theorem d_HA_variablesOf_0 : decode b_HA_variablesOf 0 = .ok (.iconst 0, 1) := by decide +kernel
theorem d_HA_variablesOf_1 : decode b_HA_variablesOf 1 = .ok (.istore_n 2, 1) := by decide +kernel
theorem d_HA_variablesOf_2 : decode b_HA_variablesOf 2 = .ok (.iconst 0, 1) := by decide +kernel
theorem d_HA_variablesOf_3 : decode b_HA_variablesOf 3 = .ok (.istore_n 3, 1) := by decide +kernel
theorem d_HA_variablesOf_4 : decode b_HA_variablesOf 4 = .ok (.iload_n 3, 1) := by decide +kernel
theorem d_HA_variablesOf_5 : decode b_HA_variablesOf 5 = .ok (.aload_n 0, 1) := by decide +kernel
theorem d_HA_variablesOf_6 : decode b_HA_variablesOf 6 = .ok (.getfield 21, 3) := by decide +kernel
theorem d_HA_variablesOf_9 : decode b_HA_variablesOf 9 = .ok (.getfield 25, 3) := by decide +kernel
theorem d_HA_variablesOf_12 : decode b_HA_variablesOf 12 = .ok (.if_icmp .ge 32, 3) := by decide +kernel
theorem d_HA_variablesOf_15 : decode b_HA_variablesOf 15 = .ok (.iload_n 3, 1) := by decide +kernel
theorem d_HA_variablesOf_16 : decode b_HA_variablesOf 16 = .ok (.iload_n 1, 1) := by decide +kernel
theorem d_HA_variablesOf_17 : decode b_HA_variablesOf 17 = .ok (.invokestatic 37, 3) := by decide +kernel
theorem d_HA_variablesOf_20 : decode b_HA_variablesOf 20 = .ok (.ifCond .eq 18, 3) := by decide +kernel
theorem d_HA_variablesOf_23 : decode b_HA_variablesOf 23 = .ok (.iload_n 2, 1) := by decide +kernel
theorem d_HA_variablesOf_24 : decode b_HA_variablesOf 24 = .ok (.aload_n 0, 1) := by decide +kernel
theorem d_HA_variablesOf_25 : decode b_HA_variablesOf 25 = .ok (.getfield 21, 3) := by decide +kernel
theorem d_HA_variablesOf_28 : decode b_HA_variablesOf 28 = .ok (.getfield 48, 3) := by decide +kernel
theorem d_HA_variablesOf_31 : decode b_HA_variablesOf 31 = .ok (.iload_n 3, 1) := by decide +kernel
theorem d_HA_variablesOf_32 : decode b_HA_variablesOf 32 = .ok (.aaload, 1) := by decide +kernel
theorem d_HA_variablesOf_33 : decode b_HA_variablesOf 33 = .ok (.getfield 52, 3) := by decide +kernel
theorem d_HA_variablesOf_36 : decode b_HA_variablesOf 36 = .ok (.ior, 1) := by decide +kernel
theorem d_HA_variablesOf_37 : decode b_HA_variablesOf 37 = .ok (.istore_n 2, 1) := by decide +kernel
theorem d_HA_variablesOf_38 : decode b_HA_variablesOf 38 = .ok (.iinc 3 1, 3) := by decide +kernel
theorem d_HA_variablesOf_41 : decode b_HA_variablesOf 41 = .ok (.goto (-37), 3) := by decide +kernel
theorem d_HA_variablesOf_44 : decode b_HA_variablesOf 44 = .ok (.iload_n 2, 1) := by decide +kernel
theorem d_HA_variablesOf_45 : decode b_HA_variablesOf 45 = .ok (.ireturn, 1) := by decide +kernel
theorem d_JL_head_0 : decode b_JL_head 0 = .ok (.aload_n 0, 1) := by decide +kernel
theorem d_JL_head_1 : decode b_JL_head 1 = .ok (.getfield 21, 3) := by decide +kernel
theorem d_JL_head_4 : decode b_JL_head 4 = .ok (.iload_n 1, 1) := by decide +kernel
theorem d_JL_head_5 : decode b_JL_head 5 = .ok (.invokevirtual 74, 3) := by decide +kernel
theorem d_JL_head_8 : decode b_JL_head 8 = .ok (.ifCond .eq 15, 3) := by decide +kernel
theorem d_JL_head_11 : decode b_JL_head 11 = .ok (.aload_n 0, 1) := by decide +kernel
theorem d_JL_head_12 : decode b_JL_head 12 = .ok (.getfield 21, 3) := by decide +kernel
theorem d_JL_head_15 : decode b_JL_head 15 = .ok (.getfield 78, 3) := by decide +kernel
theorem d_JL_head_18 : decode b_JL_head 18 = .ok (.iconst 1, 1) := by decide +kernel
theorem d_JL_head_19 : decode b_JL_head 19 = .ok (.isub, 1) := by decide +kernel
theorem d_JL_head_20 : decode b_JL_head 20 = .ok (.goto 4, 3) := by decide +kernel
theorem d_JL_head_23 : decode b_JL_head 23 = .ok (.iconst (-1), 1) := by decide +kernel
theorem d_JL_head_24 : decode b_JL_head 24 = .ok (.ireturn, 1) := by decide +kernel
theorem d_QU_putInHead_0 : decode b_QU_putInHead 0 = .ok (.iload_n 1, 1) := by decide +kernel
theorem d_QU_putInHead_1 : decode b_QU_putInHead 1 = .ok (.bipush 8, 2) := by decide +kernel
theorem d_QU_putInHead_3 : decode b_QU_putInHead 3 = .ok (.invokestatic 32, 3) := by decide +kernel
theorem d_QU_putInHead_6 : decode b_QU_putInHead 6 = .ok (.ifCond .eq 22, 3) := by decide +kernel
theorem d_QU_putInHead_9 : decode b_QU_putInHead 9 = .ok (.iload_n 1, 1) := by decide +kernel
theorem d_QU_putInHead_10 : decode b_QU_putInHead 10 = .ok (.aload_n 0, 1) := by decide +kernel
theorem d_QU_putInHead_11 : decode b_QU_putInHead 11 = .ok (.getfield 36, 3) := by decide +kernel
theorem d_QU_putInHead_14 : decode b_QU_putInHead 14 = .ok (.invokestatic 39, 3) := by decide +kernel
theorem d_QU_putInHead_17 : decode b_QU_putInHead 17 = .ok (.ifCond .ne 11, 3) := by decide +kernel
theorem d_QU_putInHead_20 : decode b_QU_putInHead 20 = .ok (.aload_n 0, 1) := by decide +kernel
theorem d_QU_putInHead_21 : decode b_QU_putInHead 21 = .ok (.getfield 42, 3) := by decide +kernel
theorem d_QU_putInHead_24 : decode b_QU_putInHead 24 = .ok (.iconst 4, 1) := by decide +kernel
theorem d_QU_putInHead_25 : decode b_QU_putInHead 25 = .ok (.if_icmp .ne 5, 3) := by decide +kernel
theorem d_QU_putInHead_28 : decode b_QU_putInHead 28 = .ok (.iconst 0, 1) := by decide +kernel
theorem d_QU_putInHead_29 : decode b_QU_putInHead 29 = .ok (.ireturn, 1) := by decide +kernel
theorem d_QU_putInHead_30 : decode b_QU_putInHead 30 = .ok (.aload_n 0, 1) := by decide +kernel
theorem d_QU_putInHead_31 : decode b_QU_putInHead 31 = .ok (.getfield 17, 3) := by decide +kernel
theorem d_QU_putInHead_34 : decode b_QU_putInHead 34 = .ok (.aload_n 0, 1) := by decide +kernel
theorem d_QU_putInHead_35 : decode b_QU_putInHead 35 = .ok (.getfield 42, 3) := by decide +kernel
theorem d_QU_putInHead_38 : decode b_QU_putInHead 38 = .ok (.iload_n 1, 1) := by decide +kernel
theorem d_QU_putInHead_39 : decode b_QU_putInHead 39 = .ok (.iastore, 1) := by decide +kernel
theorem d_QU_putInHead_40 : decode b_QU_putInHead 40 = .ok (.aload_n 0, 1) := by decide +kernel
theorem d_QU_putInHead_41 : decode b_QU_putInHead 41 = .ok (.dup, 1) := by decide +kernel
theorem d_QU_putInHead_42 : decode b_QU_putInHead 42 = .ok (.getfield 42, 3) := by decide +kernel
theorem d_QU_putInHead_45 : decode b_QU_putInHead 45 = .ok (.iconst 1, 1) := by decide +kernel
theorem d_QU_putInHead_46 : decode b_QU_putInHead 46 = .ok (.iadd, 1) := by decide +kernel
theorem d_QU_putInHead_47 : decode b_QU_putInHead 47 = .ok (.putfield 42, 3) := by decide +kernel
theorem d_QU_putInHead_50 : decode b_QU_putInHead 50 = .ok (.aload_n 0, 1) := by decide +kernel
theorem d_QU_putInHead_51 : decode b_QU_putInHead 51 = .ok (.dup, 1) := by decide +kernel
theorem d_QU_putInHead_52 : decode b_QU_putInHead 52 = .ok (.getfield 36, 3) := by decide +kernel
theorem d_QU_putInHead_55 : decode b_QU_putInHead 55 = .ok (.iconst 1, 1) := by decide +kernel
theorem d_QU_putInHead_56 : decode b_QU_putInHead 56 = .ok (.iload_n 1, 1) := by decide +kernel
theorem d_QU_putInHead_57 : decode b_QU_putInHead 57 = .ok (.ishl, 1) := by decide +kernel
theorem d_QU_putInHead_58 : decode b_QU_putInHead 58 = .ok (.ior, 1) := by decide +kernel
theorem d_QU_putInHead_59 : decode b_QU_putInHead 59 = .ok (.putfield 36, 3) := by decide +kernel
theorem d_QU_putInHead_62 : decode b_QU_putInHead 62 = .ok (.iconst 1, 1) := by decide +kernel
theorem d_QU_putInHead_63 : decode b_QU_putInHead 63 = .ok (.ireturn, 1) := by decide +kernel
theorem d_JL_clear_0 : decode b_JL_clear 0 = .ok (.aload_n 0, 1) := by decide +kernel
theorem d_JL_clear_1 : decode b_JL_clear 1 = .ok (.getfield 21, 3) := by decide +kernel
theorem d_JL_clear_4 : decode b_JL_clear 4 = .ok (.getfield 71, 3) := by decide +kernel
theorem d_JL_clear_7 : decode b_JL_clear 7 = .ok (.istore_n 1, 1) := by decide +kernel
theorem d_JL_clear_8 : decode b_JL_clear 8 = .ok (.aload_n 0, 1) := by decide +kernel
theorem d_JL_clear_9 : decode b_JL_clear 9 = .ok (.getfield 21, 3) := by decide +kernel
theorem d_JL_clear_12 : decode b_JL_clear 12 = .ok (.invokevirtual 81, 3) := by decide +kernel
