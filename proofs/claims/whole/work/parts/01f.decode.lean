/-! decode rows, by program -/
theorem d_MO_atom_14 : decode b_MO_atom 14 = .ok (.getfield 56, 3) := by decide +kernel
theorem d_MO_atom_17 : decode b_MO_atom 17 = .ok (.bipush 6, 2) := by decide +kernel
theorem d_MO_atom_19 : decode b_MO_atom 19 = .ok (.if_icmp .ne 5, 3) := by decide +kernel
theorem d_MO_atom_22 : decode b_MO_atom 22 = .ok (.iconst (-1), 1) := by decide +kernel
theorem d_MO_atom_23 : decode b_MO_atom 23 = .ok (.ireturn, 1) := by decide +kernel
theorem d_MO_atom_24 : decode b_MO_atom 24 = .ok (.iconst 1, 1) := by decide +kernel
theorem d_MO_atom_25 : decode b_MO_atom 25 = .ok (.istore 5, 2) := by decide +kernel
theorem d_MO_atom_27 : decode b_MO_atom 27 = .ok (.iconst 0, 1) := by decide +kernel
theorem d_MO_atom_28 : decode b_MO_atom 28 = .ok (.istore 6, 2) := by decide +kernel
theorem d_MO_atom_30 : decode b_MO_atom 30 = .ok (.iload 6, 2) := by decide +kernel
theorem d_MO_atom_32 : decode b_MO_atom 32 = .ok (.aload_n 0, 1) := by decide +kernel
theorem d_MO_atom_33 : decode b_MO_atom 33 = .ok (.getfield 7, 3) := by decide +kernel
theorem d_MO_atom_36 : decode b_MO_atom 36 = .ok (.iload_n 1, 1) := by decide +kernel
theorem d_MO_atom_37 : decode b_MO_atom 37 = .ok (.iaload, 1) := by decide +kernel
theorem d_MO_atom_38 : decode b_MO_atom 38 = .ok (.if_icmp .ge 44, 3) := by decide +kernel
theorem d_MO_atom_41 : decode b_MO_atom 41 = .ok (.iload 6, 2) := by decide +kernel
theorem d_MO_atom_43 : decode b_MO_atom 43 = .ok (.iload_n 2, 1) := by decide +kernel
theorem d_MO_atom_44 : decode b_MO_atom 44 = .ok (.iload_n 3, 1) := by decide +kernel
theorem d_MO_atom_45 : decode b_MO_atom 45 = .ok (.iload 4, 2) := by decide +kernel
theorem d_MO_atom_47 : decode b_MO_atom 47 = .ok (.invokestatic 59, 3) := by decide +kernel
theorem d_MO_atom_50 : decode b_MO_atom 50 = .ok (.istore 7, 2) := by decide +kernel
theorem d_MO_atom_52 : decode b_MO_atom 52 = .ok (.iload 5, 2) := by decide +kernel
theorem d_MO_atom_54 : decode b_MO_atom 54 = .ok (.ifCond .eq 19, 3) := by decide +kernel
theorem d_MO_atom_57 : decode b_MO_atom 57 = .ok (.iload 7, 2) := by decide +kernel
theorem d_MO_atom_59 : decode b_MO_atom 59 = .ok (.ifCond .lt 14, 3) := by decide +kernel
theorem d_MO_atom_62 : decode b_MO_atom 62 = .ok (.iload 7, 2) := by decide +kernel
theorem d_MO_atom_64 : decode b_MO_atom 64 = .ok (.bipush 8, 2) := by decide +kernel
theorem d_MO_atom_66 : decode b_MO_atom 66 = .ok (.if_icmp .ge 7, 3) := by decide +kernel
theorem d_MO_atom_69 : decode b_MO_atom 69 = .ok (.iconst 1, 1) := by decide +kernel
theorem d_MO_atom_70 : decode b_MO_atom 70 = .ok (.goto 4, 3) := by decide +kernel
theorem d_MO_atom_73 : decode b_MO_atom 73 = .ok (.iconst 0, 1) := by decide +kernel
theorem d_MO_atom_74 : decode b_MO_atom 74 = .ok (.istore 5, 2) := by decide +kernel
theorem d_MO_atom_76 : decode b_MO_atom 76 = .ok (.iinc 6 1, 3) := by decide +kernel
theorem d_MO_atom_79 : decode b_MO_atom 79 = .ok (.goto (-49), 3) := by decide +kernel
theorem d_MO_atom_82 : decode b_MO_atom 82 = .ok (.iload 5, 2) := by decide +kernel
theorem d_MO_atom_84 : decode b_MO_atom 84 = .ok (.ifCond .ne 5, 3) := by decide +kernel
theorem d_MO_atom_87 : decode b_MO_atom 87 = .ok (.iconst (-1), 1) := by decide +kernel
theorem d_MO_atom_88 : decode b_MO_atom 88 = .ok (.ireturn, 1) := by decide +kernel
theorem d_MO_atom_89 : decode b_MO_atom 89 = .ok (.aload_n 0, 1) := by decide +kernel
theorem d_MO_atom_90 : decode b_MO_atom 90 = .ok (.getfield 19, 3) := by decide +kernel
theorem d_MO_atom_93 : decode b_MO_atom 93 = .ok (.aload_n 0, 1) := by decide +kernel
theorem d_MO_atom_94 : decode b_MO_atom 94 = .ok (.getfield 56, 3) := by decide +kernel
theorem d_MO_atom_97 : decode b_MO_atom 97 = .ok (.iload_n 1, 1) := by decide +kernel
theorem d_MO_atom_98 : decode b_MO_atom 98 = .ok (.iastore, 1) := by decide +kernel
theorem d_MO_atom_99 : decode b_MO_atom 99 = .ok (.iconst 0, 1) := by decide +kernel
theorem d_MO_atom_100 : decode b_MO_atom 100 = .ok (.istore 6, 2) := by decide +kernel
theorem d_MO_atom_102 : decode b_MO_atom 102 = .ok (.iload 6, 2) := by decide +kernel
theorem d_MO_atom_104 : decode b_MO_atom 104 = .ok (.aload_n 0, 1) := by decide +kernel
theorem d_MO_atom_105 : decode b_MO_atom 105 = .ok (.getfield 7, 3) := by decide +kernel
theorem d_MO_atom_108 : decode b_MO_atom 108 = .ok (.iload_n 1, 1) := by decide +kernel
theorem d_MO_atom_109 : decode b_MO_atom 109 = .ok (.iaload, 1) := by decide +kernel
theorem d_MO_atom_110 : decode b_MO_atom 110 = .ok (.if_icmp .ge 32, 3) := by decide +kernel
theorem d_MO_atom_113 : decode b_MO_atom 113 = .ok (.aload_n 0, 1) := by decide +kernel
theorem d_MO_atom_114 : decode b_MO_atom 114 = .ok (.getfield 22, 3) := by decide +kernel
theorem d_MO_atom_117 : decode b_MO_atom 117 = .ok (.iconst 3, 1) := by decide +kernel
theorem d_MO_atom_118 : decode b_MO_atom 118 = .ok (.aload_n 0, 1) := by decide +kernel
theorem d_MO_atom_119 : decode b_MO_atom 119 = .ok (.getfield 56, 3) := by decide +kernel
theorem d_MO_atom_122 : decode b_MO_atom 122 = .ok (.imul, 1) := by decide +kernel
theorem d_MO_atom_123 : decode b_MO_atom 123 = .ok (.iload 6, 2) := by decide +kernel
theorem d_MO_atom_125 : decode b_MO_atom 125 = .ok (.iadd, 1) := by decide +kernel
theorem d_MO_atom_126 : decode b_MO_atom 126 = .ok (.iload 6, 2) := by decide +kernel
theorem d_MO_atom_128 : decode b_MO_atom 128 = .ok (.iload_n 2, 1) := by decide +kernel
theorem d_MO_atom_129 : decode b_MO_atom 129 = .ok (.iload_n 3, 1) := by decide +kernel
theorem d_MO_atom_130 : decode b_MO_atom 130 = .ok (.iload 4, 2) := by decide +kernel
theorem d_MO_atom_132 : decode b_MO_atom 132 = .ok (.invokestatic 59, 3) := by decide +kernel
theorem d_MO_atom_135 : decode b_MO_atom 135 = .ok (.iastore, 1) := by decide +kernel
theorem d_MO_atom_136 : decode b_MO_atom 136 = .ok (.iinc 6 1, 3) := by decide +kernel
theorem d_MO_atom_139 : decode b_MO_atom 139 = .ok (.goto (-37), 3) := by decide +kernel
theorem d_MO_atom_142 : decode b_MO_atom 142 = .ok (.aload_n 0, 1) := by decide +kernel
theorem d_MO_atom_143 : decode b_MO_atom 143 = .ok (.aload_n 0, 1) := by decide +kernel
theorem d_MO_atom_144 : decode b_MO_atom 144 = .ok (.getfield 56, 3) := by decide +kernel
theorem d_MO_atom_147 : decode b_MO_atom 147 = .ok (.iconst 1, 1) := by decide +kernel
theorem d_MO_atom_148 : decode b_MO_atom 148 = .ok (.iadd, 1) := by decide +kernel
theorem d_MO_atom_149 : decode b_MO_atom 149 = .ok (.putfield 56, 3) := by decide +kernel
theorem d_MO_atom_152 : decode b_MO_atom 152 = .ok (.aload_n 0, 1) := by decide +kernel
theorem d_MO_atom_153 : decode b_MO_atom 153 = .ok (.iconst 0, 1) := by decide +kernel
theorem d_MO_atom_154 : decode b_MO_atom 154 = .ok (.putfield 70, 3) := by decide +kernel
theorem d_MO_atom_157 : decode b_MO_atom 157 = .ok (.aload_n 0, 1) := by decide +kernel
theorem d_MO_atom_158 : decode b_MO_atom 158 = .ok (.getfield 56, 3) := by decide +kernel
theorem d_MO_atom_161 : decode b_MO_atom 161 = .ok (.iconst 1, 1) := by decide +kernel
theorem d_MO_atom_162 : decode b_MO_atom 162 = .ok (.isub, 1) := by decide +kernel
theorem d_MO_atom_163 : decode b_MO_atom 163 = .ok (.ireturn, 1) := by decide +kernel
theorem d_MO_head_0 : decode b_MO_head 0 = .ok (.aload_n 0, 1) := by decide +kernel
theorem d_MO_head_1 : decode b_MO_head 1 = .ok (.iconst 0, 1) := by decide +kernel
theorem d_MO_head_2 : decode b_MO_head 2 = .ok (.putfield 49, 3) := by decide +kernel
theorem d_MO_head_5 : decode b_MO_head 5 = .ok (.iconst 0, 1) := by decide +kernel
theorem d_MO_head_6 : decode b_MO_head 6 = .ok (.istore_n 2, 1) := by decide +kernel
theorem d_MO_head_7 : decode b_MO_head 7 = .ok (.iconst 0, 1) := by decide +kernel
theorem d_MO_head_8 : decode b_MO_head 8 = .ok (.istore_n 3, 1) := by decide +kernel
theorem d_MO_head_9 : decode b_MO_head 9 = .ok (.iload_n 3, 1) := by decide +kernel
theorem d_MO_head_10 : decode b_MO_head 10 = .ok (.aload_n 0, 1) := by decide +kernel
theorem d_MO_head_11 : decode b_MO_head 11 = .ok (.getfield 74, 3) := by decide +kernel
theorem d_MO_head_14 : decode b_MO_head 14 = .ok (.if_icmp .ge 29, 3) := by decide +kernel
theorem d_MO_head_17 : decode b_MO_head 17 = .ok (.iload_n 2, 1) := by decide +kernel
theorem d_MO_head_18 : decode b_MO_head 18 = .ok (.ifCond .ne 13, 3) := by decide +kernel
theorem d_MO_head_21 : decode b_MO_head 21 = .ok (.aload_n 0, 1) := by decide +kernel
theorem d_MO_head_22 : decode b_MO_head 22 = .ok (.getfield 25, 3) := by decide +kernel
theorem d_MO_head_25 : decode b_MO_head 25 = .ok (.iload_n 3, 1) := by decide +kernel
theorem d_MO_head_26 : decode b_MO_head 26 = .ok (.iaload, 1) := by decide +kernel
theorem d_MO_head_27 : decode b_MO_head 27 = .ok (.iload_n 1, 1) := by decide +kernel
theorem d_MO_head_28 : decode b_MO_head 28 = .ok (.if_icmp .ne 7, 3) := by decide +kernel
theorem d_MO_head_31 : decode b_MO_head 31 = .ok (.iconst 1, 1) := by decide +kernel
theorem d_MO_head_32 : decode b_MO_head 32 = .ok (.goto 4, 3) := by decide +kernel
theorem d_MO_head_35 : decode b_MO_head 35 = .ok (.iconst 0, 1) := by decide +kernel
theorem d_MO_head_36 : decode b_MO_head 36 = .ok (.istore_n 2, 1) := by decide +kernel
theorem d_MO_head_37 : decode b_MO_head 37 = .ok (.iinc 3 1, 3) := by decide +kernel
theorem d_MO_head_40 : decode b_MO_head 40 = .ok (.goto (-31), 3) := by decide +kernel
theorem d_MO_head_43 : decode b_MO_head 43 = .ok (.iload_n 1, 1) := by decide +kernel
theorem d_MO_head_44 : decode b_MO_head 44 = .ok (.ifCond .lt 21, 3) := by decide +kernel
theorem d_MO_head_47 : decode b_MO_head 47 = .ok (.iload_n 1, 1) := by decide +kernel
theorem d_MO_head_48 : decode b_MO_head 48 = .ok (.bipush 7, 2) := by decide +kernel
theorem d_MO_head_50 : decode b_MO_head 50 = .ok (.if_icmp .gt 15, 3) := by decide +kernel
theorem d_MO_head_53 : decode b_MO_head 53 = .ok (.iload_n 2, 1) := by decide +kernel
theorem d_MO_head_54 : decode b_MO_head 54 = .ok (.ifCond .ne 11, 3) := by decide +kernel
theorem d_MO_head_57 : decode b_MO_head 57 = .ok (.aload_n 0, 1) := by decide +kernel
theorem d_MO_head_58 : decode b_MO_head 58 = .ok (.getfield 74, 3) := by decide +kernel
theorem d_MO_head_61 : decode b_MO_head 61 = .ok (.iconst 4, 1) := by decide +kernel
theorem d_MO_head_62 : decode b_MO_head 62 = .ok (.if_icmp .ne 5, 3) := by decide +kernel
theorem d_MO_head_65 : decode b_MO_head 65 = .ok (.iconst (-1), 1) := by decide +kernel
theorem d_MO_head_66 : decode b_MO_head 66 = .ok (.ireturn, 1) := by decide +kernel
theorem d_MO_head_67 : decode b_MO_head 67 = .ok (.aload_n 0, 1) := by decide +kernel
theorem d_MO_head_68 : decode b_MO_head 68 = .ok (.getfield 25, 3) := by decide +kernel
theorem d_MO_head_71 : decode b_MO_head 71 = .ok (.aload_n 0, 1) := by decide +kernel
theorem d_MO_head_72 : decode b_MO_head 72 = .ok (.getfield 74, 3) := by decide +kernel
theorem d_MO_head_75 : decode b_MO_head 75 = .ok (.iload_n 1, 1) := by decide +kernel
theorem d_MO_head_76 : decode b_MO_head 76 = .ok (.iastore, 1) := by decide +kernel
theorem d_MO_head_77 : decode b_MO_head 77 = .ok (.aload_n 0, 1) := by decide +kernel
theorem d_MO_head_78 : decode b_MO_head 78 = .ok (.aload_n 0, 1) := by decide +kernel
theorem d_MO_head_79 : decode b_MO_head 79 = .ok (.getfield 74, 3) := by decide +kernel
theorem d_MO_head_82 : decode b_MO_head 82 = .ok (.iconst 1, 1) := by decide +kernel
theorem d_MO_head_83 : decode b_MO_head 83 = .ok (.iadd, 1) := by decide +kernel
theorem d_MO_head_84 : decode b_MO_head 84 = .ok (.putfield 74, 3) := by decide +kernel
theorem d_MO_head_87 : decode b_MO_head 87 = .ok (.aload_n 0, 1) := by decide +kernel
theorem d_MO_head_88 : decode b_MO_head 88 = .ok (.iconst 0, 1) := by decide +kernel
theorem d_MO_head_89 : decode b_MO_head 89 = .ok (.putfield 70, 3) := by decide +kernel
theorem d_MO_head_92 : decode b_MO_head 92 = .ok (.aload_n 0, 1) := by decide +kernel
theorem d_MO_head_93 : decode b_MO_head 93 = .ok (.getfield 74, 3) := by decide +kernel
theorem d_MO_head_96 : decode b_MO_head 96 = .ok (.iconst 1, 1) := by decide +kernel
theorem d_MO_head_97 : decode b_MO_head 97 = .ok (.isub, 1) := by decide +kernel
theorem d_MO_head_98 : decode b_MO_head 98 = .ok (.ireturn, 1) := by decide +kernel
theorem d_MO_clear_0 : decode b_MO_clear 0 = .ok (.aload_n 0, 1) := by decide +kernel
theorem d_MO_clear_1 : decode b_MO_clear 1 = .ok (.iconst 0, 1) := by decide +kernel
theorem d_MO_clear_2 : decode b_MO_clear 2 = .ok (.putfield 49, 3) := by decide +kernel
theorem d_MO_clear_5 : decode b_MO_clear 5 = .ok (.aload_n 0, 1) := by decide +kernel
theorem d_MO_clear_6 : decode b_MO_clear 6 = .ok (.getfield 56, 3) := by decide +kernel
theorem d_MO_clear_9 : decode b_MO_clear 9 = .ok (.istore_n 1, 1) := by decide +kernel
theorem d_MO_clear_10 : decode b_MO_clear 10 = .ok (.aload_n 0, 1) := by decide +kernel
theorem d_MO_clear_11 : decode b_MO_clear 11 = .ok (.iconst 0, 1) := by decide +kernel
theorem d_MO_clear_12 : decode b_MO_clear 12 = .ok (.putfield 56, 3) := by decide +kernel
theorem d_MO_clear_15 : decode b_MO_clear 15 = .ok (.aload_n 0, 1) := by decide +kernel
theorem d_MO_clear_16 : decode b_MO_clear 16 = .ok (.iconst 0, 1) := by decide +kernel
theorem d_MO_clear_17 : decode b_MO_clear 17 = .ok (.putfield 74, 3) := by decide +kernel
theorem d_MO_clear_20 : decode b_MO_clear 20 = .ok (.aload_n 0, 1) := by decide +kernel
theorem d_MO_clear_21 : decode b_MO_clear 21 = .ok (.iconst 0, 1) := by decide +kernel
theorem d_MO_clear_22 : decode b_MO_clear 22 = .ok (.putfield 70, 3) := by decide +kernel
theorem d_MO_clear_25 : decode b_MO_clear 25 = .ok (.iload_n 1, 1) := by decide +kernel
theorem d_MO_clear_26 : decode b_MO_clear 26 = .ok (.ireturn, 1) := by decide +kernel
theorem d_MO_tree_0 : decode b_MO_tree 0 = .ok (.aload_n 0, 1) := by decide +kernel
theorem d_MO_tree_1 : decode b_MO_tree 1 = .ok (.iconst 0, 1) := by decide +kernel
theorem d_MO_tree_2 : decode b_MO_tree 2 = .ok (.putfield 49, 3) := by decide +kernel
theorem d_MO_tree_5 : decode b_MO_tree 5 = .ok (.aload_n 0, 1) := by decide +kernel
theorem d_MO_tree_6 : decode b_MO_tree 6 = .ok (.invokevirtual 93, 3) := by decide +kernel
theorem d_MO_tree_9 : decode b_MO_tree 9 = .ok (.ireturn, 1) := by decide +kernel
theorem d_MO_isTree_0 : decode b_MO_isTree 0 = .ok (.aload_n 0, 1) := by decide +kernel
theorem d_MO_isTree_1 : decode b_MO_isTree 1 = .ok (.invokevirtual 90, 3) := by decide +kernel
theorem d_MO_isTree_4 : decode b_MO_isTree 4 = .ok (.aload_n 0, 1) := by decide +kernel
theorem d_MO_isTree_5 : decode b_MO_isTree 5 = .ok (.getfield 77, 3) := by decide +kernel
theorem d_MO_isTree_8 : decode b_MO_isTree 8 = .ok (.aload_n 0, 1) := by decide +kernel
theorem d_MO_isTree_9 : decode b_MO_isTree 9 = .ok (.getfield 77, 3) := by decide +kernel
theorem d_MO_isTree_12 : decode b_MO_isTree 12 = .ok (.iconst 1, 1) := by decide +kernel
theorem d_MO_isTree_13 : decode b_MO_isTree 13 = .ok (.isub, 1) := by decide +kernel
theorem d_MO_isTree_14 : decode b_MO_isTree 14 = .ok (.iand, 1) := by decide +kernel
theorem d_MO_isTree_15 : decode b_MO_isTree 15 = .ok (.ifCond .ne 7, 3) := by decide +kernel
theorem d_MO_isTree_18 : decode b_MO_isTree 18 = .ok (.iconst 1, 1) := by decide +kernel
theorem d_MO_isTree_19 : decode b_MO_isTree 19 = .ok (.goto 4, 3) := by decide +kernel
theorem d_MO_isTree_22 : decode b_MO_isTree 22 = .ok (.iconst 0, 1) := by decide +kernel
theorem d_MO_isTree_23 : decode b_MO_isTree 23 = .ok (.ireturn, 1) := by decide +kernel
theorem d_MO_hang_0 : decode b_MO_hang 0 = .ok (.aload_n 0, 1) := by decide +kernel
theorem d_MO_hang_1 : decode b_MO_hang 1 = .ok (.iconst 1, 1) := by decide +kernel
theorem d_MO_hang_2 : decode b_MO_hang 2 = .ok (.aload_n 0, 1) := by decide +kernel
theorem d_MO_hang_3 : decode b_MO_hang 3 = .ok (.getfield 56, 3) := by decide +kernel
theorem d_MO_hang_6 : decode b_MO_hang 6 = .ok (.ishl, 1) := by decide +kernel
theorem d_MO_hang_7 : decode b_MO_hang 7 = .ok (.iconst 1, 1) := by decide +kernel
theorem d_MO_hang_8 : decode b_MO_hang 8 = .ok (.isub, 1) := by decide +kernel
theorem d_MO_hang_9 : decode b_MO_hang 9 = .ok (.putfield 77, 3) := by decide +kernel
theorem d_MO_hang_12 : decode b_MO_hang 12 = .ok (.iconst 0, 1) := by decide +kernel
theorem d_MO_hang_13 : decode b_MO_hang 13 = .ok (.istore_n 1, 1) := by decide +kernel
theorem d_MO_hang_14 : decode b_MO_hang 14 = .ok (.iconst 1, 1) := by decide +kernel
theorem d_MO_hang_15 : decode b_MO_hang 15 = .ok (.istore_n 2, 1) := by decide +kernel
theorem d_MO_hang_16 : decode b_MO_hang 16 = .ok (.iconst 0, 1) := by decide +kernel
theorem d_MO_hang_17 : decode b_MO_hang 17 = .ok (.istore_n 3, 1) := by decide +kernel
theorem d_MO_hang_18 : decode b_MO_hang 18 = .ok (.iload_n 3, 1) := by decide +kernel
theorem d_MO_hang_19 : decode b_MO_hang 19 = .ok (.bipush 6, 2) := by decide +kernel
theorem d_MO_hang_21 : decode b_MO_hang 21 = .ok (.if_icmp .ge 23, 3) := by decide +kernel
theorem d_MO_hang_24 : decode b_MO_hang 24 = .ok (.aload_n 0, 1) := by decide +kernel
theorem d_MO_hang_25 : decode b_MO_hang 25 = .ok (.getfield 28, 3) := by decide +kernel
theorem d_MO_hang_28 : decode b_MO_hang 28 = .ok (.iload_n 3, 1) := by decide +kernel
theorem d_MO_hang_29 : decode b_MO_hang 29 = .ok (.iconst (-1), 1) := by decide +kernel
theorem d_MO_hang_30 : decode b_MO_hang 30 = .ok (.iastore, 1) := by decide +kernel
theorem d_MO_hang_31 : decode b_MO_hang 31 = .ok (.aload_n 0, 1) := by decide +kernel
theorem d_MO_hang_32 : decode b_MO_hang 32 = .ok (.getfield 31, 3) := by decide +kernel
theorem d_MO_hang_35 : decode b_MO_hang 35 = .ok (.iload_n 3, 1) := by decide +kernel
theorem d_MO_hang_36 : decode b_MO_hang 36 = .ok (.iconst (-1), 1) := by decide +kernel
theorem d_MO_hang_37 : decode b_MO_hang 37 = .ok (.iastore, 1) := by decide +kernel
theorem d_MO_hang_38 : decode b_MO_hang 38 = .ok (.iinc 3 1, 3) := by decide +kernel
theorem d_MO_hang_41 : decode b_MO_hang 41 = .ok (.goto (-23), 3) := by decide +kernel
theorem d_MO_hang_44 : decode b_MO_hang 44 = .ok (.iload_n 2, 1) := by decide +kernel
theorem d_MO_hang_45 : decode b_MO_hang 45 = .ok (.ifCond .eq 93, 3) := by decide +kernel
theorem d_MO_hang_48 : decode b_MO_hang 48 = .ok (.iconst 0, 1) := by decide +kernel
theorem d_MO_hang_49 : decode b_MO_hang 49 = .ok (.istore_n 3, 1) := by decide +kernel
theorem d_MO_hang_50 : decode b_MO_hang 50 = .ok (.iload_n 3, 1) := by decide +kernel
theorem d_MO_hang_51 : decode b_MO_hang 51 = .ok (.aload_n 0, 1) := by decide +kernel
theorem d_MO_hang_52 : decode b_MO_hang 52 = .ok (.getfield 56, 3) := by decide +kernel
theorem d_MO_hang_55 : decode b_MO_hang 55 = .ok (.if_icmp .ge 26, 3) := by decide +kernel
theorem d_MO_hang_58 : decode b_MO_hang 58 = .ok (.aload_n 0, 1) := by decide +kernel
theorem d_MO_hang_59 : decode b_MO_hang 59 = .ok (.iload_n 3, 1) := by decide +kernel
theorem d_MO_hang_60 : decode b_MO_hang 60 = .ok (.invokevirtual 80, 3) := by decide +kernel
theorem d_MO_hang_63 : decode b_MO_hang 63 = .ok (.ifCond .eq 11, 3) := by decide +kernel
theorem d_MO_hang_66 : decode b_MO_hang 66 = .ok (.aload_n 0, 1) := by decide +kernel
theorem d_MO_hang_67 : decode b_MO_hang 67 = .ok (.iload_n 3, 1) := by decide +kernel
theorem d_MO_hang_68 : decode b_MO_hang 68 = .ok (.invokevirtual 87, 3) := by decide +kernel
theorem d_MO_hang_71 : decode b_MO_hang 71 = .ok (.ifCond .ge 10, 3) := by decide +kernel
theorem d_MO_hang_74 : decode b_MO_hang 74 = .ok (.iload_n 3, 1) := by decide +kernel
theorem d_MO_hang_75 : decode b_MO_hang 75 = .ok (.iconst 1, 1) := by decide +kernel
theorem d_MO_hang_76 : decode b_MO_hang 76 = .ok (.iadd, 1) := by decide +kernel
theorem d_MO_hang_77 : decode b_MO_hang 77 = .ok (.istore_n 3, 1) := by decide +kernel
theorem d_MO_hang_78 : decode b_MO_hang 78 = .ok (.goto (-28), 3) := by decide +kernel
theorem d_MO_hang_81 : decode b_MO_hang 81 = .ok (.iload_n 3, 1) := by decide +kernel
theorem d_MO_hang_82 : decode b_MO_hang 82 = .ok (.aload_n 0, 1) := by decide +kernel
theorem d_MO_hang_83 : decode b_MO_hang 83 = .ok (.getfield 56, 3) := by decide +kernel
theorem d_MO_hang_86 : decode b_MO_hang 86 = .ok (.if_icmp .ge 7, 3) := by decide +kernel
theorem d_MO_hang_89 : decode b_MO_hang 89 = .ok (.iconst 1, 1) := by decide +kernel
theorem d_MO_hang_90 : decode b_MO_hang 90 = .ok (.goto 4, 3) := by decide +kernel
theorem d_MO_hang_93 : decode b_MO_hang 93 = .ok (.iconst 0, 1) := by decide +kernel
theorem d_MO_hang_94 : decode b_MO_hang 94 = .ok (.istore_n 2, 1) := by decide +kernel
theorem d_MO_hang_95 : decode b_MO_hang 95 = .ok (.iload_n 2, 1) := by decide +kernel
theorem d_MO_hang_96 : decode b_MO_hang 96 = .ok (.ifCond .eq 39, 3) := by decide +kernel
theorem d_MO_hang_99 : decode b_MO_hang 99 = .ok (.aload_n 0, 1) := by decide +kernel
theorem d_MO_hang_100 : decode b_MO_hang 100 = .ok (.getfield 28, 3) := by decide +kernel
theorem d_MO_hang_103 : decode b_MO_hang 103 = .ok (.iload_n 3, 1) := by decide +kernel
theorem d_MO_hang_104 : decode b_MO_hang 104 = .ok (.aload_n 0, 1) := by decide +kernel
theorem d_MO_hang_105 : decode b_MO_hang 105 = .ok (.iload_n 3, 1) := by decide +kernel
theorem d_MO_hang_106 : decode b_MO_hang 106 = .ok (.invokevirtual 87, 3) := by decide +kernel
theorem d_MO_hang_109 : decode b_MO_hang 109 = .ok (.iastore, 1) := by decide +kernel
theorem d_MO_hang_110 : decode b_MO_hang 110 = .ok (.aload_n 0, 1) := by decide +kernel
theorem d_MO_hang_111 : decode b_MO_hang 111 = .ok (.getfield 31, 3) := by decide +kernel
theorem d_MO_hang_114 : decode b_MO_hang 114 = .ok (.iload_n 3, 1) := by decide +kernel
theorem d_MO_hang_115 : decode b_MO_hang 115 = .ok (.iload_n 1, 1) := by decide +kernel
theorem d_MO_hang_116 : decode b_MO_hang 116 = .ok (.iastore, 1) := by decide +kernel
theorem d_MO_hang_117 : decode b_MO_hang 117 = .ok (.iload_n 1, 1) := by decide +kernel
theorem d_MO_hang_118 : decode b_MO_hang 118 = .ok (.iconst 1, 1) := by decide +kernel
theorem d_MO_hang_119 : decode b_MO_hang 119 = .ok (.iadd, 1) := by decide +kernel
theorem d_MO_hang_120 : decode b_MO_hang 120 = .ok (.istore_n 1, 1) := by decide +kernel
theorem d_MO_hang_121 : decode b_MO_hang 121 = .ok (.aload_n 0, 1) := by decide +kernel
theorem d_MO_hang_122 : decode b_MO_hang 122 = .ok (.aload_n 0, 1) := by decide +kernel
theorem d_MO_hang_123 : decode b_MO_hang 123 = .ok (.getfield 77, 3) := by decide +kernel
theorem d_MO_hang_126 : decode b_MO_hang 126 = .ok (.iconst 1, 1) := by decide +kernel
theorem d_MO_hang_127 : decode b_MO_hang 127 = .ok (.iload_n 3, 1) := by decide +kernel
theorem d_MO_hang_128 : decode b_MO_hang 128 = .ok (.ishl, 1) := by decide +kernel
theorem d_MO_hang_129 : decode b_MO_hang 129 = .ok (.iconst (-1), 1) := by decide +kernel
theorem d_MO_hang_130 : decode b_MO_hang 130 = .ok (.ixor, 1) := by decide +kernel
theorem d_MO_hang_131 : decode b_MO_hang 131 = .ok (.iand, 1) := by decide +kernel
theorem d_MO_hang_132 : decode b_MO_hang 132 = .ok (.putfield 77, 3) := by decide +kernel
theorem d_MO_hang_135 : decode b_MO_hang 135 = .ok (.goto (-91), 3) := by decide +kernel
theorem d_MO_hang_138 : decode b_MO_hang 138 = .ok (.return_, 1) := by decide +kernel
theorem d_MO_isLeft_0 : decode b_MO_isLeft 0 = .ok (.aload_n 0, 1) := by decide +kernel
theorem d_MO_isLeft_1 : decode b_MO_isLeft 1 = .ok (.getfield 77, 3) := by decide +kernel
theorem d_MO_isLeft_4 : decode b_MO_isLeft 4 = .ok (.iload_n 1, 1) := by decide +kernel
theorem d_MO_isLeft_5 : decode b_MO_isLeft 5 = .ok (.ishr, 1) := by decide +kernel
theorem d_MO_isLeft_6 : decode b_MO_isLeft 6 = .ok (.iconst 1, 1) := by decide +kernel
theorem d_MO_isLeft_7 : decode b_MO_isLeft 7 = .ok (.iand, 1) := by decide +kernel
theorem d_MO_isLeft_8 : decode b_MO_isLeft 8 = .ok (.iconst 1, 1) := by decide +kernel
theorem d_MO_isLeft_9 : decode b_MO_isLeft 9 = .ok (.if_icmp .ne 7, 3) := by decide +kernel
theorem d_MO_isLeft_12 : decode b_MO_isLeft 12 = .ok (.iconst 1, 1) := by decide +kernel
theorem d_MO_isLeft_13 : decode b_MO_isLeft 13 = .ok (.goto 4, 3) := by decide +kernel
theorem d_MO_isLeft_16 : decode b_MO_isLeft 16 = .ok (.iconst 0, 1) := by decide +kernel
theorem d_MO_isLeft_17 : decode b_MO_isLeft 17 = .ok (.ireturn, 1) := by decide +kernel
theorem d_MO_holder_0 : decode b_MO_holder 0 = .ok (.iconst 0, 1) := by decide +kernel
theorem d_MO_holder_1 : decode b_MO_holder 1 = .ok (.istore_n 2, 1) := by decide +kernel
theorem d_MO_holder_2 : decode b_MO_holder 2 = .ok (.iconst 0, 1) := by decide +kernel
theorem d_MO_holder_3 : decode b_MO_holder 3 = .ok (.istore_n 3, 1) := by decide +kernel
theorem d_MO_holder_4 : decode b_MO_holder 4 = .ok (.iload_n 3, 1) := by decide +kernel
theorem d_MO_holder_5 : decode b_MO_holder 5 = .ok (.aload_n 0, 1) := by decide +kernel
theorem d_MO_holder_6 : decode b_MO_holder 6 = .ok (.getfield 56, 3) := by decide +kernel
theorem d_MO_holder_9 : decode b_MO_holder 9 = .ok (.if_icmp .ge 34, 3) := by decide +kernel
theorem d_MO_holder_12 : decode b_MO_holder 12 = .ok (.iload_n 3, 1) := by decide +kernel
theorem d_MO_holder_13 : decode b_MO_holder 13 = .ok (.iload_n 1, 1) := by decide +kernel
theorem d_MO_holder_14 : decode b_MO_holder 14 = .ok (.if_icmp .eq 21, 3) := by decide +kernel
theorem d_MO_holder_17 : decode b_MO_holder 17 = .ok (.aload_n 0, 1) := by decide +kernel
theorem d_MO_holder_18 : decode b_MO_holder 18 = .ok (.iload_n 3, 1) := by decide +kernel
theorem d_MO_holder_19 : decode b_MO_holder 19 = .ok (.invokevirtual 80, 3) := by decide +kernel
theorem d_MO_holder_22 : decode b_MO_holder 22 = .ok (.ifCond .eq 13, 3) := by decide +kernel
theorem d_MO_holder_25 : decode b_MO_holder 25 = .ok (.iload_n 2, 1) := by decide +kernel
theorem d_MO_holder_26 : decode b_MO_holder 26 = .ok (.aload_n 0, 1) := by decide +kernel
theorem d_MO_holder_27 : decode b_MO_holder 27 = .ok (.iload_n 3, 1) := by decide +kernel
theorem d_MO_holder_28 : decode b_MO_holder 28 = .ok (.invokevirtual 83, 3) := by decide +kernel
theorem d_MO_holder_31 : decode b_MO_holder 31 = .ok (.ior, 1) := by decide +kernel
theorem d_MO_holder_32 : decode b_MO_holder 32 = .ok (.goto 4, 3) := by decide +kernel
theorem d_MO_holder_35 : decode b_MO_holder 35 = .ok (.iload_n 2, 1) := by decide +kernel
theorem d_MO_holder_36 : decode b_MO_holder 36 = .ok (.istore_n 2, 1) := by decide +kernel
theorem d_MO_holder_37 : decode b_MO_holder 37 = .ok (.iinc 3 1, 3) := by decide +kernel
theorem d_MO_holder_40 : decode b_MO_holder 40 = .ok (.goto (-36), 3) := by decide +kernel
theorem d_MO_holder_43 : decode b_MO_holder 43 = .ok (.iconst (-1), 1) := by decide +kernel
theorem d_MO_holder_44 : decode b_MO_holder 44 = .ok (.istore_n 3, 1) := by decide +kernel
theorem d_MO_holder_45 : decode b_MO_holder 45 = .ok (.aload_n 0, 1) := by decide +kernel
theorem d_MO_holder_46 : decode b_MO_holder 46 = .ok (.getfield 56, 3) := by decide +kernel
theorem d_MO_holder_49 : decode b_MO_holder 49 = .ok (.iconst 1, 1) := by decide +kernel
theorem d_MO_holder_50 : decode b_MO_holder 50 = .ok (.isub, 1) := by decide +kernel
theorem d_MO_holder_51 : decode b_MO_holder 51 = .ok (.istore 4, 2) := by decide +kernel
theorem d_MO_holder_53 : decode b_MO_holder 53 = .ok (.iload 4, 2) := by decide +kernel
theorem d_MO_holder_55 : decode b_MO_holder 55 = .ok (.ifCond .lt 50, 3) := by decide +kernel
theorem d_MO_holder_58 : decode b_MO_holder 58 = .ok (.iload 4, 2) := by decide +kernel
theorem d_MO_holder_60 : decode b_MO_holder 60 = .ok (.iload_n 1, 1) := by decide +kernel
theorem d_MO_holder_61 : decode b_MO_holder 61 = .ok (.if_icmp .eq 36, 3) := by decide +kernel
theorem d_MO_holder_64 : decode b_MO_holder 64 = .ok (.aload_n 0, 1) := by decide +kernel
theorem d_MO_holder_65 : decode b_MO_holder 65 = .ok (.iload 4, 2) := by decide +kernel
theorem d_MO_holder_67 : decode b_MO_holder 67 = .ok (.invokevirtual 80, 3) := by decide +kernel
theorem d_MO_holder_70 : decode b_MO_holder 70 = .ok (.ifCond .eq 27, 3) := by decide +kernel
theorem d_MO_holder_73 : decode b_MO_holder 73 = .ok (.aload_n 0, 1) := by decide +kernel
theorem d_MO_holder_74 : decode b_MO_holder 74 = .ok (.iload_n 1, 1) := by decide +kernel
theorem d_MO_holder_75 : decode b_MO_holder 75 = .ok (.invokevirtual 83, 3) := by decide +kernel
theorem d_MO_holder_78 : decode b_MO_holder 78 = .ok (.iload_n 2, 1) := by decide +kernel
theorem d_MO_holder_79 : decode b_MO_holder 79 = .ok (.iand, 1) := by decide +kernel
theorem d_MO_holder_80 : decode b_MO_holder 80 = .ok (.aload_n 0, 1) := by decide +kernel
theorem d_MO_holder_81 : decode b_MO_holder 81 = .ok (.iload 4, 2) := by decide +kernel
theorem d_MO_holder_83 : decode b_MO_holder 83 = .ok (.invokevirtual 83, 3) := by decide +kernel
theorem d_MO_holder_86 : decode b_MO_holder 86 = .ok (.iconst (-1), 1) := by decide +kernel
theorem d_MO_holder_87 : decode b_MO_holder 87 = .ok (.ixor, 1) := by decide +kernel
theorem d_MO_holder_88 : decode b_MO_holder 88 = .ok (.iand, 1) := by decide +kernel
theorem d_MO_holder_89 : decode b_MO_holder 89 = .ok (.ifCond .ne 8, 3) := by decide +kernel
theorem d_MO_holder_92 : decode b_MO_holder 92 = .ok (.iload 4, 2) := by decide +kernel
theorem d_MO_holder_94 : decode b_MO_holder 94 = .ok (.goto 4, 3) := by decide +kernel
theorem d_MO_holder_97 : decode b_MO_holder 97 = .ok (.iload_n 3, 1) := by decide +kernel
theorem d_MO_holder_98 : decode b_MO_holder 98 = .ok (.istore_n 3, 1) := by decide +kernel
theorem d_MO_holder_99 : decode b_MO_holder 99 = .ok (.iinc 4 (-1), 3) := by decide +kernel
theorem d_MO_holder_102 : decode b_MO_holder 102 = .ok (.goto (-49), 3) := by decide +kernel
theorem d_MO_holder_105 : decode b_MO_holder 105 = .ok (.iload_n 3, 1) := by decide +kernel
theorem d_MO_holder_106 : decode b_MO_holder 106 = .ok (.ireturn, 1) := by decide +kernel
theorem d_MO_setOf_0 : decode b_MO_setOf 0 = .ok (.iconst 0, 1) := by decide +kernel
theorem d_MO_setOf_1 : decode b_MO_setOf 1 = .ok (.istore_n 2, 1) := by decide +kernel
theorem d_MO_setOf_2 : decode b_MO_setOf 2 = .ok (.iconst 0, 1) := by decide +kernel
theorem d_MO_setOf_3 : decode b_MO_setOf 3 = .ok (.istore_n 3, 1) := by decide +kernel
theorem d_MO_setOf_4 : decode b_MO_setOf 4 = .ok (.iload_n 3, 1) := by decide +kernel
theorem d_MO_setOf_5 : decode b_MO_setOf 5 = .ok (.aload_n 0, 1) := by decide +kernel
theorem d_MO_setOf_6 : decode b_MO_setOf 6 = .ok (.getfield 7, 3) := by decide +kernel
theorem d_MO_setOf_9 : decode b_MO_setOf 9 = .ok (.aload_n 0, 1) := by decide +kernel
theorem d_MO_setOf_10 : decode b_MO_setOf 10 = .ok (.getfield 19, 3) := by decide +kernel
theorem d_MO_setOf_13 : decode b_MO_setOf 13 = .ok (.iload_n 1, 1) := by decide +kernel
theorem d_MO_setOf_14 : decode b_MO_setOf 14 = .ok (.iaload, 1) := by decide +kernel
theorem d_MO_setOf_15 : decode b_MO_setOf 15 = .ok (.iaload, 1) := by decide +kernel
theorem d_MO_setOf_16 : decode b_MO_setOf 16 = .ok (.if_icmp .ge 24, 3) := by decide +kernel
theorem d_MO_setOf_19 : decode b_MO_setOf 19 = .ok (.iload_n 2, 1) := by decide +kernel
theorem d_MO_setOf_20 : decode b_MO_setOf 20 = .ok (.iconst 1, 1) := by decide +kernel
theorem d_MO_setOf_21 : decode b_MO_setOf 21 = .ok (.aload_n 0, 1) := by decide +kernel
theorem d_MO_setOf_22 : decode b_MO_setOf 22 = .ok (.getfield 22, 3) := by decide +kernel
theorem d_MO_setOf_25 : decode b_MO_setOf 25 = .ok (.iconst 3, 1) := by decide +kernel
theorem d_MO_setOf_26 : decode b_MO_setOf 26 = .ok (.iload_n 1, 1) := by decide +kernel
theorem d_MO_setOf_27 : decode b_MO_setOf 27 = .ok (.imul, 1) := by decide +kernel
theorem d_MO_setOf_28 : decode b_MO_setOf 28 = .ok (.iload_n 3, 1) := by decide +kernel
theorem d_MO_setOf_29 : decode b_MO_setOf 29 = .ok (.iadd, 1) := by decide +kernel
theorem d_MO_setOf_30 : decode b_MO_setOf 30 = .ok (.iaload, 1) := by decide +kernel
theorem d_MO_setOf_31 : decode b_MO_setOf 31 = .ok (.ishl, 1) := by decide +kernel
theorem d_MO_setOf_32 : decode b_MO_setOf 32 = .ok (.ior, 1) := by decide +kernel
theorem d_MO_setOf_33 : decode b_MO_setOf 33 = .ok (.istore_n 2, 1) := by decide +kernel
theorem d_MO_setOf_34 : decode b_MO_setOf 34 = .ok (.iinc 3 1, 3) := by decide +kernel
theorem d_MO_setOf_37 : decode b_MO_setOf 37 = .ok (.goto (-33), 3) := by decide +kernel
theorem d_MO_setOf_40 : decode b_MO_setOf 40 = .ok (.iload_n 2, 1) := by decide +kernel
theorem d_MO_setOf_41 : decode b_MO_setOf 41 = .ok (.ireturn, 1) := by decide +kernel
theorem d_MO_parent_0 : decode b_MO_parent 0 = .ok (.aload_n 0, 1) := by decide +kernel
theorem d_MO_parent_1 : decode b_MO_parent 1 = .ok (.iconst 0, 1) := by decide +kernel
theorem d_MO_parent_2 : decode b_MO_parent 2 = .ok (.putfield 49, 3) := by decide +kernel
theorem d_MO_parent_5 : decode b_MO_parent 5 = .ok (.aload_n 0, 1) := by decide +kernel
theorem d_MO_parent_6 : decode b_MO_parent 6 = .ok (.invokevirtual 90, 3) := by decide +kernel
theorem d_MO_parent_9 : decode b_MO_parent 9 = .ok (.aload_n 0, 1) := by decide +kernel
theorem d_MO_parent_10 : decode b_MO_parent 10 = .ok (.iload_n 1, 1) := by decide +kernel
theorem d_MO_parent_11 : decode b_MO_parent 11 = .ok (.invokevirtual 97, 3) := by decide +kernel
theorem d_MO_parent_14 : decode b_MO_parent 14 = .ok (.ifCond .eq 12, 3) := by decide +kernel
theorem d_MO_parent_17 : decode b_MO_parent 17 = .ok (.aload_n 0, 1) := by decide +kernel
theorem d_MO_parent_18 : decode b_MO_parent 18 = .ok (.getfield 28, 3) := by decide +kernel
theorem d_MO_parent_21 : decode b_MO_parent 21 = .ok (.iload_n 1, 1) := by decide +kernel
theorem d_MO_parent_22 : decode b_MO_parent 22 = .ok (.iaload, 1) := by decide +kernel
theorem d_MO_parent_23 : decode b_MO_parent 23 = .ok (.goto 4, 3) := by decide +kernel
theorem d_MO_parent_26 : decode b_MO_parent 26 = .ok (.iconst (-1), 1) := by decide +kernel
theorem d_MO_parent_27 : decode b_MO_parent 27 = .ok (.ireturn, 1) := by decide +kernel
theorem d_MO_isAtom_0 : decode b_MO_isAtom 0 = .ok (.iload_n 1, 1) := by decide +kernel
theorem d_MO_isAtom_1 : decode b_MO_isAtom 1 = .ok (.ifCond .lt 15, 3) := by decide +kernel
theorem d_MO_isAtom_4 : decode b_MO_isAtom 4 = .ok (.iload_n 1, 1) := by decide +kernel
theorem d_MO_isAtom_5 : decode b_MO_isAtom 5 = .ok (.aload_n 0, 1) := by decide +kernel
theorem d_MO_isAtom_6 : decode b_MO_isAtom 6 = .ok (.getfield 56, 3) := by decide +kernel
theorem d_MO_isAtom_9 : decode b_MO_isAtom 9 = .ok (.if_icmp .ge 7, 3) := by decide +kernel
theorem d_MO_isAtom_12 : decode b_MO_isAtom 12 = .ok (.iconst 1, 1) := by decide +kernel
theorem d_MO_isAtom_13 : decode b_MO_isAtom 13 = .ok (.goto 4, 3) := by decide +kernel
theorem d_MO_isAtom_16 : decode b_MO_isAtom 16 = .ok (.iconst 0, 1) := by decide +kernel
theorem d_MO_isAtom_17 : decode b_MO_isAtom 17 = .ok (.ireturn, 1) := by decide +kernel
theorem d_MO_turn_0 : decode b_MO_turn 0 = .ok (.aload_n 0, 1) := by decide +kernel
theorem d_MO_turn_1 : decode b_MO_turn 1 = .ok (.iconst 0, 1) := by decide +kernel
theorem d_MO_turn_2 : decode b_MO_turn 2 = .ok (.putfield 49, 3) := by decide +kernel
theorem d_MO_turn_5 : decode b_MO_turn 5 = .ok (.aload_n 0, 1) := by decide +kernel
theorem d_MO_turn_6 : decode b_MO_turn 6 = .ok (.invokevirtual 90, 3) := by decide +kernel
theorem d_MO_turn_9 : decode b_MO_turn 9 = .ok (.aload_n 0, 1) := by decide +kernel
theorem d_MO_turn_10 : decode b_MO_turn 10 = .ok (.iload_n 1, 1) := by decide +kernel
theorem d_MO_turn_11 : decode b_MO_turn 11 = .ok (.invokevirtual 97, 3) := by decide +kernel
theorem d_MO_turn_14 : decode b_MO_turn 14 = .ok (.ifCond .eq 12, 3) := by decide +kernel
theorem d_MO_turn_17 : decode b_MO_turn 17 = .ok (.aload_n 0, 1) := by decide +kernel
theorem d_MO_turn_18 : decode b_MO_turn 18 = .ok (.getfield 31, 3) := by decide +kernel
theorem d_MO_turn_21 : decode b_MO_turn 21 = .ok (.iload_n 1, 1) := by decide +kernel
theorem d_MO_turn_22 : decode b_MO_turn 22 = .ok (.iaload, 1) := by decide +kernel
theorem d_MO_turn_23 : decode b_MO_turn 23 = .ok (.goto 4, 3) := by decide +kernel
theorem d_MO_turn_26 : decode b_MO_turn 26 = .ok (.iconst (-1), 1) := by decide +kernel
theorem d_MO_turn_27 : decode b_MO_turn 27 = .ok (.ireturn, 1) := by decide +kernel
theorem d_MO_ways_0 : decode b_MO_ways 0 = .ok (.aload_n 0, 1) := by decide +kernel
theorem d_MO_ways_1 : decode b_MO_ways 1 = .ok (.aload_n 0, 1) := by decide +kernel
theorem d_MO_ways_2 : decode b_MO_ways 2 = .ok (.invokevirtual 93, 3) := by decide +kernel
theorem d_MO_ways_5 : decode b_MO_ways 5 = .ok (.ifCond .eq 7, 3) := by decide +kernel
theorem d_MO_ways_8 : decode b_MO_ways 8 = .ok (.iconst 0, 1) := by decide +kernel
theorem d_MO_ways_9 : decode b_MO_ways 9 = .ok (.goto 4, 3) := by decide +kernel
theorem d_MO_ways_12 : decode b_MO_ways 12 = .ok (.iconst 1, 1) := by decide +kernel
theorem d_MO_ways_13 : decode b_MO_ways 13 = .ok (.putfield 49, 3) := by decide +kernel
theorem d_MO_ways_16 : decode b_MO_ways 16 = .ok (.aload_n 0, 1) := by decide +kernel
theorem d_MO_ways_17 : decode b_MO_ways 17 = .ok (.getfield 49, 3) := by decide +kernel
theorem d_MO_ways_20 : decode b_MO_ways 20 = .ok (.ifCond .le 5, 3) := by decide +kernel
theorem d_MO_ways_23 : decode b_MO_ways 23 = .ok (.lconst 0, 1) := by decide +kernel
theorem d_MO_ways_24 : decode b_MO_ways 24 = .ok (.lreturn, 1) := by decide +kernel
theorem d_MO_ways_25 : decode b_MO_ways 25 = .ok (.aload_n 0, 1) := by decide +kernel
theorem d_MO_ways_26 : decode b_MO_ways 26 = .ok (.invokevirtual 118, 3) := by decide +kernel
theorem d_MO_ways_29 : decode b_MO_ways 29 = .ok (.aload_n 0, 1) := by decide +kernel
theorem d_MO_ways_30 : decode b_MO_ways 30 = .ok (.getfield 103, 3) := by decide +kernel
theorem d_MO_ways_33 : decode b_MO_ways 33 = .ok (.lreturn, 1) := by decide +kernel
theorem d_MO_look_0 : decode b_MO_look 0 = .ok (.aload_n 0, 1) := by decide +kernel
theorem d_MO_look_1 : decode b_MO_look 1 = .ok (.getfield 70, 3) := by decide +kernel
theorem d_MO_look_4 : decode b_MO_look 4 = .ok (.ifCond .eq 4, 3) := by decide +kernel
theorem d_MO_look_7 : decode b_MO_look 7 = .ok (.return_, 1) := by decide +kernel
theorem d_MO_look_8 : decode b_MO_look 8 = .ok (.aload_n 0, 1) := by decide +kernel
theorem d_MO_look_9 : decode b_MO_look 9 = .ok (.iconst 1, 1) := by decide +kernel
theorem d_MO_look_10 : decode b_MO_look 10 = .ok (.putfield 70, 3) := by decide +kernel
theorem d_MO_look_13 : decode b_MO_look 13 = .ok (.aload_n 0, 1) := by decide +kernel
theorem d_MO_look_14 : decode b_MO_look 14 = .ok (.lconst 0, 1) := by decide +kernel
theorem d_MO_look_15 : decode b_MO_look 15 = .ok (.putfield 103, 3) := by decide +kernel
theorem d_MO_look_18 : decode b_MO_look 18 = .ok (.iconst 0, 1) := by decide +kernel
theorem d_MO_look_19 : decode b_MO_look 19 = .ok (.istore_n 1, 1) := by decide +kernel
theorem d_MO_look_20 : decode b_MO_look 20 = .ok (.iload_n 1, 1) := by decide +kernel
theorem d_MO_look_21 : decode b_MO_look 21 = .ok (.bipush 6, 2) := by decide +kernel
theorem d_MO_look_23 : decode b_MO_look 23 = .ok (.if_icmp .ge 16, 3) := by decide +kernel
theorem d_MO_look_26 : decode b_MO_look 26 = .ok (.aload_n 0, 1) := by decide +kernel
theorem d_MO_look_27 : decode b_MO_look 27 = .ok (.getfield 40, 3) := by decide +kernel
theorem d_MO_look_30 : decode b_MO_look 30 = .ok (.iload_n 1, 1) := by decide +kernel
theorem d_MO_look_31 : decode b_MO_look 31 = .ok (.iconst 0, 1) := by decide +kernel
theorem d_MO_look_32 : decode b_MO_look 32 = .ok (.iastore, 1) := by decide +kernel
theorem d_MO_look_33 : decode b_MO_look 33 = .ok (.iinc 1 1, 3) := by decide +kernel
theorem d_MO_look_36 : decode b_MO_look 36 = .ok (.goto (-16), 3) := by decide +kernel
theorem d_MO_look_39 : decode b_MO_look 39 = .ok (.iconst 0, 1) := by decide +kernel
theorem d_MO_look_40 : decode b_MO_look 40 = .ok (.istore_n 1, 1) := by decide +kernel
theorem d_MO_look_41 : decode b_MO_look 41 = .ok (.iload_n 1, 1) := by decide +kernel
theorem d_MO_look_42 : decode b_MO_look 42 = .ok (.sipush 2048, 3) := by decide +kernel
theorem d_MO_look_45 : decode b_MO_look 45 = .ok (.if_icmp .ge 16, 3) := by decide +kernel
theorem d_MO_look_48 : decode b_MO_look 48 = .ok (.aload_n 0, 1) := by decide +kernel
theorem d_MO_look_49 : decode b_MO_look 49 = .ok (.getfield 43, 3) := by decide +kernel
theorem d_MO_look_52 : decode b_MO_look 52 = .ok (.iload_n 1, 1) := by decide +kernel
theorem d_MO_look_53 : decode b_MO_look 53 = .ok (.iconst 0, 1) := by decide +kernel
theorem d_MO_look_54 : decode b_MO_look 54 = .ok (.iastore, 1) := by decide +kernel
theorem d_MO_look_55 : decode b_MO_look 55 = .ok (.iinc 1 1, 3) := by decide +kernel
theorem d_MO_look_58 : decode b_MO_look 58 = .ok (.goto (-17), 3) := by decide +kernel
theorem d_MO_look_61 : decode b_MO_look 61 = .ok (.iconst 0, 1) := by decide +kernel
theorem d_MO_look_62 : decode b_MO_look 62 = .ok (.istore_n 1, 1) := by decide +kernel
theorem d_MO_look_63 : decode b_MO_look 63 = .ok (.aload_n 0, 1) := by decide +kernel
theorem d_MO_look_64 : decode b_MO_look 64 = .ok (.getfield 37, 3) := by decide +kernel
theorem d_MO_look_67 : decode b_MO_look 67 = .ok (.iconst 0, 1) := by decide +kernel
theorem d_MO_look_68 : decode b_MO_look 68 = .ok (.iconst 0, 1) := by decide +kernel
theorem d_MO_look_69 : decode b_MO_look 69 = .ok (.iastore, 1) := by decide +kernel
theorem d_MO_look_70 : decode b_MO_look 70 = .ok (.iload_n 1, 1) := by decide +kernel
theorem d_MO_look_71 : decode b_MO_look 71 = .ok (.ifCond .lt 93, 3) := by decide +kernel
theorem d_MO_look_74 : decode b_MO_look 74 = .ok (.iload_n 1, 1) := by decide +kernel
theorem d_MO_look_75 : decode b_MO_look 75 = .ok (.aload_n 0, 1) := by decide +kernel
theorem d_MO_look_76 : decode b_MO_look 76 = .ok (.getfield 56, 3) := by decide +kernel
theorem d_MO_look_79 : decode b_MO_look 79 = .ok (.if_icmp .ne 14, 3) := by decide +kernel
theorem d_MO_look_82 : decode b_MO_look 82 = .ok (.aload_n 0, 1) := by decide +kernel
theorem d_MO_look_83 : decode b_MO_look 83 = .ok (.invokevirtual 107, 3) := by decide +kernel
theorem d_MO_look_86 : decode b_MO_look 86 = .ok (.iload_n 1, 1) := by decide +kernel
theorem d_MO_look_87 : decode b_MO_look 87 = .ok (.iconst 1, 1) := by decide +kernel
theorem d_MO_look_88 : decode b_MO_look 88 = .ok (.isub, 1) := by decide +kernel
theorem d_MO_look_89 : decode b_MO_look 89 = .ok (.istore_n 1, 1) := by decide +kernel
theorem d_MO_look_90 : decode b_MO_look 90 = .ok (.goto (-20), 3) := by decide +kernel
theorem d_MO_look_93 : decode b_MO_look 93 = .ok (.aload_n 0, 1) := by decide +kernel
theorem d_MO_look_94 : decode b_MO_look 94 = .ok (.getfield 37, 3) := by decide +kernel
theorem d_MO_look_97 : decode b_MO_look 97 = .ok (.iload_n 1, 1) := by decide +kernel
theorem d_MO_look_98 : decode b_MO_look 98 = .ok (.iaload, 1) := by decide +kernel
theorem d_MO_look_99 : decode b_MO_look 99 = .ok (.aload_n 0, 1) := by decide +kernel
theorem d_MO_look_100 : decode b_MO_look 100 = .ok (.getfield 13, 3) := by decide +kernel
theorem d_MO_look_103 : decode b_MO_look 103 = .ok (.aload_n 0, 1) := by decide +kernel
theorem d_MO_look_104 : decode b_MO_look 104 = .ok (.getfield 19, 3) := by decide +kernel
theorem d_MO_look_107 : decode b_MO_look 107 = .ok (.iload_n 1, 1) := by decide +kernel
theorem d_MO_look_108 : decode b_MO_look 108 = .ok (.iaload, 1) := by decide +kernel
theorem d_MO_look_109 : decode b_MO_look 109 = .ok (.iaload, 1) := by decide +kernel
theorem d_MO_look_110 : decode b_MO_look 110 = .ok (.if_icmp .ne 10, 3) := by decide +kernel
theorem d_MO_look_113 : decode b_MO_look 113 = .ok (.iload_n 1, 1) := by decide +kernel
theorem d_MO_look_114 : decode b_MO_look 114 = .ok (.iconst 1, 1) := by decide +kernel
theorem d_MO_look_115 : decode b_MO_look 115 = .ok (.isub, 1) := by decide +kernel
theorem d_MO_look_116 : decode b_MO_look 116 = .ok (.istore_n 1, 1) := by decide +kernel
theorem d_MO_look_117 : decode b_MO_look 117 = .ok (.goto (-47), 3) := by decide +kernel
theorem d_MO_look_120 : decode b_MO_look 120 = .ok (.aload_n 0, 1) := by decide +kernel
theorem d_MO_look_121 : decode b_MO_look 121 = .ok (.getfield 37, 3) := by decide +kernel
theorem d_MO_look_124 : decode b_MO_look 124 = .ok (.iload_n 1, 1) := by decide +kernel
theorem d_MO_look_125 : decode b_MO_look 125 = .ok (.aload_n 0, 1) := by decide +kernel
theorem d_MO_look_126 : decode b_MO_look 126 = .ok (.getfield 37, 3) := by decide +kernel
theorem d_MO_look_129 : decode b_MO_look 129 = .ok (.iload_n 1, 1) := by decide +kernel
theorem d_MO_look_130 : decode b_MO_look 130 = .ok (.iaload, 1) := by decide +kernel
theorem d_MO_look_131 : decode b_MO_look 131 = .ok (.iconst 1, 1) := by decide +kernel
theorem d_MO_look_132 : decode b_MO_look 132 = .ok (.iadd, 1) := by decide +kernel
theorem d_MO_look_133 : decode b_MO_look 133 = .ok (.iastore, 1) := by decide +kernel
theorem d_MO_look_134 : decode b_MO_look 134 = .ok (.aload_n 0, 1) := by decide +kernel
theorem d_MO_look_135 : decode b_MO_look 135 = .ok (.iload_n 1, 1) := by decide +kernel
theorem d_MO_look_136 : decode b_MO_look 136 = .ok (.aload_n 0, 1) := by decide +kernel
theorem d_MO_look_137 : decode b_MO_look 137 = .ok (.getfield 37, 3) := by decide +kernel
theorem d_MO_look_140 : decode b_MO_look 140 = .ok (.iload_n 1, 1) := by decide +kernel
theorem d_MO_look_141 : decode b_MO_look 141 = .ok (.iaload, 1) := by decide +kernel
theorem d_MO_look_142 : decode b_MO_look 142 = .ok (.iconst 1, 1) := by decide +kernel
theorem d_MO_look_143 : decode b_MO_look 143 = .ok (.isub, 1) := by decide +kernel
theorem d_MO_look_144 : decode b_MO_look 144 = .ok (.invokevirtual 110, 3) := by decide +kernel
theorem d_MO_look_147 : decode b_MO_look 147 = .ok (.ifCond .eq (-77), 3) := by decide +kernel
theorem d_MO_look_150 : decode b_MO_look 150 = .ok (.iload_n 1, 1) := by decide +kernel
theorem d_MO_look_151 : decode b_MO_look 151 = .ok (.iconst 1, 1) := by decide +kernel
theorem d_MO_look_152 : decode b_MO_look 152 = .ok (.iadd, 1) := by decide +kernel
theorem d_MO_look_153 : decode b_MO_look 153 = .ok (.istore_n 1, 1) := by decide +kernel
theorem d_MO_look_154 : decode b_MO_look 154 = .ok (.aload_n 0, 1) := by decide +kernel
theorem d_MO_look_155 : decode b_MO_look 155 = .ok (.getfield 37, 3) := by decide +kernel
theorem d_MO_look_158 : decode b_MO_look 158 = .ok (.iload_n 1, 1) := by decide +kernel
theorem d_MO_look_159 : decode b_MO_look 159 = .ok (.iconst 0, 1) := by decide +kernel
theorem d_MO_look_160 : decode b_MO_look 160 = .ok (.iastore, 1) := by decide +kernel
theorem d_MO_look_161 : decode b_MO_look 161 = .ok (.goto (-91), 3) := by decide +kernel
theorem d_MO_look_164 : decode b_MO_look 164 = .ok (.aload_n 0, 1) := by decide +kernel
theorem d_MO_look_165 : decode b_MO_look 165 = .ok (.iconst 0, 1) := by decide +kernel
theorem d_MO_look_166 : decode b_MO_look 166 = .ok (.putfield 114, 3) := by decide +kernel
theorem d_MO_look_169 : decode b_MO_look 169 = .ok (.iconst 0, 1) := by decide +kernel
theorem d_MO_look_170 : decode b_MO_look 170 = .ok (.istore_n 2, 1) := by decide +kernel
theorem d_MO_look_171 : decode b_MO_look 171 = .ok (.iload_n 2, 1) := by decide +kernel
theorem d_MO_look_172 : decode b_MO_look 172 = .ok (.ldc 117, 2) := by decide +kernel
theorem d_MO_look_174 : decode b_MO_look 174 = .ok (.if_icmp .ge 57, 3) := by decide +kernel
theorem d_MO_look_177 : decode b_MO_look 177 = .ok (.aload_n 0, 1) := by decide +kernel
theorem d_MO_look_178 : decode b_MO_look 178 = .ok (.getfield 43, 3) := by decide +kernel
theorem d_MO_look_181 : decode b_MO_look 181 = .ok (.iload_n 2, 1) := by decide +kernel
theorem d_MO_look_182 : decode b_MO_look 182 = .ok (.iconst 5, 1) := by decide +kernel
theorem d_MO_look_183 : decode b_MO_look 183 = .ok (.ishr, 1) := by decide +kernel
theorem d_MO_look_184 : decode b_MO_look 184 = .ok (.iaload, 1) := by decide +kernel
theorem d_MO_look_185 : decode b_MO_look 185 = .ok (.iload_n 2, 1) := by decide +kernel
theorem d_MO_look_186 : decode b_MO_look 186 = .ok (.bipush 31, 2) := by decide +kernel
theorem d_MO_look_188 : decode b_MO_look 188 = .ok (.iand, 1) := by decide +kernel
theorem d_MO_look_189 : decode b_MO_look 189 = .ok (.ishr, 1) := by decide +kernel
theorem d_MO_look_190 : decode b_MO_look 190 = .ok (.iconst 1, 1) := by decide +kernel
theorem d_MO_look_191 : decode b_MO_look 191 = .ok (.iand, 1) := by decide +kernel
theorem d_MO_look_192 : decode b_MO_look 192 = .ok (.iconst 1, 1) := by decide +kernel
theorem d_MO_look_193 : decode b_MO_look 193 = .ok (.if_icmp .ne 32, 3) := by decide +kernel
theorem d_MO_look_196 : decode b_MO_look 196 = .ok (.aload_n 0, 1) := by decide +kernel
theorem d_MO_look_197 : decode b_MO_look 197 = .ok (.getfield 114, 3) := by decide +kernel
theorem d_MO_look_200 : decode b_MO_look 200 = .ok (.bipush 64, 2) := by decide +kernel
theorem d_MO_look_202 : decode b_MO_look 202 = .ok (.if_icmp .ge 13, 3) := by decide +kernel
theorem d_MO_look_205 : decode b_MO_look 205 = .ok (.aload_n 0, 1) := by decide +kernel
theorem d_MO_look_206 : decode b_MO_look 206 = .ok (.getfield 46, 3) := by decide +kernel
theorem d_MO_look_209 : decode b_MO_look 209 = .ok (.aload_n 0, 1) := by decide +kernel
theorem d_MO_look_210 : decode b_MO_look 210 = .ok (.getfield 114, 3) := by decide +kernel
theorem d_MO_look_213 : decode b_MO_look 213 = .ok (.iload_n 2, 1) := by decide +kernel
theorem d_MO_look_214 : decode b_MO_look 214 = .ok (.iastore, 1) := by decide +kernel
theorem d_MO_look_215 : decode b_MO_look 215 = .ok (.aload_n 0, 1) := by decide +kernel
theorem d_MO_look_216 : decode b_MO_look 216 = .ok (.aload_n 0, 1) := by decide +kernel
theorem d_MO_look_217 : decode b_MO_look 217 = .ok (.getfield 114, 3) := by decide +kernel
theorem d_MO_look_220 : decode b_MO_look 220 = .ok (.iconst 1, 1) := by decide +kernel
theorem d_MO_look_221 : decode b_MO_look 221 = .ok (.iadd, 1) := by decide +kernel
theorem d_MO_look_222 : decode b_MO_look 222 = .ok (.putfield 114, 3) := by decide +kernel
theorem d_MO_look_225 : decode b_MO_look 225 = .ok (.iinc 2 1, 3) := by decide +kernel
theorem d_MO_look_228 : decode b_MO_look 228 = .ok (.goto (-57), 3) := by decide +kernel
theorem d_MO_look_231 : decode b_MO_look 231 = .ok (.return_, 1) := by decide +kernel
theorem d_MO_note_0 : decode b_MO_note 0 = .ok (.aload_n 0, 1) := by decide +kernel
theorem d_MO_note_1 : decode b_MO_note 1 = .ok (.aload_n 0, 1) := by decide +kernel
theorem d_MO_note_2 : decode b_MO_note 2 = .ok (.getfield 103, 3) := by decide +kernel
theorem d_MO_note_5 : decode b_MO_note 5 = .ok (.lconst 1, 1) := by decide +kernel
theorem d_MO_note_6 : decode b_MO_note 6 = .ok (.ladd, 1) := by decide +kernel
theorem d_MO_note_7 : decode b_MO_note 7 = .ok (.putfield 103, 3) := by decide +kernel
theorem d_MO_note_10 : decode b_MO_note 10 = .ok (.iconst 0, 1) := by decide +kernel
theorem d_MO_note_11 : decode b_MO_note 11 = .ok (.istore_n 1, 1) := by decide +kernel
theorem d_MO_note_12 : decode b_MO_note 12 = .ok (.iload_n 1, 1) := by decide +kernel
theorem d_MO_note_13 : decode b_MO_note 13 = .ok (.aload_n 0, 1) := by decide +kernel
theorem d_MO_note_14 : decode b_MO_note 14 = .ok (.getfield 56, 3) := by decide +kernel
theorem d_MO_note_17 : decode b_MO_note 17 = .ok (.if_icmp .ge 32, 3) := by decide +kernel
theorem d_MO_note_20 : decode b_MO_note 20 = .ok (.aload_n 0, 1) := by decide +kernel
theorem d_MO_note_21 : decode b_MO_note 21 = .ok (.getfield 40, 3) := by decide +kernel
theorem d_MO_note_24 : decode b_MO_note 24 = .ok (.iload_n 1, 1) := by decide +kernel
theorem d_MO_note_25 : decode b_MO_note 25 = .ok (.aload_n 0, 1) := by decide +kernel
theorem d_MO_note_26 : decode b_MO_note 26 = .ok (.getfield 40, 3) := by decide +kernel
theorem d_MO_note_29 : decode b_MO_note 29 = .ok (.iload_n 1, 1) := by decide +kernel
theorem d_MO_note_30 : decode b_MO_note 30 = .ok (.iaload, 1) := by decide +kernel
theorem d_MO_note_31 : decode b_MO_note 31 = .ok (.iconst 1, 1) := by decide +kernel
theorem d_MO_note_32 : decode b_MO_note 32 = .ok (.aload_n 0, 1) := by decide +kernel
theorem d_MO_note_33 : decode b_MO_note 33 = .ok (.getfield 37, 3) := by decide +kernel
theorem d_MO_note_36 : decode b_MO_note 36 = .ok (.iload_n 1, 1) := by decide +kernel
theorem d_MO_note_37 : decode b_MO_note 37 = .ok (.iaload, 1) := by decide +kernel
theorem d_MO_note_38 : decode b_MO_note 38 = .ok (.iconst 1, 1) := by decide +kernel
theorem d_MO_note_39 : decode b_MO_note 39 = .ok (.isub, 1) := by decide +kernel
theorem d_MO_note_40 : decode b_MO_note 40 = .ok (.ishl, 1) := by decide +kernel
theorem d_MO_note_41 : decode b_MO_note 41 = .ok (.ior, 1) := by decide +kernel
theorem d_MO_note_42 : decode b_MO_note 42 = .ok (.iastore, 1) := by decide +kernel
theorem d_MO_note_43 : decode b_MO_note 43 = .ok (.iinc 1 1, 3) := by decide +kernel
theorem d_MO_note_46 : decode b_MO_note 46 = .ok (.goto (-34), 3) := by decide +kernel
theorem d_MO_note_49 : decode b_MO_note 49 = .ok (.iconst 0, 1) := by decide +kernel
theorem d_MO_note_50 : decode b_MO_note 50 = .ok (.istore_n 1, 1) := by decide +kernel
theorem d_MO_note_51 : decode b_MO_note 51 = .ok (.iconst 0, 1) := by decide +kernel
theorem d_MO_note_52 : decode b_MO_note 52 = .ok (.istore_n 2, 1) := by decide +kernel
theorem d_MO_note_53 : decode b_MO_note 53 = .ok (.iload_n 2, 1) := by decide +kernel
theorem d_MO_note_54 : decode b_MO_note 54 = .ok (.aload_n 0, 1) := by decide +kernel
theorem d_MO_note_55 : decode b_MO_note 55 = .ok (.getfield 74, 3) := by decide +kernel
theorem d_MO_note_58 : decode b_MO_note 58 = .ok (.if_icmp .ge 26, 3) := by decide +kernel
theorem d_MO_note_61 : decode b_MO_note 61 = .ok (.bipush 16, 2) := by decide +kernel
theorem d_MO_note_63 : decode b_MO_note 63 = .ok (.iload_n 1, 1) := by decide +kernel
theorem d_MO_note_64 : decode b_MO_note 64 = .ok (.imul, 1) := by decide +kernel
theorem d_MO_note_65 : decode b_MO_note 65 = .ok (.aload_n 0, 1) := by decide +kernel
theorem d_MO_note_66 : decode b_MO_note 66 = .ok (.getfield 34, 3) := by decide +kernel
theorem d_MO_note_69 : decode b_MO_note 69 = .ok (.aload_n 0, 1) := by decide +kernel
theorem d_MO_note_70 : decode b_MO_note 70 = .ok (.getfield 25, 3) := by decide +kernel
theorem d_MO_note_73 : decode b_MO_note 73 = .ok (.iload_n 2, 1) := by decide +kernel
theorem d_MO_note_74 : decode b_MO_note 74 = .ok (.iaload, 1) := by decide +kernel
theorem d_MO_note_75 : decode b_MO_note 75 = .ok (.iaload, 1) := by decide +kernel
theorem d_MO_note_76 : decode b_MO_note 76 = .ok (.iadd, 1) := by decide +kernel
theorem d_MO_note_77 : decode b_MO_note 77 = .ok (.istore_n 1, 1) := by decide +kernel
theorem d_MO_note_78 : decode b_MO_note 78 = .ok (.iinc 2 1, 3) := by decide +kernel
theorem d_MO_note_81 : decode b_MO_note 81 = .ok (.goto (-28), 3) := by decide +kernel
theorem d_MO_note_84 : decode b_MO_note 84 = .ok (.aload_n 0, 1) := by decide +kernel
theorem d_MO_note_85 : decode b_MO_note 85 = .ok (.getfield 43, 3) := by decide +kernel
theorem d_MO_note_88 : decode b_MO_note 88 = .ok (.iload_n 1, 1) := by decide +kernel
theorem d_MO_note_89 : decode b_MO_note 89 = .ok (.iconst 5, 1) := by decide +kernel
theorem d_MO_note_90 : decode b_MO_note 90 = .ok (.ishr, 1) := by decide +kernel
theorem d_MO_note_91 : decode b_MO_note 91 = .ok (.aload_n 0, 1) := by decide +kernel
theorem d_MO_note_92 : decode b_MO_note 92 = .ok (.getfield 43, 3) := by decide +kernel
theorem d_MO_note_95 : decode b_MO_note 95 = .ok (.iload_n 1, 1) := by decide +kernel
theorem d_MO_note_96 : decode b_MO_note 96 = .ok (.iconst 5, 1) := by decide +kernel
theorem d_MO_note_97 : decode b_MO_note 97 = .ok (.ishr, 1) := by decide +kernel
theorem d_MO_note_98 : decode b_MO_note 98 = .ok (.iaload, 1) := by decide +kernel
theorem d_MO_note_99 : decode b_MO_note 99 = .ok (.iconst 1, 1) := by decide +kernel
theorem d_MO_note_100 : decode b_MO_note 100 = .ok (.iload_n 1, 1) := by decide +kernel
theorem d_MO_note_101 : decode b_MO_note 101 = .ok (.bipush 31, 2) := by decide +kernel
theorem d_MO_note_103 : decode b_MO_note 103 = .ok (.iand, 1) := by decide +kernel
theorem d_MO_note_104 : decode b_MO_note 104 = .ok (.ishl, 1) := by decide +kernel
theorem d_MO_note_105 : decode b_MO_note 105 = .ok (.ior, 1) := by decide +kernel
theorem d_MO_note_106 : decode b_MO_note 106 = .ok (.iastore, 1) := by decide +kernel
theorem d_MO_note_107 : decode b_MO_note 107 = .ok (.return_, 1) := by decide +kernel
theorem d_MO_fits_0 : decode b_MO_fits 0 = .ok (.aload_n 0, 1) := by decide +kernel
theorem d_MO_fits_1 : decode b_MO_fits 1 = .ok (.getfield 19, 3) := by decide +kernel
theorem d_MO_fits_4 : decode b_MO_fits 4 = .ok (.iload_n 1, 1) := by decide +kernel
theorem d_MO_fits_5 : decode b_MO_fits 5 = .ok (.iaload, 1) := by decide +kernel
theorem d_MO_fits_6 : decode b_MO_fits 6 = .ok (.istore_n 3, 1) := by decide +kernel
theorem d_MO_fits_7 : decode b_MO_fits 7 = .ok (.aload_n 0, 1) := by decide +kernel
theorem d_MO_fits_8 : decode b_MO_fits 8 = .ok (.iload_n 1, 1) := by decide +kernel
theorem d_MO_fits_9 : decode b_MO_fits 9 = .ok (.invokevirtual 100, 3) := by decide +kernel
theorem d_MO_fits_12 : decode b_MO_fits 12 = .ok (.istore 4, 2) := by decide +kernel
theorem d_MO_fits_14 : decode b_MO_fits 14 = .ok (.iconst 1, 1) := by decide +kernel
theorem d_MO_fits_15 : decode b_MO_fits 15 = .ok (.istore 5, 2) := by decide +kernel
theorem d_MO_fits_17 : decode b_MO_fits 17 = .ok (.iconst 0, 1) := by decide +kernel
theorem d_MO_fits_18 : decode b_MO_fits 18 = .ok (.istore 6, 2) := by decide +kernel
theorem d_MO_fits_20 : decode b_MO_fits 20 = .ok (.iload 6, 2) := by decide +kernel
theorem d_MO_fits_22 : decode b_MO_fits 22 = .ok (.aload_n 0, 1) := by decide +kernel
theorem d_MO_fits_23 : decode b_MO_fits 23 = .ok (.getfield 7, 3) := by decide +kernel
theorem d_MO_fits_26 : decode b_MO_fits 26 = .ok (.iload_n 3, 1) := by decide +kernel
theorem d_MO_fits_27 : decode b_MO_fits 27 = .ok (.iaload, 1) := by decide +kernel
theorem d_MO_fits_28 : decode b_MO_fits 28 = .ok (.if_icmp .ge 112, 3) := by decide +kernel
theorem d_MO_fits_31 : decode b_MO_fits 31 = .ok (.iload 5, 2) := by decide +kernel
theorem d_MO_fits_33 : decode b_MO_fits 33 = .ok (.ifCond .eq 107, 3) := by decide +kernel
theorem d_MO_fits_36 : decode b_MO_fits 36 = .ok (.aload_n 0, 1) := by decide +kernel
theorem d_MO_fits_37 : decode b_MO_fits 37 = .ok (.getfield 22, 3) := by decide +kernel
theorem d_MO_fits_40 : decode b_MO_fits 40 = .ok (.iconst 3, 1) := by decide +kernel
theorem d_MO_fits_41 : decode b_MO_fits 41 = .ok (.iload_n 1, 1) := by decide +kernel
theorem d_MO_fits_42 : decode b_MO_fits 42 = .ok (.imul, 1) := by decide +kernel
theorem d_MO_fits_43 : decode b_MO_fits 43 = .ok (.iload 6, 2) := by decide +kernel
theorem d_MO_fits_45 : decode b_MO_fits 45 = .ok (.iadd, 1) := by decide +kernel
theorem d_MO_fits_46 : decode b_MO_fits 46 = .ok (.iaload, 1) := by decide +kernel
theorem d_MO_fits_47 : decode b_MO_fits 47 = .ok (.istore 7, 2) := by decide +kernel
theorem d_MO_fits_49 : decode b_MO_fits 49 = .ok (.aload_n 0, 1) := by decide +kernel
theorem d_MO_fits_50 : decode b_MO_fits 50 = .ok (.getfield 16, 3) := by decide +kernel
theorem d_MO_fits_53 : decode b_MO_fits 53 = .ok (.bipush 36, 2) := by decide +kernel
theorem d_MO_fits_55 : decode b_MO_fits 55 = .ok (.iload_n 3, 1) := by decide +kernel
theorem d_MO_fits_56 : decode b_MO_fits 56 = .ok (.imul, 1) := by decide +kernel
theorem d_MO_fits_57 : decode b_MO_fits 57 = .ok (.iconst 3, 1) := by decide +kernel
theorem d_MO_fits_58 : decode b_MO_fits 58 = .ok (.iload_n 2, 1) := by decide +kernel
theorem d_MO_fits_59 : decode b_MO_fits 59 = .ok (.imul, 1) := by decide +kernel
theorem d_MO_fits_60 : decode b_MO_fits 60 = .ok (.iadd, 1) := by decide +kernel
theorem d_MO_fits_61 : decode b_MO_fits 61 = .ok (.iload 6, 2) := by decide +kernel
theorem d_MO_fits_63 : decode b_MO_fits 63 = .ok (.iadd, 1) := by decide +kernel
theorem d_MO_fits_64 : decode b_MO_fits 64 = .ok (.iaload, 1) := by decide +kernel
theorem d_MO_fits_65 : decode b_MO_fits 65 = .ok (.istore 8, 2) := by decide +kernel
theorem d_MO_fits_67 : decode b_MO_fits 67 = .ok (.iload 4, 2) := by decide +kernel
theorem d_MO_fits_69 : decode b_MO_fits 69 = .ok (.iload 7, 2) := by decide +kernel
theorem d_MO_fits_71 : decode b_MO_fits 71 = .ok (.ishr, 1) := by decide +kernel
theorem d_MO_fits_72 : decode b_MO_fits 72 = .ok (.iconst 1, 1) := by decide +kernel
theorem d_MO_fits_73 : decode b_MO_fits 73 = .ok (.iand, 1) := by decide +kernel
theorem d_MO_fits_74 : decode b_MO_fits 74 = .ok (.ifCond .eq 15, 3) := by decide +kernel
theorem d_MO_fits_77 : decode b_MO_fits 77 = .ok (.aload_n 0, 1) := by decide +kernel
theorem d_MO_fits_78 : decode b_MO_fits 78 = .ok (.getfield 34, 3) := by decide +kernel
theorem d_MO_fits_81 : decode b_MO_fits 81 = .ok (.iload 7, 2) := by decide +kernel
theorem d_MO_fits_83 : decode b_MO_fits 83 = .ok (.iaload, 1) := by decide +kernel
theorem d_MO_fits_84 : decode b_MO_fits 84 = .ok (.iload 8, 2) := by decide +kernel
theorem d_MO_fits_86 : decode b_MO_fits 86 = .ok (.if_icmp .ne 7, 3) := by decide +kernel
theorem d_MO_fits_89 : decode b_MO_fits 89 = .ok (.iconst 1, 1) := by decide +kernel
theorem d_MO_fits_90 : decode b_MO_fits 90 = .ok (.goto 4, 3) := by decide +kernel
theorem d_MO_fits_93 : decode b_MO_fits 93 = .ok (.iconst 0, 1) := by decide +kernel
