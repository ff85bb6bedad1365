theorem dX11_op_0 : decode cX11_op 0 = .ok (.iload_n 1, 1) := by decide +kernel
theorem dX11_op_1 : decode cX11_op 1 = .ok (.iconst 0, 1) := by decide +kernel
theorem dX11_op_2 : decode cX11_op 2 = .ok (.bipush 7, 2) := by decide +kernel
theorem dX11_op_4 : decode cX11_op 4 = .ok (.invokestatic 79, 3) := by decide +kernel
theorem dX11_op_7 : decode cX11_op 7 = .ok (.ifCond .ne 5, 3) := by decide +kernel
theorem dX11_op_10 : decode cX11_op 10 = .ok (.iconst (-1), 1) := by decide +kernel
theorem dX11_op_11 : decode cX11_op 11 = .ok (.ireturn, 1) := by decide +kernel
theorem dX11_op_12 : decode cX11_op 12 = .ok (.iload_n 1, 1) := by decide +kernel
theorem dX11_op_13 : decode cX11_op 13 = .ok (.bipush 7, 2) := by decide +kernel
theorem dX11_op_15 : decode cX11_op 15 = .ok (.if_icmp .ne 7, 3) := by decide +kernel
theorem dX11_op_18 : decode cX11_op 18 = .ok (.iconst 1, 1) := by decide +kernel
theorem dX11_op_19 : decode cX11_op 19 = .ok (.goto 4, 3) := by decide +kernel
theorem dX11_op_22 : decode cX11_op 22 = .ok (.iconst 2, 1) := by decide +kernel
theorem dX11_op_23 : decode cX11_op 23 = .ok (.istore_n 2, 1) := by decide +kernel
theorem dX11_op_24 : decode cX11_op 24 = .ok (.aload_n 0, 1) := by decide +kernel
theorem dX11_op_25 : decode cX11_op 25 = .ok (.getfield 142, 3) := by decide +kernel
theorem dX11_op_28 : decode cX11_op 28 = .ok (.iload_n 2, 1) := by decide +kernel
theorem dX11_op_29 : decode cX11_op 29 = .ok (.if_icmp .ge 6, 3) := by decide +kernel
theorem dX11_op_32 : decode cX11_op 32 = .ok (.bipush (-3), 2) := by decide +kernel
theorem dX11_op_34 : decode cX11_op 34 = .ok (.ireturn, 1) := by decide +kernel
theorem dX11_op_35 : decode cX11_op 35 = .ok (.bipush 8, 2) := by decide +kernel
theorem dX11_op_37 : decode cX11_op 37 = .ok (.aload_n 0, 1) := by decide +kernel
theorem dX11_op_38 : decode cX11_op 38 = .ok (.getfield 142, 3) := by decide +kernel
theorem dX11_op_41 : decode cX11_op 41 = .ok (.iadd, 1) := by decide +kernel
theorem dX11_op_42 : decode cX11_op 42 = .ok (.iconst 1, 1) := by decide +kernel
theorem dX11_op_43 : decode cX11_op 43 = .ok (.isub, 1) := by decide +kernel
theorem dX11_op_44 : decode cX11_op 44 = .ok (.istore_n 3, 1) := by decide +kernel
theorem dX11_op_45 : decode cX11_op 45 = .ok (.iload_n 3, 1) := by decide +kernel
theorem dX11_op_46 : decode cX11_op 46 = .ok (.iload_n 2, 1) := by decide +kernel
theorem dX11_op_47 : decode cX11_op 47 = .ok (.isub, 1) := by decide +kernel
theorem dX11_op_48 : decode cX11_op 48 = .ok (.iconst 1, 1) := by decide +kernel
theorem dX11_op_49 : decode cX11_op 49 = .ok (.iadd, 1) := by decide +kernel
theorem dX11_op_50 : decode cX11_op 50 = .ok (.istore 4, 2) := by decide +kernel
theorem dX11_op_52 : decode cX11_op 52 = .ok (.iconst 1, 1) := by decide +kernel
theorem dX11_op_53 : decode cX11_op 53 = .ok (.istore 5, 2) := by decide +kernel
theorem dX11_op_55 : decode cX11_op 55 = .ok (.iload 4, 2) := by decide +kernel
theorem dX11_op_57 : decode cX11_op 57 = .ok (.istore 6, 2) := by decide +kernel
theorem dX11_op_59 : decode cX11_op 59 = .ok (.iload 6, 2) := by decide +kernel
theorem dX11_op_61 : decode cX11_op 61 = .ok (.iload_n 3, 1) := by decide +kernel
theorem dX11_op_62 : decode cX11_op 62 = .ok (.if_icmp .gt 21, 3) := by decide +kernel
theorem dX11_op_65 : decode cX11_op 65 = .ok (.iload 5, 2) := by decide +kernel
theorem dX11_op_67 : decode cX11_op 67 = .ok (.aload_n 0, 1) := by decide +kernel
theorem dX11_op_68 : decode cX11_op 68 = .ok (.getfield 57, 3) := by decide +kernel
theorem dX11_op_71 : decode cX11_op 71 = .ok (.iload 6, 2) := by decide +kernel
theorem dX11_op_73 : decode cX11_op 73 = .ok (.iaload, 1) := by decide +kernel
theorem dX11_op_74 : decode cX11_op 74 = .ok (.iadd, 1) := by decide +kernel
theorem dX11_op_75 : decode cX11_op 75 = .ok (.istore 5, 2) := by decide +kernel
theorem dX11_op_77 : decode cX11_op 77 = .ok (.iinc 6 1, 3) := by decide +kernel
theorem dX11_op_80 : decode cX11_op 80 = .ok (.goto (-21), 3) := by decide +kernel
theorem dX11_op_83 : decode cX11_op 83 = .ok (.iload 5, 2) := by decide +kernel
theorem dX11_op_85 : decode cX11_op 85 = .ok (.bipush 15, 2) := by decide +kernel
theorem dX11_op_87 : decode cX11_op 87 = .ok (.if_icmp .le 6, 3) := by decide +kernel
theorem dX11_op_90 : decode cX11_op 90 = .ok (.bipush (-4), 2) := by decide +kernel
theorem dX11_op_92 : decode cX11_op 92 = .ok (.ireturn, 1) := by decide +kernel
theorem dX11_op_93 : decode cX11_op 93 = .ok (.iload_n 2, 1) := by decide +kernel
theorem dX11_op_94 : decode cX11_op 94 = .ok (.iconst 2, 1) := by decide +kernel
theorem dX11_op_95 : decode cX11_op 95 = .ok (.if_icmp .ne 10, 3) := by decide +kernel
theorem dX11_op_98 : decode cX11_op 98 = .ok (.aload_n 0, 1) := by decide +kernel
theorem dX11_op_99 : decode cX11_op 99 = .ok (.iload_n 3, 1) := by decide +kernel
theorem dX11_op_100 : decode cX11_op 100 = .ok (.iload 4, 2) := by decide +kernel
theorem dX11_op_102 : decode cX11_op 102 = .ok (.invokevirtual 149, 3) := by decide +kernel
theorem dX11_op_105 : decode cX11_op 105 = .ok (.bipush 15, 2) := by decide +kernel
theorem dX11_op_107 : decode cX11_op 107 = .ok (.iload 4, 2) := by decide +kernel
theorem dX11_op_109 : decode cX11_op 109 = .ok (.imul, 1) := by decide +kernel
theorem dX11_op_110 : decode cX11_op 110 = .ok (.aload_n 0, 1) := by decide +kernel
theorem dX11_op_111 : decode cX11_op 111 = .ok (.getfield 57, 3) := by decide +kernel
theorem dX11_op_114 : decode cX11_op 114 = .ok (.iload 4, 2) := by decide +kernel
theorem dX11_op_116 : decode cX11_op 116 = .ok (.iaload, 1) := by decide +kernel
theorem dX11_op_117 : decode cX11_op 117 = .ok (.iadd, 1) := by decide +kernel
theorem dX11_op_118 : decode cX11_op 118 = .ok (.istore 6, 2) := by decide +kernel
theorem dX11_op_120 : decode cX11_op 120 = .ok (.aload_n 0, 1) := by decide +kernel
theorem dX11_op_121 : decode cX11_op 121 = .ok (.getfield 48, 3) := by decide +kernel
theorem dX11_op_124 : decode cX11_op 124 = .ok (.iload 6, 2) := by decide +kernel
theorem dX11_op_126 : decode cX11_op 126 = .ok (.iload_n 1, 1) := by decide +kernel
theorem dX11_op_127 : decode cX11_op 127 = .ok (.iastore, 1) := by decide +kernel
theorem dX11_op_128 : decode cX11_op 128 = .ok (.aload_n 0, 1) := by decide +kernel
theorem dX11_op_129 : decode cX11_op 129 = .ok (.getfield 57, 3) := by decide +kernel
theorem dX11_op_132 : decode cX11_op 132 = .ok (.iload 4, 2) := by decide +kernel
theorem dX11_op_134 : decode cX11_op 134 = .ok (.dup2, 1) := by decide +kernel
theorem dX11_op_135 : decode cX11_op 135 = .ok (.iaload, 1) := by decide +kernel
theorem dX11_op_136 : decode cX11_op 136 = .ok (.iconst 1, 1) := by decide +kernel
theorem dX11_op_137 : decode cX11_op 137 = .ok (.iadd, 1) := by decide +kernel
theorem dX11_op_138 : decode cX11_op 138 = .ok (.iastore, 1) := by decide +kernel
theorem dX11_op_139 : decode cX11_op 139 = .ok (.aload_n 0, 1) := by decide +kernel
theorem dX11_op_140 : decode cX11_op 140 = .ok (.dup, 1) := by decide +kernel
theorem dX11_op_141 : decode cX11_op 141 = .ok (.getfield 142, 3) := by decide +kernel
theorem dX11_op_144 : decode cX11_op 144 = .ok (.iload_n 2, 1) := by decide +kernel
theorem dX11_op_145 : decode cX11_op 145 = .ok (.iconst 1, 1) := by decide +kernel
theorem dX11_op_146 : decode cX11_op 146 = .ok (.isub, 1) := by decide +kernel
theorem dX11_op_147 : decode cX11_op 147 = .ok (.isub, 1) := by decide +kernel
theorem dX11_op_148 : decode cX11_op 148 = .ok (.putfield 142, 3) := by decide +kernel
theorem dX11_op_151 : decode cX11_op 151 = .ok (.aload_n 0, 1) := by decide +kernel
theorem dX11_op_152 : decode cX11_op 152 = .ok (.getfield 142, 3) := by decide +kernel
theorem dX11_op_155 : decode cX11_op 155 = .ok (.ireturn, 1) := by decide +kernel
theorem dX11_condition_0 : decode cX11_condition 0 = .ok (.aload_n 0, 1) := by decide +kernel
theorem dX11_condition_1 : decode cX11_condition 1 = .ok (.getfield 142, 3) := by decide +kernel
theorem dX11_condition_4 : decode cX11_condition 4 = .ok (.iconst 1, 1) := by decide +kernel
theorem dX11_condition_5 : decode cX11_condition 5 = .ok (.if_icmp .eq 6, 3) := by decide +kernel
theorem dX11_condition_8 : decode cX11_condition 8 = .ok (.bipush (-3), 2) := by decide +kernel
theorem dX11_condition_10 : decode cX11_condition 10 = .ok (.ireturn, 1) := by decide +kernel
theorem dX11_condition_11 : decode cX11_condition 11 = .ok (.aload_n 0, 1) := by decide +kernel
theorem dX11_condition_12 : decode cX11_condition 12 = .ok (.getfield 152, 3) := by decide +kernel
theorem dX11_condition_15 : decode cX11_condition 15 = .ok (.bipush 8, 2) := by decide +kernel
theorem dX11_condition_17 : decode cX11_condition 17 = .ok (.if_icmp .ne 6, 3) := by decide +kernel
theorem dX11_condition_20 : decode cX11_condition 20 = .ok (.bipush (-4), 2) := by decide +kernel
theorem dX11_condition_22 : decode cX11_condition 22 = .ok (.ireturn, 1) := by decide +kernel
theorem dX11_condition_23 : decode cX11_condition 23 = .ok (.aload_n 0, 1) := by decide +kernel
theorem dX11_condition_24 : decode cX11_condition 24 = .ok (.getfield 57, 3) := by decide +kernel
theorem dX11_condition_27 : decode cX11_condition 27 = .ok (.aload_n 0, 1) := by decide +kernel
theorem dX11_condition_28 : decode cX11_condition 28 = .ok (.getfield 152, 3) := by decide +kernel
theorem dX11_condition_31 : decode cX11_condition 31 = .ok (.iconst 0, 1) := by decide +kernel
theorem dX11_condition_32 : decode cX11_condition 32 = .ok (.iastore, 1) := by decide +kernel
theorem dX11_condition_33 : decode cX11_condition 33 = .ok (.aload_n 0, 1) := by decide +kernel
theorem dX11_condition_34 : decode cX11_condition 34 = .ok (.bipush 8, 2) := by decide +kernel
theorem dX11_condition_36 : decode cX11_condition 36 = .ok (.aload_n 0, 1) := by decide +kernel
theorem dX11_condition_37 : decode cX11_condition 37 = .ok (.getfield 152, 3) := by decide +kernel
theorem dX11_condition_40 : decode cX11_condition 40 = .ok (.invokevirtual 149, 3) := by decide +kernel
theorem dX11_condition_43 : decode cX11_condition 43 = .ok (.aload_n 0, 1) := by decide +kernel
theorem dX11_condition_44 : decode cX11_condition 44 = .ok (.iconst 0, 1) := by decide +kernel
theorem dX11_condition_45 : decode cX11_condition 45 = .ok (.putfield 142, 3) := by decide +kernel
theorem dX11_condition_48 : decode cX11_condition 48 = .ok (.aload_n 0, 1) := by decide +kernel
theorem dX11_condition_49 : decode cX11_condition 49 = .ok (.dup, 1) := by decide +kernel
theorem dX11_condition_50 : decode cX11_condition 50 = .ok (.getfield 152, 3) := by decide +kernel
theorem dX11_condition_53 : decode cX11_condition 53 = .ok (.iconst 1, 1) := by decide +kernel
theorem dX11_condition_54 : decode cX11_condition 54 = .ok (.iadd, 1) := by decide +kernel
theorem dX11_condition_55 : decode cX11_condition 55 = .ok (.putfield 152, 3) := by decide +kernel
theorem dX11_condition_58 : decode cX11_condition 58 = .ok (.aload_n 0, 1) := by decide +kernel
theorem dX11_condition_59 : decode cX11_condition 59 = .ok (.getfield 152, 3) := by decide +kernel
theorem dX11_condition_62 : decode cX11_condition 62 = .ok (.iconst 1, 1) := by decide +kernel
theorem dX11_condition_63 : decode cX11_condition 63 = .ok (.isub, 1) := by decide +kernel
theorem dX11_condition_64 : decode cX11_condition 64 = .ok (.ireturn, 1) := by decide +kernel
theorem dX11_clear_0 : decode cX11_clear 0 = .ok (.iload_n 1, 1) := by decide +kernel
theorem dX11_clear_1 : decode cX11_clear 1 = .ok (.iconst 0, 1) := by decide +kernel
theorem dX11_clear_2 : decode cX11_clear 2 = .ok (.iconst 1, 1) := by decide +kernel
theorem dX11_clear_3 : decode cX11_clear 3 = .ok (.invokestatic 79, 3) := by decide +kernel
theorem dX11_clear_6 : decode cX11_clear 6 = .ok (.ifCond .ne 6, 3) := by decide +kernel
theorem dX11_clear_9 : decode cX11_clear 9 = .ok (.bipush (-2), 2) := by decide +kernel
theorem dX11_clear_11 : decode cX11_clear 11 = .ok (.ireturn, 1) := by decide +kernel
theorem dX11_clear_12 : decode cX11_clear 12 = .ok (.aload_n 0, 1) := by decide +kernel
theorem dX11_clear_13 : decode cX11_clear 13 = .ok (.getfield 142, 3) := by decide +kernel
theorem dX11_clear_16 : decode cX11_clear 16 = .ok (.istore_n 2, 1) := by decide +kernel
theorem dX11_clear_17 : decode cX11_clear 17 = .ok (.aload_n 0, 1) := by decide +kernel
theorem dX11_clear_18 : decode cX11_clear 18 = .ok (.iconst 0, 1) := by decide +kernel
theorem dX11_clear_19 : decode cX11_clear 19 = .ok (.putfield 142, 3) := by decide +kernel
theorem dX11_clear_22 : decode cX11_clear 22 = .ok (.iload_n 1, 1) := by decide +kernel
theorem dX11_clear_23 : decode cX11_clear 23 = .ok (.iconst 1, 1) := by decide +kernel
theorem dX11_clear_24 : decode cX11_clear 24 = .ok (.if_icmp .ne 15, 3) := by decide +kernel
theorem dX11_clear_27 : decode cX11_clear 27 = .ok (.iload_n 2, 1) := by decide +kernel
theorem dX11_clear_28 : decode cX11_clear 28 = .ok (.aload_n 0, 1) := by decide +kernel
theorem dX11_clear_29 : decode cX11_clear 29 = .ok (.getfield 152, 3) := by decide +kernel
theorem dX11_clear_32 : decode cX11_clear 32 = .ok (.iadd, 1) := by decide +kernel
theorem dX11_clear_33 : decode cX11_clear 33 = .ok (.istore_n 2, 1) := by decide +kernel
theorem dX11_clear_34 : decode cX11_clear 34 = .ok (.aload_n 0, 1) := by decide +kernel
theorem dX11_clear_35 : decode cX11_clear 35 = .ok (.iconst 0, 1) := by decide +kernel
theorem dX11_clear_36 : decode cX11_clear 36 = .ok (.putfield 152, 3) := by decide +kernel
theorem dX11_clear_39 : decode cX11_clear 39 = .ok (.iload_n 2, 1) := by decide +kernel
theorem dX11_clear_40 : decode cX11_clear 40 = .ok (.ireturn, 1) := by decide +kernel
theorem dX11_nameAt_0 : decode cX11_nameAt 0 = .ok (.iconst 0, 1) := by decide +kernel
theorem dX11_nameAt_1 : decode cX11_nameAt 1 = .ok (.istore 4, 2) := by decide +kernel
theorem dX11_nameAt_3 : decode cX11_nameAt 3 = .ok (.iconst 0, 1) := by decide +kernel
theorem dX11_nameAt_4 : decode cX11_nameAt 4 = .ok (.istore 5, 2) := by decide +kernel
theorem dX11_nameAt_6 : decode cX11_nameAt 6 = .ok (.iload 5, 2) := by decide +kernel
theorem dX11_nameAt_8 : decode cX11_nameAt 8 = .ok (.iload_n 3, 1) := by decide +kernel
theorem dX11_nameAt_9 : decode cX11_nameAt 9 = .ok (.iload_n 1, 1) := by decide +kernel
theorem dX11_nameAt_10 : decode cX11_nameAt 10 = .ok (.invokestatic 109, 3) := by decide +kernel
theorem dX11_nameAt_13 : decode cX11_nameAt 13 = .ok (.if_icmp .ge 84, 3) := by decide +kernel
theorem dX11_nameAt_16 : decode cX11_nameAt 16 = .ok (.iload_n 1, 1) := by decide +kernel
theorem dX11_nameAt_17 : decode cX11_nameAt 17 = .ok (.aload_n 0, 1) := by decide +kernel
theorem dX11_nameAt_18 : decode cX11_nameAt 18 = .ok (.getfield 76, 3) := by decide +kernel
theorem dX11_nameAt_21 : decode cX11_nameAt 21 = .ok (.if_icmp .ge 76, 3) := by decide +kernel
theorem dX11_nameAt_24 : decode cX11_nameAt 24 = .ok (.bipush 6, 2) := by decide +kernel
theorem dX11_nameAt_26 : decode cX11_nameAt 26 = .ok (.iload_n 1, 1) := by decide +kernel
theorem dX11_nameAt_27 : decode cX11_nameAt 27 = .ok (.imul, 1) := by decide +kernel
theorem dX11_nameAt_28 : decode cX11_nameAt 28 = .ok (.iload 5, 2) := by decide +kernel
theorem dX11_nameAt_30 : decode cX11_nameAt 30 = .ok (.iadd, 1) := by decide +kernel
theorem dX11_nameAt_31 : decode cX11_nameAt 31 = .ok (.istore 6, 2) := by decide +kernel
theorem dX11_nameAt_33 : decode cX11_nameAt 33 = .ok (.aload_n 0, 1) := by decide +kernel
theorem dX11_nameAt_34 : decode cX11_nameAt 34 = .ok (.getfield 13, 3) := by decide +kernel
theorem dX11_nameAt_37 : decode cX11_nameAt 37 = .ok (.iload 6, 2) := by decide +kernel
theorem dX11_nameAt_39 : decode cX11_nameAt 39 = .ok (.iaload, 1) := by decide +kernel
theorem dX11_nameAt_40 : decode cX11_nameAt 40 = .ok (.iconst 1, 1) := by decide +kernel
theorem dX11_nameAt_41 : decode cX11_nameAt 41 = .ok (.if_icmp .gt 50, 3) := by decide +kernel
theorem dX11_nameAt_44 : decode cX11_nameAt 44 = .ok (.aload_n 0, 1) := by decide +kernel
theorem dX11_nameAt_45 : decode cX11_nameAt 45 = .ok (.getfield 16, 3) := by decide +kernel
theorem dX11_nameAt_48 : decode cX11_nameAt 48 = .ok (.iload 6, 2) := by decide +kernel
theorem dX11_nameAt_50 : decode cX11_nameAt 50 = .ok (.iaload, 1) := by decide +kernel
theorem dX11_nameAt_51 : decode cX11_nameAt 51 = .ok (.iload_n 2, 1) := by decide +kernel
theorem dX11_nameAt_52 : decode cX11_nameAt 52 = .ok (.if_icmp .eq 6, 3) := by decide +kernel
theorem dX11_nameAt_55 : decode cX11_nameAt 55 = .ok (.goto 36, 3) := by decide +kernel
theorem dX11_nameAt_58 : decode cX11_nameAt 58 = .ok (.aload_n 0, 1) := by decide +kernel
theorem dX11_nameAt_59 : decode cX11_nameAt 59 = .ok (.getfield 13, 3) := by decide +kernel
theorem dX11_nameAt_62 : decode cX11_nameAt 62 = .ok (.iload 6, 2) := by decide +kernel
theorem dX11_nameAt_64 : decode cX11_nameAt 64 = .ok (.iaload, 1) := by decide +kernel
theorem dX11_nameAt_65 : decode cX11_nameAt 65 = .ok (.iconst 1, 1) := by decide +kernel
theorem dX11_nameAt_66 : decode cX11_nameAt 66 = .ok (.if_icmp .ne 16, 3) := by decide +kernel
theorem dX11_nameAt_69 : decode cX11_nameAt 69 = .ok (.iload 4, 2) := by decide +kernel
theorem dX11_nameAt_71 : decode cX11_nameAt 71 = .ok (.aload_n 0, 1) := by decide +kernel
theorem dX11_nameAt_72 : decode cX11_nameAt 72 = .ok (.getfield 19, 3) := by decide +kernel
theorem dX11_nameAt_75 : decode cX11_nameAt 75 = .ok (.iload 6, 2) := by decide +kernel
theorem dX11_nameAt_77 : decode cX11_nameAt 77 = .ok (.iaload, 1) := by decide +kernel
theorem dX11_nameAt_78 : decode cX11_nameAt 78 = .ok (.iadd, 1) := by decide +kernel
theorem dX11_nameAt_79 : decode cX11_nameAt 79 = .ok (.goto 10, 3) := by decide +kernel
theorem dX11_nameAt_82 : decode cX11_nameAt 82 = .ok (.aload_n 0, 1) := by decide +kernel
theorem dX11_nameAt_83 : decode cX11_nameAt 83 = .ok (.getfield 19, 3) := by decide +kernel
theorem dX11_nameAt_86 : decode cX11_nameAt 86 = .ok (.iload 6, 2) := by decide +kernel
theorem dX11_nameAt_88 : decode cX11_nameAt 88 = .ok (.iaload, 1) := by decide +kernel
theorem dX11_nameAt_89 : decode cX11_nameAt 89 = .ok (.istore 4, 2) := by decide +kernel
theorem dX11_nameAt_91 : decode cX11_nameAt 91 = .ok (.iinc 5 1, 3) := by decide +kernel
theorem dX11_nameAt_94 : decode cX11_nameAt 94 = .ok (.goto (-88), 3) := by decide +kernel
theorem dX11_nameAt_97 : decode cX11_nameAt 97 = .ok (.iload 4, 2) := by decide +kernel
theorem dX11_nameAt_99 : decode cX11_nameAt 99 = .ok (.ireturn, 1) := by decide +kernel
theorem dX11_underWay_0 : decode cX11_underWay 0 = .ok (.iconst 0, 1) := by decide +kernel
theorem dX11_underWay_1 : decode cX11_underWay 1 = .ok (.istore 4, 2) := by decide +kernel
theorem dX11_underWay_3 : decode cX11_underWay 3 = .ok (.iconst 0, 1) := by decide +kernel
theorem dX11_underWay_4 : decode cX11_underWay 4 = .ok (.istore 5, 2) := by decide +kernel
theorem dX11_underWay_6 : decode cX11_underWay 6 = .ok (.iload 5, 2) := by decide +kernel
theorem dX11_underWay_8 : decode cX11_underWay 8 = .ok (.aload_n 0, 1) := by decide +kernel
theorem dX11_underWay_9 : decode cX11_underWay 9 = .ok (.getfield 94, 3) := by decide +kernel
theorem dX11_underWay_12 : decode cX11_underWay 12 = .ok (.if_icmp .ge 85, 3) := by decide +kernel
theorem dX11_underWay_15 : decode cX11_underWay 15 = .ok (.aload_n 0, 1) := by decide +kernel
theorem dX11_underWay_16 : decode cX11_underWay 16 = .ok (.getfield 28, 3) := by decide +kernel
theorem dX11_underWay_19 : decode cX11_underWay 19 = .ok (.iload 5, 2) := by decide +kernel
theorem dX11_underWay_21 : decode cX11_underWay 21 = .ok (.iaload, 1) := by decide +kernel
theorem dX11_underWay_22 : decode cX11_underWay 22 = .ok (.iload_n 1, 1) := by decide +kernel
theorem dX11_underWay_23 : decode cX11_underWay 23 = .ok (.if_icmp .ne 68, 3) := by decide +kernel
theorem dX11_underWay_26 : decode cX11_underWay 26 = .ok (.aload_n 0, 1) := by decide +kernel
theorem dX11_underWay_27 : decode cX11_underWay 27 = .ok (.getfield 31, 3) := by decide +kernel
theorem dX11_underWay_30 : decode cX11_underWay 30 = .ok (.iload 5, 2) := by decide +kernel
theorem dX11_underWay_32 : decode cX11_underWay 32 = .ok (.iaload, 1) := by decide +kernel
theorem dX11_underWay_33 : decode cX11_underWay 33 = .ok (.iload_n 2, 1) := by decide +kernel
theorem dX11_underWay_34 : decode cX11_underWay 34 = .ok (.if_icmp .ne 57, 3) := by decide +kernel
theorem dX11_underWay_37 : decode cX11_underWay 37 = .ok (.aload_n 0, 1) := by decide +kernel
theorem dX11_underWay_38 : decode cX11_underWay 38 = .ok (.getfield 34, 3) := by decide +kernel
theorem dX11_underWay_41 : decode cX11_underWay 41 = .ok (.iload 5, 2) := by decide +kernel
theorem dX11_underWay_43 : decode cX11_underWay 43 = .ok (.iaload, 1) := by decide +kernel
theorem dX11_underWay_44 : decode cX11_underWay 44 = .ok (.iload_n 3, 1) := by decide +kernel
theorem dX11_underWay_45 : decode cX11_underWay 45 = .ok (.iload_n 1, 1) := by decide +kernel
theorem dX11_underWay_46 : decode cX11_underWay 46 = .ok (.invokestatic 109, 3) := by decide +kernel
theorem dX11_underWay_49 : decode cX11_underWay 49 = .ok (.if_icmp .lt 6, 3) := by decide +kernel
theorem dX11_underWay_52 : decode cX11_underWay 52 = .ok (.goto 39, 3) := by decide +kernel
theorem dX11_underWay_55 : decode cX11_underWay 55 = .ok (.iload 4, 2) := by decide +kernel
theorem dX11_underWay_57 : decode cX11_underWay 57 = .ok (.aload_n 0, 1) := by decide +kernel
theorem dX11_underWay_58 : decode cX11_underWay 58 = .ok (.getfield 37, 3) := by decide +kernel
theorem dX11_underWay_61 : decode cX11_underWay 61 = .ok (.iload 5, 2) := by decide +kernel
theorem dX11_underWay_63 : decode cX11_underWay 63 = .ok (.iaload, 1) := by decide +kernel
theorem dX11_underWay_64 : decode cX11_underWay 64 = .ok (.iconst (-1), 1) := by decide +kernel
theorem dX11_underWay_65 : decode cX11_underWay 65 = .ok (.if_icmp .eq 22, 3) := by decide +kernel
theorem dX11_underWay_68 : decode cX11_underWay 68 = .ok (.aload_n 0, 1) := by decide +kernel
theorem dX11_underWay_69 : decode cX11_underWay 69 = .ok (.getfield 37, 3) := by decide +kernel
theorem dX11_underWay_72 : decode cX11_underWay 72 = .ok (.iload 5, 2) := by decide +kernel
theorem dX11_underWay_74 : decode cX11_underWay 74 = .ok (.iaload, 1) := by decide +kernel
theorem dX11_underWay_75 : decode cX11_underWay 75 = .ok (.iload_n 3, 1) := by decide +kernel
theorem dX11_underWay_76 : decode cX11_underWay 76 = .ok (.iload_n 2, 1) := by decide +kernel
theorem dX11_underWay_77 : decode cX11_underWay 77 = .ok (.invokestatic 109, 3) := by decide +kernel
theorem dX11_underWay_80 : decode cX11_underWay 80 = .ok (.if_icmp .ge 7, 3) := by decide +kernel
theorem dX11_underWay_83 : decode cX11_underWay 83 = .ok (.iconst 0, 1) := by decide +kernel
theorem dX11_underWay_84 : decode cX11_underWay 84 = .ok (.goto 4, 3) := by decide +kernel
theorem dX11_underWay_87 : decode cX11_underWay 87 = .ok (.iconst 1, 1) := by decide +kernel
theorem dX11_underWay_88 : decode cX11_underWay 88 = .ok (.iadd, 1) := by decide +kernel
theorem dX11_underWay_89 : decode cX11_underWay 89 = .ok (.istore 4, 2) := by decide +kernel
theorem dX11_underWay_91 : decode cX11_underWay 91 = .ok (.iinc 5 1, 3) := by decide +kernel
theorem dX11_underWay_94 : decode cX11_underWay 94 = .ok (.goto (-88), 3) := by decide +kernel
theorem dX11_underWay_97 : decode cX11_underWay 97 = .ok (.iload 4, 2) := by decide +kernel
theorem dX11_underWay_99 : decode cX11_underWay 99 = .ok (.ireturn, 1) := by decide +kernel
theorem dX11_give_0 : decode cX11_give 0 = .ok (.iload_n 0, 1) := by decide +kernel
theorem dX11_give_1 : decode cX11_give 1 = .ok (.tableswitch 87 0 5 #[39, 43, 47, 51, 62, 73], 39) := by decide +kernel
theorem dX11_give_40 : decode cX11_give 40 = .ok (.iload_n 1, 1) := by decide +kernel
theorem dX11_give_41 : decode cX11_give 41 = .ok (.iload_n 2, 1) := by decide +kernel
theorem dX11_give_42 : decode cX11_give 42 = .ok (.iadd, 1) := by decide +kernel
theorem dX11_give_43 : decode cX11_give 43 = .ok (.ireturn, 1) := by decide +kernel
theorem dX11_give_44 : decode cX11_give 44 = .ok (.iload_n 1, 1) := by decide +kernel
theorem dX11_give_45 : decode cX11_give 45 = .ok (.iload_n 2, 1) := by decide +kernel
theorem dX11_give_46 : decode cX11_give 46 = .ok (.isub, 1) := by decide +kernel
theorem dX11_give_47 : decode cX11_give 47 = .ok (.ireturn, 1) := by decide +kernel
theorem dX11_give_48 : decode cX11_give 48 = .ok (.iload_n 1, 1) := by decide +kernel
theorem dX11_give_49 : decode cX11_give 49 = .ok (.iload_n 2, 1) := by decide +kernel
theorem dX11_give_50 : decode cX11_give 50 = .ok (.imul, 1) := by decide +kernel
theorem dX11_give_51 : decode cX11_give 51 = .ok (.ireturn, 1) := by decide +kernel
theorem dX11_give_52 : decode cX11_give 52 = .ok (.iload_n 1, 1) := by decide +kernel
theorem dX11_give_53 : decode cX11_give 53 = .ok (.iload_n 2, 1) := by decide +kernel
theorem dX11_give_54 : decode cX11_give 54 = .ok (.if_icmp .ge 7, 3) := by decide +kernel
theorem dX11_give_57 : decode cX11_give 57 = .ok (.iconst 1, 1) := by decide +kernel
theorem dX11_give_58 : decode cX11_give 58 = .ok (.goto 4, 3) := by decide +kernel
theorem dX11_give_61 : decode cX11_give 61 = .ok (.iconst 0, 1) := by decide +kernel
theorem dX11_give_62 : decode cX11_give 62 = .ok (.ireturn, 1) := by decide +kernel
theorem dX11_give_63 : decode cX11_give 63 = .ok (.iload_n 1, 1) := by decide +kernel
theorem dX11_give_64 : decode cX11_give 64 = .ok (.iload_n 2, 1) := by decide +kernel
theorem dX11_give_65 : decode cX11_give 65 = .ok (.if_icmp .ne 7, 3) := by decide +kernel
theorem dX11_give_68 : decode cX11_give 68 = .ok (.iconst 1, 1) := by decide +kernel
theorem dX11_give_69 : decode cX11_give 69 = .ok (.goto 4, 3) := by decide +kernel
theorem dX11_give_72 : decode cX11_give 72 = .ok (.iconst 0, 1) := by decide +kernel
theorem dX11_give_73 : decode cX11_give 73 = .ok (.ireturn, 1) := by decide +kernel
theorem dX11_give_74 : decode cX11_give 74 = .ok (.iload_n 1, 1) := by decide +kernel
theorem dX11_give_75 : decode cX11_give 75 = .ok (.ifCond .eq 11, 3) := by decide +kernel
theorem dX11_give_78 : decode cX11_give 78 = .ok (.iload_n 2, 1) := by decide +kernel
theorem dX11_give_79 : decode cX11_give 79 = .ok (.ifCond .eq 7, 3) := by decide +kernel
theorem dX11_give_82 : decode cX11_give 82 = .ok (.iconst 1, 1) := by decide +kernel
theorem dX11_give_83 : decode cX11_give 83 = .ok (.goto 4, 3) := by decide +kernel
theorem dX11_give_86 : decode cX11_give 86 = .ok (.iconst 0, 1) := by decide +kernel
theorem dX11_give_87 : decode cX11_give 87 = .ok (.ireturn, 1) := by decide +kernel
theorem dX11_give_88 : decode cX11_give 88 = .ok (.iload_n 1, 1) := by decide +kernel
theorem dX11_give_89 : decode cX11_give 89 = .ok (.ifCond .ne 7, 3) := by decide +kernel
theorem dX11_give_92 : decode cX11_give 92 = .ok (.iload_n 2, 1) := by decide +kernel
theorem dX11_give_93 : decode cX11_give 93 = .ok (.ifCond .eq 7, 3) := by decide +kernel
theorem dX11_give_96 : decode cX11_give 96 = .ok (.iconst 1, 1) := by decide +kernel
theorem dX11_give_97 : decode cX11_give 97 = .ok (.goto 4, 3) := by decide +kernel
theorem dX11_give_100 : decode cX11_give 100 = .ok (.iconst 0, 1) := by decide +kernel
theorem dX11_give_101 : decode cX11_give 101 = .ok (.ireturn, 1) := by decide +kernel
theorem dX11_worthOf_0 : decode cX11_worthOf 0 = .ok (.iconst 0, 1) := by decide +kernel
theorem dX11_worthOf_1 : decode cX11_worthOf 1 = .ok (.istore_n 3, 1) := by decide +kernel
theorem dX11_worthOf_2 : decode cX11_worthOf 2 = .ok (.bipush 15, 2) := by decide +kernel
theorem dX11_worthOf_4 : decode cX11_worthOf 4 = .ok (.iload_n 1, 1) := by decide +kernel
theorem dX11_worthOf_5 : decode cX11_worthOf 5 = .ok (.imul, 1) := by decide +kernel
theorem dX11_worthOf_6 : decode cX11_worthOf 6 = .ok (.istore 4, 2) := by decide +kernel
theorem dX11_worthOf_8 : decode cX11_worthOf 8 = .ok (.iload 4, 2) := by decide +kernel
theorem dX11_worthOf_10 : decode cX11_worthOf 10 = .ok (.bipush 15, 2) := by decide +kernel
theorem dX11_worthOf_12 : decode cX11_worthOf 12 = .ok (.iload_n 1, 1) := by decide +kernel
theorem dX11_worthOf_13 : decode cX11_worthOf 13 = .ok (.imul, 1) := by decide +kernel
theorem dX11_worthOf_14 : decode cX11_worthOf 14 = .ok (.aload_n 0, 1) := by decide +kernel
theorem dX11_worthOf_15 : decode cX11_worthOf 15 = .ok (.getfield 57, 3) := by decide +kernel
theorem dX11_worthOf_18 : decode cX11_worthOf 18 = .ok (.iload_n 1, 1) := by decide +kernel
theorem dX11_worthOf_19 : decode cX11_worthOf 19 = .ok (.iaload, 1) := by decide +kernel
theorem dX11_worthOf_20 : decode cX11_worthOf 20 = .ok (.iadd, 1) := by decide +kernel
theorem dX11_worthOf_21 : decode cX11_worthOf 21 = .ok (.if_icmp .ge 187, 3) := by decide +kernel
theorem dX11_worthOf_24 : decode cX11_worthOf 24 = .ok (.aload_n 0, 1) := by decide +kernel
theorem dX11_worthOf_25 : decode cX11_worthOf 25 = .ok (.getfield 48, 3) := by decide +kernel
theorem dX11_worthOf_28 : decode cX11_worthOf 28 = .ok (.iload 4, 2) := by decide +kernel
theorem dX11_worthOf_30 : decode cX11_worthOf 30 = .ok (.iaload, 1) := by decide +kernel
theorem dX11_worthOf_31 : decode cX11_worthOf 31 = .ok (.istore 5, 2) := by decide +kernel
theorem dX11_worthOf_33 : decode cX11_worthOf 33 = .ok (.iload 5, 2) := by decide +kernel
theorem dX11_worthOf_35 : decode cX11_worthOf 35 = .ok (.bipush 7, 2) := by decide +kernel
theorem dX11_worthOf_37 : decode cX11_worthOf 37 = .ok (.if_icmp .ne 30, 3) := by decide +kernel
theorem dX11_worthOf_40 : decode cX11_worthOf 40 = .ok (.aload_n 0, 1) := by decide +kernel
theorem dX11_worthOf_41 : decode cX11_worthOf 41 = .ok (.getfield 60, 3) := by decide +kernel
theorem dX11_worthOf_44 : decode cX11_worthOf 44 = .ok (.iload_n 3, 1) := by decide +kernel
theorem dX11_worthOf_45 : decode cX11_worthOf 45 = .ok (.iconst 1, 1) := by decide +kernel
theorem dX11_worthOf_46 : decode cX11_worthOf 46 = .ok (.isub, 1) := by decide +kernel
theorem dX11_worthOf_47 : decode cX11_worthOf 47 = .ok (.aload_n 0, 1) := by decide +kernel
theorem dX11_worthOf_48 : decode cX11_worthOf 48 = .ok (.getfield 60, 3) := by decide +kernel
theorem dX11_worthOf_51 : decode cX11_worthOf 51 = .ok (.iload_n 3, 1) := by decide +kernel
theorem dX11_worthOf_52 : decode cX11_worthOf 52 = .ok (.iconst 1, 1) := by decide +kernel
theorem dX11_worthOf_53 : decode cX11_worthOf 53 = .ok (.isub, 1) := by decide +kernel
theorem dX11_worthOf_54 : decode cX11_worthOf 54 = .ok (.iaload, 1) := by decide +kernel
theorem dX11_worthOf_55 : decode cX11_worthOf 55 = .ok (.ifCond .ne 7, 3) := by decide +kernel
theorem dX11_worthOf_58 : decode cX11_worthOf 58 = .ok (.iconst 1, 1) := by decide +kernel
theorem dX11_worthOf_59 : decode cX11_worthOf 59 = .ok (.goto 4, 3) := by decide +kernel
theorem dX11_worthOf_62 : decode cX11_worthOf 62 = .ok (.iconst 0, 1) := by decide +kernel
theorem dX11_worthOf_63 : decode cX11_worthOf 63 = .ok (.iastore, 1) := by decide +kernel
theorem dX11_worthOf_64 : decode cX11_worthOf 64 = .ok (.goto 138, 3) := by decide +kernel
theorem dX11_worthOf_67 : decode cX11_worthOf 67 = .ok (.iload 5, 2) := by decide +kernel
theorem dX11_worthOf_69 : decode cX11_worthOf 69 = .ok (.bipush 7, 2) := by decide +kernel
theorem dX11_worthOf_71 : decode cX11_worthOf 71 = .ok (.if_icmp .ge 36, 3) := by decide +kernel
theorem dX11_worthOf_74 : decode cX11_worthOf 74 = .ok (.iinc 3 (-1), 3) := by decide +kernel
theorem dX11_worthOf_77 : decode cX11_worthOf 77 = .ok (.aload_n 0, 1) := by decide +kernel
theorem dX11_worthOf_78 : decode cX11_worthOf 78 = .ok (.getfield 60, 3) := by decide +kernel
theorem dX11_worthOf_81 : decode cX11_worthOf 81 = .ok (.iload_n 3, 1) := by decide +kernel
theorem dX11_worthOf_82 : decode cX11_worthOf 82 = .ok (.iconst 1, 1) := by decide +kernel
theorem dX11_worthOf_83 : decode cX11_worthOf 83 = .ok (.isub, 1) := by decide +kernel
theorem dX11_worthOf_84 : decode cX11_worthOf 84 = .ok (.iload 5, 2) := by decide +kernel
theorem dX11_worthOf_86 : decode cX11_worthOf 86 = .ok (.aload_n 0, 1) := by decide +kernel
theorem dX11_worthOf_87 : decode cX11_worthOf 87 = .ok (.getfield 60, 3) := by decide +kernel
theorem dX11_worthOf_90 : decode cX11_worthOf 90 = .ok (.iload_n 3, 1) := by decide +kernel
theorem dX11_worthOf_91 : decode cX11_worthOf 91 = .ok (.iconst 1, 1) := by decide +kernel
theorem dX11_worthOf_92 : decode cX11_worthOf 92 = .ok (.isub, 1) := by decide +kernel
theorem dX11_worthOf_93 : decode cX11_worthOf 93 = .ok (.iaload, 1) := by decide +kernel
theorem dX11_worthOf_94 : decode cX11_worthOf 94 = .ok (.aload_n 0, 1) := by decide +kernel
theorem dX11_worthOf_95 : decode cX11_worthOf 95 = .ok (.getfield 60, 3) := by decide +kernel
theorem dX11_worthOf_98 : decode cX11_worthOf 98 = .ok (.iload_n 3, 1) := by decide +kernel
theorem dX11_worthOf_99 : decode cX11_worthOf 99 = .ok (.iaload, 1) := by decide +kernel
theorem dX11_worthOf_100 : decode cX11_worthOf 100 = .ok (.invokestatic 155, 3) := by decide +kernel
theorem dX11_worthOf_103 : decode cX11_worthOf 103 = .ok (.iastore, 1) := by decide +kernel
theorem dX11_worthOf_104 : decode cX11_worthOf 104 = .ok (.goto 98, 3) := by decide +kernel
theorem dX11_worthOf_107 : decode cX11_worthOf 107 = .ok (.aload_n 0, 1) := by decide +kernel
theorem dX11_worthOf_108 : decode cX11_worthOf 108 = .ok (.getfield 60, 3) := by decide +kernel
theorem dX11_worthOf_111 : decode cX11_worthOf 111 = .ok (.iload_n 3, 1) := by decide +kernel
theorem dX11_worthOf_112 : decode cX11_worthOf 112 = .ok (.iload 5, 2) := by decide +kernel
theorem dX11_worthOf_114 : decode cX11_worthOf 114 = .ok (.bipush 10, 2) := by decide +kernel
theorem dX11_worthOf_116 : decode cX11_worthOf 116 = .ok (.if_icmp .ne 13, 3) := by decide +kernel
theorem dX11_worthOf_119 : decode cX11_worthOf 119 = .ok (.aload_n 0, 1) := by decide +kernel
theorem dX11_worthOf_120 : decode cX11_worthOf 120 = .ok (.getfield 51, 3) := by decide +kernel
theorem dX11_worthOf_123 : decode cX11_worthOf 123 = .ok (.iload 4, 2) := by decide +kernel
theorem dX11_worthOf_125 : decode cX11_worthOf 125 = .ok (.iaload, 1) := by decide +kernel
theorem dX11_worthOf_126 : decode cX11_worthOf 126 = .ok (.goto 72, 3) := by decide +kernel
theorem dX11_worthOf_129 : decode cX11_worthOf 129 = .ok (.iload 5, 2) := by decide +kernel
theorem dX11_worthOf_131 : decode cX11_worthOf 131 = .ok (.bipush 11, 2) := by decide +kernel
theorem dX11_worthOf_133 : decode cX11_worthOf 133 = .ok (.if_icmp .ne 25, 3) := by decide +kernel
theorem dX11_worthOf_136 : decode cX11_worthOf 136 = .ok (.aload_n 0, 1) := by decide +kernel
theorem dX11_worthOf_137 : decode cX11_worthOf 137 = .ok (.aload_n 0, 1) := by decide +kernel
theorem dX11_worthOf_138 : decode cX11_worthOf 138 = .ok (.getfield 51, 3) := by decide +kernel
theorem dX11_worthOf_141 : decode cX11_worthOf 141 = .ok (.iload 4, 2) := by decide +kernel
theorem dX11_worthOf_143 : decode cX11_worthOf 143 = .ok (.iaload, 1) := by decide +kernel
theorem dX11_worthOf_144 : decode cX11_worthOf 144 = .ok (.aload_n 0, 1) := by decide +kernel
theorem dX11_worthOf_145 : decode cX11_worthOf 145 = .ok (.getfield 54, 3) := by decide +kernel
theorem dX11_worthOf_148 : decode cX11_worthOf 148 = .ok (.iload 4, 2) := by decide +kernel
theorem dX11_worthOf_150 : decode cX11_worthOf 150 = .ok (.iaload, 1) := by decide +kernel
theorem dX11_worthOf_151 : decode cX11_worthOf 151 = .ok (.iload_n 2, 1) := by decide +kernel
theorem dX11_worthOf_152 : decode cX11_worthOf 152 = .ok (.invokevirtual 158, 3) := by decide +kernel
theorem dX11_worthOf_155 : decode cX11_worthOf 155 = .ok (.goto 43, 3) := by decide +kernel
theorem dX11_worthOf_158 : decode cX11_worthOf 158 = .ok (.iload 5, 2) := by decide +kernel
theorem dX11_worthOf_160 : decode cX11_worthOf 160 = .ok (.bipush 12, 2) := by decide +kernel
theorem dX11_worthOf_162 : decode cX11_worthOf 162 = .ok (.if_icmp .ne 25, 3) := by decide +kernel
theorem dX11_worthOf_165 : decode cX11_worthOf 165 = .ok (.aload_n 0, 1) := by decide +kernel
theorem dX11_worthOf_166 : decode cX11_worthOf 166 = .ok (.aload_n 0, 1) := by decide +kernel
theorem dX11_worthOf_167 : decode cX11_worthOf 167 = .ok (.getfield 51, 3) := by decide +kernel
theorem dX11_worthOf_170 : decode cX11_worthOf 170 = .ok (.iload 4, 2) := by decide +kernel
theorem dX11_worthOf_172 : decode cX11_worthOf 172 = .ok (.iaload, 1) := by decide +kernel
theorem dX11_worthOf_173 : decode cX11_worthOf 173 = .ok (.aload_n 0, 1) := by decide +kernel
theorem dX11_worthOf_174 : decode cX11_worthOf 174 = .ok (.getfield 54, 3) := by decide +kernel
theorem dX11_worthOf_177 : decode cX11_worthOf 177 = .ok (.iload 4, 2) := by decide +kernel
theorem dX11_worthOf_179 : decode cX11_worthOf 179 = .ok (.iaload, 1) := by decide +kernel
theorem dX11_worthOf_180 : decode cX11_worthOf 180 = .ok (.iload_n 2, 1) := by decide +kernel
theorem dX11_worthOf_181 : decode cX11_worthOf 181 = .ok (.invokevirtual 161, 3) := by decide +kernel
theorem dX11_worthOf_184 : decode cX11_worthOf 184 = .ok (.goto 14, 3) := by decide +kernel
theorem dX11_worthOf_187 : decode cX11_worthOf 187 = .ok (.iload_n 2, 1) := by decide +kernel
theorem dX11_worthOf_188 : decode cX11_worthOf 188 = .ok (.aload_n 0, 1) := by decide +kernel
theorem dX11_worthOf_189 : decode cX11_worthOf 189 = .ok (.getfield 51, 3) := by decide +kernel
theorem dX11_worthOf_192 : decode cX11_worthOf 192 = .ok (.iload 4, 2) := by decide +kernel
theorem dX11_worthOf_194 : decode cX11_worthOf 194 = .ok (.iaload, 1) := by decide +kernel
theorem dX11_worthOf_195 : decode cX11_worthOf 195 = .ok (.invokestatic 109, 3) := by decide +kernel
theorem dX11_worthOf_198 : decode cX11_worthOf 198 = .ok (.iastore, 1) := by decide +kernel
theorem dX11_worthOf_199 : decode cX11_worthOf 199 = .ok (.iinc 3 1, 3) := by decide +kernel
theorem dX11_worthOf_202 : decode cX11_worthOf 202 = .ok (.iinc 4 1, 3) := by decide +kernel
theorem dX11_worthOf_205 : decode cX11_worthOf 205 = .ok (.goto (-197), 3) := by decide +kernel
theorem dX11_worthOf_208 : decode cX11_worthOf 208 = .ok (.aload_n 0, 1) := by decide +kernel
theorem dX11_worthOf_209 : decode cX11_worthOf 209 = .ok (.getfield 60, 3) := by decide +kernel
theorem dX11_worthOf_212 : decode cX11_worthOf 212 = .ok (.iconst 0, 1) := by decide +kernel
theorem dX11_worthOf_213 : decode cX11_worthOf 213 = .ok (.iaload, 1) := by decide +kernel
theorem dX11_worthOf_214 : decode cX11_worthOf 214 = .ok (.ireturn, 1) := by decide +kernel
theorem dX11_value_0 : decode cX11_value 0 = .ok (.aload_n 0, 1) := by decide +kernel
theorem dX11_value_1 : decode cX11_value 1 = .ok (.iload_n 1, 1) := by decide +kernel
theorem dX11_value_2 : decode cX11_value 2 = .ok (.iconst 0, 1) := by decide +kernel
theorem dX11_value_3 : decode cX11_value 3 = .ok (.aload_n 0, 1) := by decide +kernel
theorem dX11_value_4 : decode cX11_value 4 = .ok (.getfield 152, 3) := by decide +kernel
theorem dX11_value_7 : decode cX11_value 7 = .ok (.iconst 1, 1) := by decide +kernel
theorem dX11_value_8 : decode cX11_value 8 = .ok (.isub, 1) := by decide +kernel
theorem dX11_value_9 : decode cX11_value 9 = .ok (.invokestatic 79, 3) := by decide +kernel
theorem dX11_value_12 : decode cX11_value 12 = .ok (.ifCond .eq 15, 3) := by decide +kernel
theorem dX11_value_15 : decode cX11_value 15 = .ok (.aload_n 0, 1) := by decide +kernel
theorem dX11_value_16 : decode cX11_value 16 = .ok (.iload_n 2, 1) := by decide +kernel
theorem dX11_value_17 : decode cX11_value 17 = .ok (.invokevirtual 113, 3) := by decide +kernel
theorem dX11_value_20 : decode cX11_value 20 = .ok (.ifCond .eq 7, 3) := by decide +kernel
theorem dX11_value_23 : decode cX11_value 23 = .ok (.iconst 0, 1) := by decide +kernel
theorem dX11_value_24 : decode cX11_value 24 = .ok (.goto 4, 3) := by decide +kernel
theorem dX11_value_27 : decode cX11_value 27 = .ok (.iconst (-1), 1) := by decide +kernel
theorem dX11_value_28 : decode cX11_value 28 = .ok (.putfield 164, 3) := by decide +kernel
theorem dX11_value_31 : decode cX11_value 31 = .ok (.aload_n 0, 1) := by decide +kernel
theorem dX11_value_32 : decode cX11_value 32 = .ok (.getfield 164, 3) := by decide +kernel
theorem dX11_value_35 : decode cX11_value 35 = .ok (.ifCond .ne 12, 3) := by decide +kernel
theorem dX11_value_38 : decode cX11_value 38 = .ok (.aload_n 0, 1) := by decide +kernel
theorem dX11_value_39 : decode cX11_value 39 = .ok (.iload_n 1, 1) := by decide +kernel
theorem dX11_value_40 : decode cX11_value 40 = .ok (.iload_n 2, 1) := by decide +kernel
theorem dX11_value_41 : decode cX11_value 41 = .ok (.invokevirtual 167, 3) := by decide +kernel
theorem dX11_value_44 : decode cX11_value 44 = .ok (.goto 4, 3) := by decide +kernel
theorem dX11_value_47 : decode cX11_value 47 = .ok (.iconst 0, 1) := by decide +kernel
theorem dX11_value_48 : decode cX11_value 48 = .ok (.ireturn, 1) := by decide +kernel
theorem dX11_status_0 : decode cX11_status 0 = .ok (.aload_n 0, 1) := by decide +kernel
theorem dX11_status_1 : decode cX11_status 1 = .ok (.getfield 164, 3) := by decide +kernel
theorem dX11_status_4 : decode cX11_status 4 = .ok (.ireturn, 1) := by decide +kernel
theorem dX11_study_0 : decode cX11_study 0 = .ok (.iload_n 1, 1) := by decide +kernel
theorem dX11_study_1 : decode cX11_study 1 = .ok (.iconst 0, 1) := by decide +kernel
theorem dX11_study_2 : decode cX11_study 2 = .ok (.aload_n 0, 1) := by decide +kernel
theorem dX11_study_3 : decode cX11_study 3 = .ok (.getfield 152, 3) := by decide +kernel
theorem dX11_study_6 : decode cX11_study 6 = .ok (.iconst 1, 1) := by decide +kernel
theorem dX11_study_7 : decode cX11_study 7 = .ok (.isub, 1) := by decide +kernel
theorem dX11_study_8 : decode cX11_study 8 = .ok (.invokestatic 79, 3) := by decide +kernel
theorem dX11_study_11 : decode cX11_study 11 = .ok (.ifCond .ne 5, 3) := by decide +kernel
theorem dX11_study_14 : decode cX11_study 14 = .ok (.iconst 0, 1) := by decide +kernel
theorem dX11_study_15 : decode cX11_study 15 = .ok (.ireturn, 1) := by decide +kernel
theorem dX11_study_16 : decode cX11_study 16 = .ok (.iconst 0, 1) := by decide +kernel
theorem dX11_study_17 : decode cX11_study 17 = .ok (.istore_n 2, 1) := by decide +kernel
theorem dX11_study_18 : decode cX11_study 18 = .ok (.iload_n 2, 1) := by decide +kernel
theorem dX11_study_19 : decode cX11_study 19 = .ok (.sipush 2401, 3) := by decide +kernel
theorem dX11_study_22 : decode cX11_study 22 = .ok (.if_icmp .ge 37, 3) := by decide +kernel
theorem dX11_study_25 : decode cX11_study 25 = .ok (.aload_n 0, 1) := by decide +kernel
theorem dX11_study_26 : decode cX11_study 26 = .ok (.getfield 63, 3) := by decide +kernel
theorem dX11_study_29 : decode cX11_study 29 = .ok (.iload_n 2, 1) := by decide +kernel
theorem dX11_study_30 : decode cX11_study 30 = .ok (.aload_n 0, 1) := by decide +kernel
theorem dX11_study_31 : decode cX11_study 31 = .ok (.iload_n 2, 1) := by decide +kernel
theorem dX11_study_32 : decode cX11_study 32 = .ok (.invokevirtual 116, 3) := by decide +kernel
theorem dX11_study_35 : decode cX11_study 35 = .ok (.ifCond .eq 16, 3) := by decide +kernel
theorem dX11_study_38 : decode cX11_study 38 = .ok (.aload_n 0, 1) := by decide +kernel
theorem dX11_study_39 : decode cX11_study 39 = .ok (.iload_n 1, 1) := by decide +kernel
theorem dX11_study_40 : decode cX11_study 40 = .ok (.iload_n 2, 1) := by decide +kernel
theorem dX11_study_41 : decode cX11_study 41 = .ok (.invokevirtual 167, 3) := by decide +kernel
theorem dX11_study_44 : decode cX11_study 44 = .ok (.ifCond .eq 7, 3) := by decide +kernel
theorem dX11_study_47 : decode cX11_study 47 = .ok (.iconst 1, 1) := by decide +kernel
theorem dX11_study_48 : decode cX11_study 48 = .ok (.goto 4, 3) := by decide +kernel
theorem dX11_study_51 : decode cX11_study 51 = .ok (.iconst 0, 1) := by decide +kernel
theorem dX11_study_52 : decode cX11_study 52 = .ok (.bastore, 1) := by decide +kernel
theorem dX11_study_53 : decode cX11_study 53 = .ok (.iinc 2 1, 3) := by decide +kernel
theorem dX11_study_56 : decode cX11_study 56 = .ok (.goto (-38), 3) := by decide +kernel
theorem dX11_study_59 : decode cX11_study 59 = .ok (.iconst 1, 1) := by decide +kernel
theorem dX11_study_60 : decode cX11_study 60 = .ok (.ireturn, 1) := by decide +kernel
theorem dX11_extreme_0 : decode cX11_extreme 0 = .ok (.aload_n 0, 1) := by decide +kernel
theorem dX11_extreme_1 : decode cX11_extreme 1 = .ok (.iload_n 1, 1) := by decide +kernel
theorem dX11_extreme_2 : decode cX11_extreme 2 = .ok (.invokevirtual 170, 3) := by decide +kernel
theorem dX11_extreme_5 : decode cX11_extreme 5 = .ok (.ifCond .ne 5, 3) := by decide +kernel
theorem dX11_extreme_8 : decode cX11_extreme 8 = .ok (.iconst (-1), 1) := by decide +kernel
theorem dX11_extreme_9 : decode cX11_extreme 9 = .ok (.ireturn, 1) := by decide +kernel
theorem dX11_extreme_10 : decode cX11_extreme 10 = .ok (.iconst (-1), 1) := by decide +kernel
theorem dX11_extreme_11 : decode cX11_extreme 11 = .ok (.istore_n 3, 1) := by decide +kernel
theorem dX11_extreme_12 : decode cX11_extreme 12 = .ok (.iconst 0, 1) := by decide +kernel
theorem dX11_extreme_13 : decode cX11_extreme 13 = .ok (.istore 4, 2) := by decide +kernel
theorem dX11_extreme_15 : decode cX11_extreme 15 = .ok (.iload 4, 2) := by decide +kernel
theorem dX11_extreme_17 : decode cX11_extreme 17 = .ok (.sipush 2401, 3) := by decide +kernel
theorem dX11_extreme_20 : decode cX11_extreme 20 = .ok (.if_icmp .ge 68, 3) := by decide +kernel
theorem dX11_extreme_23 : decode cX11_extreme 23 = .ok (.aload_n 0, 1) := by decide +kernel
theorem dX11_extreme_24 : decode cX11_extreme 24 = .ok (.getfield 63, 3) := by decide +kernel
theorem dX11_extreme_27 : decode cX11_extreme 27 = .ok (.iload 4, 2) := by decide +kernel
theorem dX11_extreme_29 : decode cX11_extreme 29 = .ok (.baload, 1) := by decide +kernel
theorem dX11_extreme_30 : decode cX11_extreme 30 = .ok (.ifCond .ne 6, 3) := by decide +kernel
theorem dX11_extreme_33 : decode cX11_extreme 33 = .ok (.goto 49, 3) := by decide +kernel
theorem dX11_extreme_36 : decode cX11_extreme 36 = .ok (.sipush 2401, 3) := by decide +kernel
theorem dX11_extreme_39 : decode cX11_extreme 39 = .ok (.iload 4, 2) := by decide +kernel
theorem dX11_extreme_41 : decode cX11_extreme 41 = .ok (.invokestatic 119, 3) := by decide +kernel
theorem dX11_extreme_44 : decode cX11_extreme 44 = .ok (.imul, 1) := by decide +kernel
theorem dX11_extreme_45 : decode cX11_extreme 45 = .ok (.iload 4, 2) := by decide +kernel
theorem dX11_extreme_47 : decode cX11_extreme 47 = .ok (.iadd, 1) := by decide +kernel
theorem dX11_extreme_48 : decode cX11_extreme 48 = .ok (.istore 5, 2) := by decide +kernel
theorem dX11_extreme_50 : decode cX11_extreme 50 = .ok (.iload_n 3, 1) := by decide +kernel
theorem dX11_extreme_51 : decode cX11_extreme 51 = .ok (.iconst (-1), 1) := by decide +kernel
theorem dX11_extreme_52 : decode cX11_extreme 52 = .ok (.if_icmp .eq 27, 3) := by decide +kernel
theorem dX11_extreme_55 : decode cX11_extreme 55 = .ok (.iload 5, 2) := by decide +kernel
theorem dX11_extreme_57 : decode cX11_extreme 57 = .ok (.sipush 2401, 3) := by decide +kernel
theorem dX11_extreme_60 : decode cX11_extreme 60 = .ok (.iload_n 3, 1) := by decide +kernel
theorem dX11_extreme_61 : decode cX11_extreme 61 = .ok (.invokestatic 119, 3) := by decide +kernel
theorem dX11_extreme_64 : decode cX11_extreme 64 = .ok (.imul, 1) := by decide +kernel
theorem dX11_extreme_65 : decode cX11_extreme 65 = .ok (.iload_n 3, 1) := by decide +kernel
theorem dX11_extreme_66 : decode cX11_extreme 66 = .ok (.iadd, 1) := by decide +kernel
theorem dX11_extreme_67 : decode cX11_extreme 67 = .ok (.if_icmp .le 7, 3) := by decide +kernel
theorem dX11_extreme_70 : decode cX11_extreme 70 = .ok (.iconst 1, 1) := by decide +kernel
theorem dX11_extreme_71 : decode cX11_extreme 71 = .ok (.goto 4, 3) := by decide +kernel
theorem dX11_extreme_74 : decode cX11_extreme 74 = .ok (.iconst 0, 1) := by decide +kernel
theorem dX11_extreme_75 : decode cX11_extreme 75 = .ok (.iload_n 2, 1) := by decide +kernel
theorem dX11_extreme_76 : decode cX11_extreme 76 = .ok (.if_icmp .ne 6, 3) := by decide +kernel
theorem dX11_extreme_79 : decode cX11_extreme 79 = .ok (.iload 4, 2) := by decide +kernel
theorem dX11_extreme_81 : decode cX11_extreme 81 = .ok (.istore_n 3, 1) := by decide +kernel
theorem dX11_extreme_82 : decode cX11_extreme 82 = .ok (.iinc 4 1, 3) := by decide +kernel
theorem dX11_extreme_85 : decode cX11_extreme 85 = .ok (.goto (-70), 3) := by decide +kernel
theorem dX11_extreme_88 : decode cX11_extreme 88 = .ok (.iload_n 3, 1) := by decide +kernel
theorem dX11_extreme_89 : decode cX11_extreme 89 = .ok (.ireturn, 1) := by decide +kernel
theorem dX11_may_0 : decode cX11_may 0 = .ok (.aload_n 0, 1) := by decide +kernel
theorem dX11_may_1 : decode cX11_may 1 = .ok (.iload_n 1, 1) := by decide +kernel
theorem dX11_may_2 : decode cX11_may 2 = .ok (.iconst 0, 1) := by decide +kernel
theorem dX11_may_3 : decode cX11_may 3 = .ok (.invokevirtual 173, 3) := by decide +kernel
theorem dX11_may_6 : decode cX11_may 6 = .ok (.ireturn, 1) := by decide +kernel
theorem dX11_last_0 : decode cX11_last 0 = .ok (.aload_n 0, 1) := by decide +kernel
theorem dX11_last_1 : decode cX11_last 1 = .ok (.iload_n 1, 1) := by decide +kernel
theorem dX11_last_2 : decode cX11_last 2 = .ok (.iconst 1, 1) := by decide +kernel
theorem dX11_last_3 : decode cX11_last 3 = .ok (.invokevirtual 173, 3) := by decide +kernel
theorem dX11_last_6 : decode cX11_last 6 = .ok (.ireturn, 1) := by decide +kernel
theorem dX11_many_0 : decode cX11_many 0 = .ok (.aload_n 0, 1) := by decide +kernel
theorem dX11_many_1 : decode cX11_many 1 = .ok (.iload_n 1, 1) := by decide +kernel
theorem dX11_many_2 : decode cX11_many 2 = .ok (.invokevirtual 170, 3) := by decide +kernel
theorem dX11_many_5 : decode cX11_many 5 = .ok (.ifCond .ne 5, 3) := by decide +kernel
theorem dX11_many_8 : decode cX11_many 8 = .ok (.iconst (-1), 1) := by decide +kernel
theorem dX11_many_9 : decode cX11_many 9 = .ok (.ireturn, 1) := by decide +kernel
theorem dX11_many_10 : decode cX11_many 10 = .ok (.iconst 0, 1) := by decide +kernel
theorem dX11_many_11 : decode cX11_many 11 = .ok (.istore_n 2, 1) := by decide +kernel
theorem dX11_many_12 : decode cX11_many 12 = .ok (.iconst 0, 1) := by decide +kernel
theorem dX11_many_13 : decode cX11_many 13 = .ok (.istore_n 3, 1) := by decide +kernel
theorem dX11_many_14 : decode cX11_many 14 = .ok (.iload_n 3, 1) := by decide +kernel
theorem dX11_many_15 : decode cX11_many 15 = .ok (.sipush 2401, 3) := by decide +kernel
theorem dX11_many_18 : decode cX11_many 18 = .ok (.if_icmp .ge 26, 3) := by decide +kernel
theorem dX11_many_21 : decode cX11_many 21 = .ok (.iload_n 2, 1) := by decide +kernel
theorem dX11_many_22 : decode cX11_many 22 = .ok (.aload_n 0, 1) := by decide +kernel
theorem dX11_many_23 : decode cX11_many 23 = .ok (.getfield 63, 3) := by decide +kernel
theorem dX11_many_26 : decode cX11_many 26 = .ok (.iload_n 3, 1) := by decide +kernel
theorem dX11_many_27 : decode cX11_many 27 = .ok (.baload, 1) := by decide +kernel
theorem dX11_many_28 : decode cX11_many 28 = .ok (.ifCond .eq 7, 3) := by decide +kernel
theorem dX11_many_31 : decode cX11_many 31 = .ok (.iconst 1, 1) := by decide +kernel
theorem dX11_many_32 : decode cX11_many 32 = .ok (.goto 4, 3) := by decide +kernel
theorem dX11_many_35 : decode cX11_many 35 = .ok (.iconst 0, 1) := by decide +kernel
theorem dX11_many_36 : decode cX11_many 36 = .ok (.iadd, 1) := by decide +kernel
theorem dX11_many_37 : decode cX11_many 37 = .ok (.istore_n 2, 1) := by decide +kernel
theorem dX11_many_38 : decode cX11_many 38 = .ok (.iinc 3 1, 3) := by decide +kernel
theorem dX11_many_41 : decode cX11_many 41 = .ok (.goto (-27), 3) := by decide +kernel
theorem dX11_many_44 : decode cX11_many 44 = .ok (.iload_n 2, 1) := by decide +kernel
theorem dX11_many_45 : decode cX11_many 45 = .ok (.ireturn, 1) := by decide +kernel
theorem dX11_bars_0 : decode cX11_bars 0 = .ok (.aload_n 0, 1) := by decide +kernel
theorem dX11_bars_1 : decode cX11_bars 1 = .ok (.iload_n 1, 1) := by decide +kernel
theorem dX11_bars_2 : decode cX11_bars 2 = .ok (.invokevirtual 170, 3) := by decide +kernel
theorem dX11_bars_5 : decode cX11_bars 5 = .ok (.ifCond .ne 5, 3) := by decide +kernel
theorem dX11_bars_8 : decode cX11_bars 8 = .ok (.iconst 0, 1) := by decide +kernel
theorem dX11_bars_9 : decode cX11_bars 9 = .ok (.ireturn, 1) := by decide +kernel
theorem dX11_bars_10 : decode cX11_bars 10 = .ok (.iconst 0, 1) := by decide +kernel
theorem dX11_bars_11 : decode cX11_bars 11 = .ok (.istore_n 2, 1) := by decide +kernel
theorem dX11_bars_12 : decode cX11_bars 12 = .ok (.iload_n 2, 1) := by decide +kernel
theorem dX11_bars_13 : decode cX11_bars 13 = .ok (.sipush 2401, 3) := by decide +kernel
theorem dX11_bars_16 : decode cX11_bars 16 = .ok (.if_icmp .ge 21, 3) := by decide +kernel
theorem dX11_bars_19 : decode cX11_bars 19 = .ok (.aload_n 0, 1) := by decide +kernel
theorem dX11_bars_20 : decode cX11_bars 20 = .ok (.getfield 40, 3) := by decide +kernel
theorem dX11_bars_23 : decode cX11_bars 23 = .ok (.iload_n 2, 1) := by decide +kernel
theorem dX11_bars_24 : decode cX11_bars 24 = .ok (.aload_n 0, 1) := by decide +kernel
theorem dX11_bars_25 : decode cX11_bars 25 = .ok (.getfield 63, 3) := by decide +kernel
theorem dX11_bars_28 : decode cX11_bars 28 = .ok (.iload_n 2, 1) := by decide +kernel
theorem dX11_bars_29 : decode cX11_bars 29 = .ok (.baload, 1) := by decide +kernel
theorem dX11_bars_30 : decode cX11_bars 30 = .ok (.bastore, 1) := by decide +kernel
theorem dX11_bars_31 : decode cX11_bars 31 = .ok (.iinc 2 1, 3) := by decide +kernel
theorem dX11_bars_34 : decode cX11_bars 34 = .ok (.goto (-22), 3) := by decide +kernel
theorem dX11_bars_37 : decode cX11_bars 37 = .ok (.aload_n 0, 1) := by decide +kernel
theorem dX11_bars_38 : decode cX11_bars 38 = .ok (.invokevirtual 135, 3) := by decide +kernel
theorem dX11_bars_41 : decode cX11_bars 41 = .ok (.iconst 1, 1) := by decide +kernel
theorem dX11_bars_42 : decode cX11_bars 42 = .ok (.ireturn, 1) := by decide +kernel
theorem dX11_sure_0 : decode cX11_sure 0 = .ok (.aload_n 0, 1) := by decide +kernel
theorem dX11_sure_1 : decode cX11_sure 1 = .ok (.iload_n 1, 1) := by decide +kernel
theorem dX11_sure_2 : decode cX11_sure 2 = .ok (.invokevirtual 177, 3) := by decide +kernel
theorem dX11_sure_5 : decode cX11_sure 5 = .ok (.ifCond .ne 7, 3) := by decide +kernel
theorem dX11_sure_8 : decode cX11_sure 8 = .ok (.iconst (-1), 1) := by decide +kernel
theorem dX11_sure_9 : decode cX11_sure 9 = .ok (.goto 19, 3) := by decide +kernel
theorem dX11_sure_12 : decode cX11_sure 12 = .ok (.aload_n 0, 1) := by decide +kernel
theorem dX11_sure_13 : decode cX11_sure 13 = .ok (.getfield 44, 3) := by decide +kernel
theorem dX11_sure_16 : decode cX11_sure 16 = .ok (.iconst 0, 1) := by decide +kernel
theorem dX11_sure_17 : decode cX11_sure 17 = .ok (.laload, 1) := by decide +kernel
theorem dX11_sure_18 : decode cX11_sure 18 = .ok (.lconst 0, 1) := by decide +kernel
theorem dX11_sure_19 : decode cX11_sure 19 = .ok (.lcmp, 1) := by decide +kernel
theorem dX11_sure_20 : decode cX11_sure 20 = .ok (.ifCond .ne 7, 3) := by decide +kernel
theorem dX11_sure_23 : decode cX11_sure 23 = .ok (.iconst 1, 1) := by decide +kernel
theorem dX11_sure_24 : decode cX11_sure 24 = .ok (.goto 4, 3) := by decide +kernel
theorem dX11_sure_27 : decode cX11_sure 27 = .ok (.iconst 0, 1) := by decide +kernel
theorem dX11_sure_28 : decode cX11_sure 28 = .ok (.ireturn, 1) := by decide +kernel
theorem dX11_avoid_0 : decode cX11_avoid 0 = .ok (.aload_n 0, 1) := by decide +kernel
theorem dX11_avoid_1 : decode cX11_avoid 1 = .ok (.iload_n 1, 1) := by decide +kernel
theorem dX11_avoid_2 : decode cX11_avoid 2 = .ok (.invokevirtual 177, 3) := by decide +kernel
theorem dX11_avoid_5 : decode cX11_avoid 5 = .ok (.ifCond .eq 28, 3) := by decide +kernel
theorem dX11_avoid_8 : decode cX11_avoid 8 = .ok (.aload_n 0, 1) := by decide +kernel
theorem dX11_avoid_9 : decode cX11_avoid 9 = .ok (.getfield 44, 3) := by decide +kernel
theorem dX11_avoid_12 : decode cX11_avoid 12 = .ok (.iconst 0, 1) := by decide +kernel
theorem dX11_avoid_13 : decode cX11_avoid 13 = .ok (.laload, 1) := by decide +kernel
theorem dX11_avoid_14 : decode cX11_avoid 14 = .ok (.lconst 0, 1) := by decide +kernel
theorem dX11_avoid_15 : decode cX11_avoid 15 = .ok (.lcmp, 1) := by decide +kernel
theorem dX11_avoid_16 : decode cX11_avoid 16 = .ok (.ifCond .eq 17, 3) := by decide +kernel
theorem dX11_avoid_19 : decode cX11_avoid 19 = .ok (.iload_n 2, 1) := by decide +kernel
theorem dX11_avoid_20 : decode cX11_avoid 20 = .ok (.iconst 0, 1) := by decide +kernel
theorem dX11_avoid_21 : decode cX11_avoid 21 = .ok (.aload_n 0, 1) := by decide +kernel
theorem dX11_avoid_22 : decode cX11_avoid 22 = .ok (.getfield 87, 3) := by decide +kernel
theorem dX11_avoid_25 : decode cX11_avoid 25 = .ok (.iconst 1, 1) := by decide +kernel
theorem dX11_avoid_26 : decode cX11_avoid 26 = .ok (.isub, 1) := by decide +kernel
theorem dX11_avoid_27 : decode cX11_avoid 27 = .ok (.invokestatic 79, 3) := by decide +kernel
theorem dX11_avoid_30 : decode cX11_avoid 30 = .ok (.ifCond .ne 5, 3) := by decide +kernel
theorem dX11_avoid_33 : decode cX11_avoid 33 = .ok (.iconst (-1), 1) := by decide +kernel
theorem dX11_avoid_34 : decode cX11_avoid 34 = .ok (.ireturn, 1) := by decide +kernel
theorem dX11_avoid_35 : decode cX11_avoid 35 = .ok (.aload_n 0, 1) := by decide +kernel
theorem dX11_avoid_36 : decode cX11_avoid 36 = .ok (.lconst 0, 1) := by decide +kernel
theorem dX11_avoid_37 : decode cX11_avoid 37 = .ok (.iload_n 2, 1) := by decide +kernel
theorem dX11_avoid_38 : decode cX11_avoid 38 = .ok (.invokevirtual 138, 3) := by decide +kernel
theorem dX11_avoid_41 : decode cX11_avoid 41 = .ok (.ireturn, 1) := by decide +kernel
theorem dX11_avoids_0 : decode cX11_avoids 0 = .ok (.aload_n 0, 1) := by decide +kernel
theorem dX11_avoids_1 : decode cX11_avoids 1 = .ok (.iload_n 1, 1) := by decide +kernel
theorem dX11_avoids_2 : decode cX11_avoids 2 = .ok (.invokevirtual 177, 3) := by decide +kernel
theorem dX11_avoids_5 : decode cX11_avoids 5 = .ok (.ifCond .eq 12, 3) := by decide +kernel
theorem dX11_avoids_8 : decode cX11_avoids 8 = .ok (.aload_n 0, 1) := by decide +kernel
theorem dX11_avoids_9 : decode cX11_avoids 9 = .ok (.getfield 44, 3) := by decide +kernel
theorem dX11_avoids_12 : decode cX11_avoids 12 = .ok (.iconst 0, 1) := by decide +kernel
theorem dX11_avoids_13 : decode cX11_avoids 13 = .ok (.laload, 1) := by decide +kernel
theorem dX11_avoids_14 : decode cX11_avoids 14 = .ok (.goto 6, 3) := by decide +kernel
theorem dX11_avoids_17 : decode cX11_avoids 17 = .ok (.ldc2_w 180, 3) := by decide +kernel
theorem dX11_avoids_20 : decode cX11_avoids 20 = .ok (.lreturn, 1) := by decide +kernel
theorem dX11_isKept_0 : decode cX11_isKept 0 = .ok (.iconst 0, 1) := by decide +kernel
theorem dX11_isKept_1 : decode cX11_isKept 1 = .ok (.istore_n 1, 1) := by decide +kernel
theorem dX11_isKept_2 : decode cX11_isKept 2 = .ok (.iload_n 1, 1) := by decide +kernel
theorem dX11_isKept_3 : decode cX11_isKept 3 = .ok (.sipush 2401, 3) := by decide +kernel
theorem dX11_isKept_6 : decode cX11_isKept 6 = .ok (.if_icmp .ge 77, 3) := by decide +kernel
theorem dX11_isKept_9 : decode cX11_isKept 9 = .ok (.iconst 0, 1) := by decide +kernel
theorem dX11_isKept_10 : decode cX11_isKept 10 = .ok (.istore_n 2, 1) := by decide +kernel
theorem dX11_isKept_11 : decode cX11_isKept 11 = .ok (.iload_n 2, 1) := by decide +kernel
theorem dX11_isKept_12 : decode cX11_isKept 12 = .ok (.aload_n 0, 1) := by decide +kernel
theorem dX11_isKept_13 : decode cX11_isKept 13 = .ok (.getfield 76, 3) := by decide +kernel
theorem dX11_isKept_16 : decode cX11_isKept 16 = .ok (.if_icmp .ge 61, 3) := by decide +kernel
theorem dX11_isKept_19 : decode cX11_isKept 19 = .ok (.aload_n 0, 1) := by decide +kernel
theorem dX11_isKept_20 : decode cX11_isKept 20 = .ok (.getfield 63, 3) := by decide +kernel
theorem dX11_isKept_23 : decode cX11_isKept 23 = .ok (.iload_n 1, 1) := by decide +kernel
theorem dX11_isKept_24 : decode cX11_isKept 24 = .ok (.baload, 1) := by decide +kernel
theorem dX11_isKept_25 : decode cX11_isKept 25 = .ok (.ifCond .eq 52, 3) := by decide +kernel
theorem dX11_isKept_28 : decode cX11_isKept 28 = .ok (.iload_n 1, 1) := by decide +kernel
theorem dX11_isKept_29 : decode cX11_isKept 29 = .ok (.iload_n 2, 1) := by decide +kernel
theorem dX11_isKept_30 : decode cX11_isKept 30 = .ok (.invokestatic 109, 3) := by decide +kernel
theorem dX11_isKept_33 : decode cX11_isKept 33 = .ok (.aload_n 0, 1) := by decide +kernel
theorem dX11_isKept_34 : decode cX11_isKept 34 = .ok (.getfield 7, 3) := by decide +kernel
theorem dX11_isKept_37 : decode cX11_isKept 37 = .ok (.iload_n 2, 1) := by decide +kernel
theorem dX11_isKept_38 : decode cX11_isKept 38 = .ok (.iaload, 1) := by decide +kernel
theorem dX11_isKept_39 : decode cX11_isKept 39 = .ok (.if_icmp .ge 32, 3) := by decide +kernel
theorem dX11_isKept_42 : decode cX11_isKept 42 = .ok (.aload_n 0, 1) := by decide +kernel
theorem dX11_isKept_43 : decode cX11_isKept 43 = .ok (.iload_n 1, 1) := by decide +kernel
theorem dX11_isKept_44 : decode cX11_isKept 44 = .ok (.iload_n 2, 1) := by decide +kernel
theorem dX11_isKept_45 : decode cX11_isKept 45 = .ok (.invokestatic 105, 3) := by decide +kernel
theorem dX11_isKept_48 : decode cX11_isKept 48 = .ok (.iadd, 1) := by decide +kernel
theorem dX11_isKept_49 : decode cX11_isKept 49 = .ok (.invokevirtual 116, 3) := by decide +kernel
theorem dX11_isKept_52 : decode cX11_isKept 52 = .ok (.ifCond .eq 19, 3) := by decide +kernel
theorem dX11_isKept_55 : decode cX11_isKept 55 = .ok (.aload_n 0, 1) := by decide +kernel
theorem dX11_isKept_56 : decode cX11_isKept 56 = .ok (.getfield 63, 3) := by decide +kernel
theorem dX11_isKept_59 : decode cX11_isKept 59 = .ok (.iload_n 1, 1) := by decide +kernel
theorem dX11_isKept_60 : decode cX11_isKept 60 = .ok (.iload_n 2, 1) := by decide +kernel
theorem dX11_isKept_61 : decode cX11_isKept 61 = .ok (.invokestatic 105, 3) := by decide +kernel
theorem dX11_isKept_64 : decode cX11_isKept 64 = .ok (.iadd, 1) := by decide +kernel
theorem dX11_isKept_65 : decode cX11_isKept 65 = .ok (.baload, 1) := by decide +kernel
theorem dX11_isKept_66 : decode cX11_isKept 66 = .ok (.ifCond .ne 5, 3) := by decide +kernel
theorem dX11_isKept_69 : decode cX11_isKept 69 = .ok (.iconst 0, 1) := by decide +kernel
theorem dX11_isKept_70 : decode cX11_isKept 70 = .ok (.ireturn, 1) := by decide +kernel
theorem dX11_isKept_71 : decode cX11_isKept 71 = .ok (.iinc 2 1, 3) := by decide +kernel
theorem dX11_isKept_74 : decode cX11_isKept 74 = .ok (.goto (-63), 3) := by decide +kernel
theorem dX11_isKept_77 : decode cX11_isKept 77 = .ok (.iinc 1 1, 3) := by decide +kernel
theorem dX11_isKept_80 : decode cX11_isKept 80 = .ok (.goto (-78), 3) := by decide +kernel
theorem dX11_isKept_83 : decode cX11_isKept 83 = .ok (.iconst 1, 1) := by decide +kernel
theorem dX11_isKept_84 : decode cX11_isKept 84 = .ok (.ireturn, 1) := by decide +kernel
theorem dX11_isClosed_0 : decode cX11_isClosed 0 = .ok (.iconst 0, 1) := by decide +kernel
theorem dX11_isClosed_1 : decode cX11_isClosed 1 = .ok (.istore_n 2, 1) := by decide +kernel
theorem dX11_isClosed_2 : decode cX11_isClosed 2 = .ok (.iload_n 2, 1) := by decide +kernel
theorem dX11_isClosed_3 : decode cX11_isClosed 3 = .ok (.sipush 2401, 3) := by decide +kernel
theorem dX11_isClosed_6 : decode cX11_isClosed 6 = .ok (.if_icmp .ge 56, 3) := by decide +kernel
theorem dX11_isClosed_9 : decode cX11_isClosed 9 = .ok (.iconst 0, 1) := by decide +kernel
theorem dX11_isClosed_10 : decode cX11_isClosed 10 = .ok (.istore_n 3, 1) := by decide +kernel
theorem dX11_isClosed_11 : decode cX11_isClosed 11 = .ok (.iload_n 3, 1) := by decide +kernel
theorem dX11_isClosed_12 : decode cX11_isClosed 12 = .ok (.iload_n 2, 1) := by decide +kernel
theorem dX11_isClosed_13 : decode cX11_isClosed 13 = .ok (.if_icmp .ge 43, 3) := by decide +kernel
theorem dX11_isClosed_16 : decode cX11_isClosed 16 = .ok (.aload_n 0, 1) := by decide +kernel
theorem dX11_isClosed_17 : decode cX11_isClosed 17 = .ok (.getfield 63, 3) := by decide +kernel
theorem dX11_isClosed_20 : decode cX11_isClosed 20 = .ok (.iload_n 2, 1) := by decide +kernel
theorem dX11_isClosed_21 : decode cX11_isClosed 21 = .ok (.baload, 1) := by decide +kernel
theorem dX11_isClosed_22 : decode cX11_isClosed 22 = .ok (.ifCond .eq 34, 3) := by decide +kernel
theorem dX11_isClosed_25 : decode cX11_isClosed 25 = .ok (.aload_n 0, 1) := by decide +kernel
theorem dX11_isClosed_26 : decode cX11_isClosed 26 = .ok (.getfield 63, 3) := by decide +kernel
theorem dX11_isClosed_29 : decode cX11_isClosed 29 = .ok (.iload_n 3, 1) := by decide +kernel
theorem dX11_isClosed_30 : decode cX11_isClosed 30 = .ok (.baload, 1) := by decide +kernel
theorem dX11_isClosed_31 : decode cX11_isClosed 31 = .ok (.ifCond .eq 19, 3) := by decide +kernel
theorem dX11_isClosed_34 : decode cX11_isClosed 34 = .ok (.aload_n 0, 1) := by decide +kernel
theorem dX11_isClosed_35 : decode cX11_isClosed 35 = .ok (.getfield 63, 3) := by decide +kernel
theorem dX11_isClosed_38 : decode cX11_isClosed 38 = .ok (.iload_n 2, 1) := by decide +kernel
theorem dX11_isClosed_39 : decode cX11_isClosed 39 = .ok (.iload_n 3, 1) := by decide +kernel
theorem dX11_isClosed_40 : decode cX11_isClosed 40 = .ok (.iload_n 1, 1) := by decide +kernel
theorem dX11_isClosed_41 : decode cX11_isClosed 41 = .ok (.invokestatic 122, 3) := by decide +kernel
theorem dX11_isClosed_44 : decode cX11_isClosed 44 = .ok (.baload, 1) := by decide +kernel
theorem dX11_isClosed_45 : decode cX11_isClosed 45 = .ok (.ifCond .ne 5, 3) := by decide +kernel
theorem dX11_isClosed_48 : decode cX11_isClosed 48 = .ok (.iconst 0, 1) := by decide +kernel
theorem dX11_isClosed_49 : decode cX11_isClosed 49 = .ok (.ireturn, 1) := by decide +kernel
theorem dX11_isClosed_50 : decode cX11_isClosed 50 = .ok (.iinc 3 1, 3) := by decide +kernel
theorem dX11_isClosed_53 : decode cX11_isClosed 53 = .ok (.goto (-42), 3) := by decide +kernel
theorem dX11_isClosed_56 : decode cX11_isClosed 56 = .ok (.iinc 2 1, 3) := by decide +kernel
theorem dX11_isClosed_59 : decode cX11_isClosed 59 = .ok (.goto (-57), 3) := by decide +kernel
theorem dX11_isClosed_62 : decode cX11_isClosed 62 = .ok (.iconst 1, 1) := by decide +kernel
theorem dX11_isClosed_63 : decode cX11_isClosed 63 = .ok (.ireturn, 1) := by decide +kernel
theorem dX11_is_0 : decode cX11_is 0 = .ok (.iload_n 2, 1) := by decide +kernel
theorem dX11_is_1 : decode cX11_is 1 = .ok (.iconst 0, 1) := by decide +kernel
theorem dX11_is_2 : decode cX11_is 2 = .ok (.iconst 2, 1) := by decide +kernel
theorem dX11_is_3 : decode cX11_is 3 = .ok (.invokestatic 79, 3) := by decide +kernel
theorem dX11_is_6 : decode cX11_is 6 = .ok (.ifCond .eq 11, 3) := by decide +kernel
theorem dX11_is_9 : decode cX11_is 9 = .ok (.aload_n 0, 1) := by decide +kernel
theorem dX11_is_10 : decode cX11_is 10 = .ok (.iload_n 1, 1) := by decide +kernel
theorem dX11_is_11 : decode cX11_is 11 = .ok (.invokevirtual 170, 3) := by decide +kernel
theorem dX11_is_14 : decode cX11_is 14 = .ok (.ifCond .ne 5, 3) := by decide +kernel
theorem dX11_is_17 : decode cX11_is 17 = .ok (.iconst (-1), 1) := by decide +kernel
theorem dX11_is_18 : decode cX11_is 18 = .ok (.ireturn, 1) := by decide +kernel
theorem dX11_is_19 : decode cX11_is 19 = .ok (.iload_n 2, 1) := by decide +kernel
theorem dX11_is_20 : decode cX11_is 20 = .ok (.ifCond .ne 13, 3) := by decide +kernel
theorem dX11_is_23 : decode cX11_is 23 = .ok (.aload_n 0, 1) := by decide +kernel
theorem dX11_is_24 : decode cX11_is 24 = .ok (.invokevirtual 182, 3) := by decide +kernel
theorem dX11_is_27 : decode cX11_is 27 = .ok (.ifCond .eq 27, 3) := by decide +kernel
theorem dX11_is_30 : decode cX11_is 30 = .ok (.goto 20, 3) := by decide +kernel
theorem dX11_is_33 : decode cX11_is 33 = .ok (.aload_n 0, 1) := by decide +kernel
theorem dX11_is_34 : decode cX11_is 34 = .ok (.iload_n 2, 1) := by decide +kernel
theorem dX11_is_35 : decode cX11_is 35 = .ok (.iconst 1, 1) := by decide +kernel
theorem dX11_is_36 : decode cX11_is 36 = .ok (.if_icmp .ne 7, 3) := by decide +kernel
theorem dX11_is_39 : decode cX11_is 39 = .ok (.iconst 1, 1) := by decide +kernel
theorem dX11_is_40 : decode cX11_is 40 = .ok (.goto 4, 3) := by decide +kernel
theorem dX11_is_43 : decode cX11_is 43 = .ok (.iconst 0, 1) := by decide +kernel
theorem dX11_is_44 : decode cX11_is 44 = .ok (.invokevirtual 186, 3) := by decide +kernel
theorem dX11_is_47 : decode cX11_is 47 = .ok (.ifCond .eq 7, 3) := by decide +kernel
theorem dX11_is_50 : decode cX11_is 50 = .ok (.iconst 1, 1) := by decide +kernel
theorem dX11_is_51 : decode cX11_is 51 = .ok (.goto 4, 3) := by decide +kernel
theorem dX11_is_54 : decode cX11_is 54 = .ok (.iconst 0, 1) := by decide +kernel
theorem dX11_is_55 : decode cX11_is 55 = .ok (.ireturn, 1) := by decide +kernel
theorem dX11_before_0 : decode cX11_before 0 = .ok (.iload_n 2, 1) := by decide +kernel
theorem dX11_before_1 : decode cX11_before 1 = .ok (.iconst 0, 1) := by decide +kernel
theorem dX11_before_2 : decode cX11_before 2 = .ok (.aload_n 0, 1) := by decide +kernel
theorem dX11_before_3 : decode cX11_before 3 = .ok (.getfield 152, 3) := by decide +kernel
theorem dX11_before_6 : decode cX11_before 6 = .ok (.iconst 1, 1) := by decide +kernel
theorem dX11_before_7 : decode cX11_before 7 = .ok (.isub, 1) := by decide +kernel
theorem dX11_before_8 : decode cX11_before 8 = .ok (.invokestatic 79, 3) := by decide +kernel
theorem dX11_before_11 : decode cX11_before 11 = .ok (.ifCond .eq 11, 3) := by decide +kernel
theorem dX11_before_14 : decode cX11_before 14 = .ok (.aload_n 0, 1) := by decide +kernel
theorem dX11_before_15 : decode cX11_before 15 = .ok (.iload_n 1, 1) := by decide +kernel
theorem dX11_before_16 : decode cX11_before 16 = .ok (.invokevirtual 170, 3) := by decide +kernel
theorem dX11_before_19 : decode cX11_before 19 = .ok (.ifCond .ne 5, 3) := by decide +kernel
theorem dX11_before_22 : decode cX11_before 22 = .ok (.iconst (-1), 1) := by decide +kernel
theorem dX11_before_23 : decode cX11_before 23 = .ok (.ireturn, 1) := by decide +kernel
theorem dX11_before_24 : decode cX11_before 24 = .ok (.iconst 0, 1) := by decide +kernel
theorem dX11_before_25 : decode cX11_before 25 = .ok (.istore_n 3, 1) := by decide +kernel
theorem dX11_before_26 : decode cX11_before 26 = .ok (.iload_n 3, 1) := by decide +kernel
theorem dX11_before_27 : decode cX11_before 27 = .ok (.sipush 2401, 3) := by decide +kernel
theorem dX11_before_30 : decode cX11_before 30 = .ok (.if_icmp .ge 120, 3) := by decide +kernel
theorem dX11_before_33 : decode cX11_before 33 = .ok (.aload_n 0, 1) := by decide +kernel
theorem dX11_before_34 : decode cX11_before 34 = .ok (.getfield 66, 3) := by decide +kernel
theorem dX11_before_37 : decode cX11_before 37 = .ok (.iload_n 3, 1) := by decide +kernel
theorem dX11_before_38 : decode cX11_before 38 = .ok (.iconst 0, 1) := by decide +kernel
theorem dX11_before_39 : decode cX11_before 39 = .ok (.bastore, 1) := by decide +kernel
theorem dX11_before_40 : decode cX11_before 40 = .ok (.aload_n 0, 1) := by decide +kernel
theorem dX11_before_41 : decode cX11_before 41 = .ok (.iload_n 3, 1) := by decide +kernel
theorem dX11_before_42 : decode cX11_before 42 = .ok (.invokevirtual 116, 3) := by decide +kernel
theorem dX11_before_45 : decode cX11_before 45 = .ok (.ifCond .eq 99, 3) := by decide +kernel
theorem dX11_before_48 : decode cX11_before 48 = .ok (.aload_n 0, 1) := by decide +kernel
theorem dX11_before_49 : decode cX11_before 49 = .ok (.getfield 63, 3) := by decide +kernel
theorem dX11_before_52 : decode cX11_before 52 = .ok (.iload_n 3, 1) := by decide +kernel
theorem dX11_before_53 : decode cX11_before 53 = .ok (.baload, 1) := by decide +kernel
theorem dX11_before_54 : decode cX11_before 54 = .ok (.ifCond .eq 6, 3) := by decide +kernel
theorem dX11_before_57 : decode cX11_before 57 = .ok (.goto 87, 3) := by decide +kernel
theorem dX11_before_60 : decode cX11_before 60 = .ok (.aload_n 0, 1) := by decide +kernel
theorem dX11_before_61 : decode cX11_before 61 = .ok (.getfield 66, 3) := by decide +kernel
theorem dX11_before_64 : decode cX11_before 64 = .ok (.iload_n 3, 1) := by decide +kernel
theorem dX11_before_65 : decode cX11_before 65 = .ok (.iload_n 3, 1) := by decide +kernel
theorem dX11_before_66 : decode cX11_before 66 = .ok (.ifCond .ne 7, 3) := by decide +kernel
theorem dX11_before_69 : decode cX11_before 69 = .ok (.iconst 1, 1) := by decide +kernel
theorem dX11_before_70 : decode cX11_before 70 = .ok (.goto 4, 3) := by decide +kernel
theorem dX11_before_73 : decode cX11_before 73 = .ok (.iconst 0, 1) := by decide +kernel
theorem dX11_before_74 : decode cX11_before 74 = .ok (.bastore, 1) := by decide +kernel
theorem dX11_before_75 : decode cX11_before 75 = .ok (.iconst 0, 1) := by decide +kernel
theorem dX11_before_76 : decode cX11_before 76 = .ok (.istore 4, 2) := by decide +kernel
theorem dX11_before_78 : decode cX11_before 78 = .ok (.iload 4, 2) := by decide +kernel
theorem dX11_before_80 : decode cX11_before 80 = .ok (.aload_n 0, 1) := by decide +kernel
theorem dX11_before_81 : decode cX11_before 81 = .ok (.getfield 76, 3) := by decide +kernel
theorem dX11_before_84 : decode cX11_before 84 = .ok (.if_icmp .ge 40, 3) := by decide +kernel
theorem dX11_before_87 : decode cX11_before 87 = .ok (.iload_n 3, 1) := by decide +kernel
theorem dX11_before_88 : decode cX11_before 88 = .ok (.iload 4, 2) := by decide +kernel
theorem dX11_before_90 : decode cX11_before 90 = .ok (.invokestatic 109, 3) := by decide +kernel
theorem dX11_before_93 : decode cX11_before 93 = .ok (.ifCond .le 25, 3) := by decide +kernel
theorem dX11_before_96 : decode cX11_before 96 = .ok (.aload_n 0, 1) := by decide +kernel
theorem dX11_before_97 : decode cX11_before 97 = .ok (.getfield 66, 3) := by decide +kernel
theorem dX11_before_100 : decode cX11_before 100 = .ok (.iload_n 3, 1) := by decide +kernel
theorem dX11_before_101 : decode cX11_before 101 = .ok (.iload 4, 2) := by decide +kernel
theorem dX11_before_103 : decode cX11_before 103 = .ok (.invokestatic 105, 3) := by decide +kernel
theorem dX11_before_106 : decode cX11_before 106 = .ok (.isub, 1) := by decide +kernel
theorem dX11_before_107 : decode cX11_before 107 = .ok (.baload, 1) := by decide +kernel
theorem dX11_before_108 : decode cX11_before 108 = .ok (.ifCond .eq 10, 3) := by decide +kernel
theorem dX11_before_111 : decode cX11_before 111 = .ok (.aload_n 0, 1) := by decide +kernel
theorem dX11_before_112 : decode cX11_before 112 = .ok (.getfield 66, 3) := by decide +kernel
theorem dX11_before_115 : decode cX11_before 115 = .ok (.iload_n 3, 1) := by decide +kernel
theorem dX11_before_116 : decode cX11_before 116 = .ok (.iconst 1, 1) := by decide +kernel
theorem dX11_before_117 : decode cX11_before 117 = .ok (.bastore, 1) := by decide +kernel
theorem dX11_before_118 : decode cX11_before 118 = .ok (.iinc 4 1, 3) := by decide +kernel
theorem dX11_before_121 : decode cX11_before 121 = .ok (.goto (-43), 3) := by decide +kernel
theorem dX11_before_124 : decode cX11_before 124 = .ok (.aload_n 0, 1) := by decide +kernel
theorem dX11_before_125 : decode cX11_before 125 = .ok (.getfield 66, 3) := by decide +kernel
theorem dX11_before_128 : decode cX11_before 128 = .ok (.iload_n 3, 1) := by decide +kernel
theorem dX11_before_129 : decode cX11_before 129 = .ok (.baload, 1) := by decide +kernel
theorem dX11_before_130 : decode cX11_before 130 = .ok (.ifCond .eq 14, 3) := by decide +kernel
theorem dX11_before_133 : decode cX11_before 133 = .ok (.aload_n 0, 1) := by decide +kernel
theorem dX11_before_134 : decode cX11_before 134 = .ok (.iload_n 2, 1) := by decide +kernel
theorem dX11_before_135 : decode cX11_before 135 = .ok (.iload_n 3, 1) := by decide +kernel
theorem dX11_before_136 : decode cX11_before 136 = .ok (.invokevirtual 167, 3) := by decide +kernel
theorem dX11_before_139 : decode cX11_before 139 = .ok (.ifCond .eq 5, 3) := by decide +kernel
theorem dX11_before_142 : decode cX11_before 142 = .ok (.iconst 0, 1) := by decide +kernel
theorem dX11_before_143 : decode cX11_before 143 = .ok (.ireturn, 1) := by decide +kernel
theorem dX11_before_144 : decode cX11_before 144 = .ok (.iinc 3 1, 3) := by decide +kernel
theorem dX11_before_147 : decode cX11_before 147 = .ok (.goto (-121), 3) := by decide +kernel
theorem dX11_before_150 : decode cX11_before 150 = .ok (.iconst 1, 1) := by decide +kernel
theorem dX11_before_151 : decode cX11_before 151 = .ok (.ireturn, 1) := by decide +kernel
theorem dX11_say_0 : decode cX11_say 0 = .ok (.iload_n 1, 1) := by decide +kernel
theorem dX11_say_1 : decode cX11_say 1 = .ok (.iconst 0, 1) := by decide +kernel
theorem dX11_say_2 : decode cX11_say 2 = .ok (.iconst 3, 1) := by decide +kernel
theorem dX11_say_3 : decode cX11_say 3 = .ok (.invokestatic 79, 3) := by decide +kernel
theorem dX11_say_6 : decode cX11_say 6 = .ok (.ifCond .ne 6, 3) := by decide +kernel
theorem dX11_say_9 : decode cX11_say 9 = .ok (.bipush (-2), 2) := by decide +kernel
theorem dX11_say_11 : decode cX11_say 11 = .ok (.ireturn, 1) := by decide +kernel
theorem dX11_say_12 : decode cX11_say 12 = .ok (.aload_n 0, 1) := by decide +kernel
theorem dX11_say_13 : decode cX11_say 13 = .ok (.getfield 190, 3) := by decide +kernel
theorem dX11_say_16 : decode cX11_say 16 = .ok (.bipush 24, 2) := by decide +kernel
theorem dX11_say_18 : decode cX11_say 18 = .ok (.if_icmp .ne 6, 3) := by decide +kernel
theorem dX11_say_21 : decode cX11_say 21 = .ok (.bipush (-4), 2) := by decide +kernel
theorem dX11_say_23 : decode cX11_say 23 = .ok (.ireturn, 1) := by decide +kernel
theorem dX11_say_24 : decode cX11_say 24 = .ok (.aload_n 0, 1) := by decide +kernel
theorem dX11_say_25 : decode cX11_say 25 = .ok (.getfield 69, 3) := by decide +kernel
theorem dX11_say_28 : decode cX11_say 28 = .ok (.aload_n 0, 1) := by decide +kernel
theorem dX11_say_29 : decode cX11_say 29 = .ok (.getfield 190, 3) := by decide +kernel
theorem dX11_say_32 : decode cX11_say 32 = .ok (.iload_n 1, 1) := by decide +kernel
theorem dX11_say_33 : decode cX11_say 33 = .ok (.iastore, 1) := by decide +kernel
theorem dX11_say_34 : decode cX11_say 34 = .ok (.aload_n 0, 1) := by decide +kernel
theorem dX11_say_35 : decode cX11_say 35 = .ok (.dup, 1) := by decide +kernel
theorem dX11_say_36 : decode cX11_say 36 = .ok (.getfield 190, 3) := by decide +kernel
theorem dX11_say_39 : decode cX11_say 39 = .ok (.iconst 1, 1) := by decide +kernel
theorem dX11_say_40 : decode cX11_say 40 = .ok (.iadd, 1) := by decide +kernel
theorem dX11_say_41 : decode cX11_say 41 = .ok (.putfield 190, 3) := by decide +kernel
theorem dX11_say_44 : decode cX11_say 44 = .ok (.aload_n 0, 1) := by decide +kernel
theorem dX11_say_45 : decode cX11_say 45 = .ok (.getfield 190, 3) := by decide +kernel
theorem dX11_say_48 : decode cX11_say 48 = .ok (.ireturn, 1) := by decide +kernel
theorem dX11_firstWrong_0 : decode cX11_firstWrong 0 = .ok (.iconst 0, 1) := by decide +kernel
theorem dX11_firstWrong_1 : decode cX11_firstWrong 1 = .ok (.istore_n 1, 1) := by decide +kernel
theorem dX11_firstWrong_2 : decode cX11_firstWrong 2 = .ok (.iconst 0, 1) := by decide +kernel
theorem dX11_firstWrong_3 : decode cX11_firstWrong 3 = .ok (.istore_n 2, 1) := by decide +kernel
theorem dX11_firstWrong_4 : decode cX11_firstWrong 4 = .ok (.iload_n 2, 1) := by decide +kernel
theorem dX11_firstWrong_5 : decode cX11_firstWrong 5 = .ok (.aload_n 0, 1) := by decide +kernel
theorem dX11_firstWrong_6 : decode cX11_firstWrong 6 = .ok (.getfield 190, 3) := by decide +kernel
theorem dX11_firstWrong_9 : decode cX11_firstWrong 9 = .ok (.if_icmp .ge 60, 3) := by decide +kernel
theorem dX11_firstWrong_12 : decode cX11_firstWrong 12 = .ok (.aload_n 0, 1) := by decide +kernel
theorem dX11_firstWrong_13 : decode cX11_firstWrong 13 = .ok (.getfield 69, 3) := by decide +kernel
theorem dX11_firstWrong_16 : decode cX11_firstWrong 16 = .ok (.iload_n 2, 1) := by decide +kernel
theorem dX11_firstWrong_17 : decode cX11_firstWrong 17 = .ok (.iaload, 1) := by decide +kernel
theorem dX11_firstWrong_18 : decode cX11_firstWrong 18 = .ok (.istore_n 3, 1) := by decide +kernel
theorem dX11_firstWrong_19 : decode cX11_firstWrong 19 = .ok (.iload_n 3, 1) := by decide +kernel
theorem dX11_firstWrong_20 : decode cX11_firstWrong 20 = .ok (.aload_n 0, 1) := by decide +kernel
theorem dX11_firstWrong_21 : decode cX11_firstWrong 21 = .ok (.getfield 76, 3) := by decide +kernel
theorem dX11_firstWrong_24 : decode cX11_firstWrong 24 = .ok (.if_icmp .ge 30, 3) := by decide +kernel
theorem dX11_firstWrong_27 : decode cX11_firstWrong 27 = .ok (.iload_n 1, 1) := by decide +kernel
theorem dX11_firstWrong_28 : decode cX11_firstWrong 28 = .ok (.iload_n 3, 1) := by decide +kernel
theorem dX11_firstWrong_29 : decode cX11_firstWrong 29 = .ok (.invokestatic 109, 3) := by decide +kernel
theorem dX11_firstWrong_32 : decode cX11_firstWrong 32 = .ok (.aload_n 0, 1) := by decide +kernel
theorem dX11_firstWrong_33 : decode cX11_firstWrong 33 = .ok (.getfield 7, 3) := by decide +kernel
theorem dX11_firstWrong_36 : decode cX11_firstWrong 36 = .ok (.iload_n 3, 1) := by decide +kernel
theorem dX11_firstWrong_37 : decode cX11_firstWrong 37 = .ok (.iaload, 1) := by decide +kernel
theorem dX11_firstWrong_38 : decode cX11_firstWrong 38 = .ok (.if_icmp .eq 16, 3) := by decide +kernel
theorem dX11_firstWrong_41 : decode cX11_firstWrong 41 = .ok (.aload_n 0, 1) := by decide +kernel
theorem dX11_firstWrong_42 : decode cX11_firstWrong 42 = .ok (.iload_n 1, 1) := by decide +kernel
theorem dX11_firstWrong_43 : decode cX11_firstWrong 43 = .ok (.iload_n 3, 1) := by decide +kernel
theorem dX11_firstWrong_44 : decode cX11_firstWrong 44 = .ok (.invokestatic 105, 3) := by decide +kernel
theorem dX11_firstWrong_47 : decode cX11_firstWrong 47 = .ok (.iadd, 1) := by decide +kernel
theorem dX11_firstWrong_48 : decode cX11_firstWrong 48 = .ok (.invokevirtual 116, 3) := by decide +kernel
theorem dX11_firstWrong_51 : decode cX11_firstWrong 51 = .ok (.ifCond .ne 5, 3) := by decide +kernel
theorem dX11_firstWrong_54 : decode cX11_firstWrong 54 = .ok (.iload_n 2, 1) := by decide +kernel
theorem dX11_firstWrong_55 : decode cX11_firstWrong 55 = .ok (.ireturn, 1) := by decide +kernel
theorem dX11_firstWrong_56 : decode cX11_firstWrong 56 = .ok (.iload_n 1, 1) := by decide +kernel
theorem dX11_firstWrong_57 : decode cX11_firstWrong 57 = .ok (.iload_n 3, 1) := by decide +kernel
theorem dX11_firstWrong_58 : decode cX11_firstWrong 58 = .ok (.invokestatic 105, 3) := by decide +kernel
theorem dX11_firstWrong_61 : decode cX11_firstWrong 61 = .ok (.iadd, 1) := by decide +kernel
theorem dX11_firstWrong_62 : decode cX11_firstWrong 62 = .ok (.istore_n 1, 1) := by decide +kernel
theorem dX11_firstWrong_63 : decode cX11_firstWrong 63 = .ok (.iinc 2 1, 3) := by decide +kernel
theorem dX11_firstWrong_66 : decode cX11_firstWrong 66 = .ok (.goto (-62), 3) := by decide +kernel
theorem dX11_firstWrong_69 : decode cX11_firstWrong 69 = .ok (.aload_n 0, 1) := by decide +kernel
theorem dX11_firstWrong_70 : decode cX11_firstWrong 70 = .ok (.getfield 190, 3) := by decide +kernel
theorem dX11_firstWrong_73 : decode cX11_firstWrong 73 = .ok (.ireturn, 1) := by decide +kernel
theorem dX11_check_0 : decode cX11_check 0 = .ok (.aload_n 0, 1) := by decide +kernel
theorem dX11_check_1 : decode cX11_check 1 = .ok (.invokevirtual 193, 3) := by decide +kernel
theorem dX11_check_4 : decode cX11_check 4 = .ok (.istore_n 1, 1) := by decide +kernel
theorem dX11_check_5 : decode cX11_check 5 = .ok (.iload_n 1, 1) := by decide +kernel
theorem dX11_check_6 : decode cX11_check 6 = .ok (.aload_n 0, 1) := by decide +kernel
theorem dX11_check_7 : decode cX11_check 7 = .ok (.getfield 190, 3) := by decide +kernel
theorem dX11_check_10 : decode cX11_check 10 = .ok (.if_icmp .ne 18, 3) := by decide +kernel
theorem dX11_check_13 : decode cX11_check 13 = .ok (.aload_n 0, 1) := by decide +kernel
theorem dX11_check_14 : decode cX11_check 14 = .ok (.getfield 190, 3) := by decide +kernel
theorem dX11_check_17 : decode cX11_check 17 = .ok (.aload_n 0, 1) := by decide +kernel
theorem dX11_check_18 : decode cX11_check 18 = .ok (.getfield 87, 3) := by decide +kernel
theorem dX11_check_21 : decode cX11_check 21 = .ok (.if_icmp .ne 7, 3) := by decide +kernel
theorem dX11_check_24 : decode cX11_check 24 = .ok (.iconst 1, 1) := by decide +kernel
theorem dX11_check_25 : decode cX11_check 25 = .ok (.goto 4, 3) := by decide +kernel
theorem dX11_check_28 : decode cX11_check 28 = .ok (.iconst 0, 1) := by decide +kernel
theorem dX11_check_29 : decode cX11_check 29 = .ok (.istore_n 2, 1) := by decide +kernel
theorem dX11_check_30 : decode cX11_check 30 = .ok (.aload_n 0, 1) := by decide +kernel
theorem dX11_check_31 : decode cX11_check 31 = .ok (.iconst 0, 1) := by decide +kernel
theorem dX11_check_32 : decode cX11_check 32 = .ok (.putfield 190, 3) := by decide +kernel
theorem dX11_check_35 : decode cX11_check 35 = .ok (.iload_n 2, 1) := by decide +kernel
theorem dX11_check_36 : decode cX11_check 36 = .ok (.ifCond .eq 8, 3) := by decide +kernel
theorem dX11_check_39 : decode cX11_check 39 = .ok (.bipush 100, 2) := by decide +kernel
theorem dX11_check_41 : decode cX11_check 41 = .ok (.goto 4, 3) := by decide +kernel
theorem dX11_check_44 : decode cX11_check 44 = .ok (.iload_n 1, 1) := by decide +kernel
theorem dX11_check_45 : decode cX11_check 45 = .ok (.ireturn, 1) := by decide +kernel
theorem dX11_passes_0 : decode cX11_passes 0 = .ok (.iload_n 1, 1) := by decide +kernel
theorem dX11_passes_1 : decode cX11_passes 1 = .ok (.iconst 0, 1) := by decide +kernel
theorem dX11_passes_2 : decode cX11_passes 2 = .ok (.aload_n 0, 1) := by decide +kernel
theorem dX11_passes_3 : decode cX11_passes 3 = .ok (.getfield 152, 3) := by decide +kernel
theorem dX11_passes_6 : decode cX11_passes 6 = .ok (.iconst 1, 1) := by decide +kernel
theorem dX11_passes_7 : decode cX11_passes 7 = .ok (.isub, 1) := by decide +kernel
theorem dX11_passes_8 : decode cX11_passes 8 = .ok (.invokestatic 79, 3) := by decide +kernel
theorem dX11_passes_11 : decode cX11_passes 11 = .ok (.ifCond .ne 5, 3) := by decide +kernel
theorem dX11_passes_14 : decode cX11_passes 14 = .ok (.iconst (-1), 1) := by decide +kernel
theorem dX11_passes_15 : decode cX11_passes 15 = .ok (.ireturn, 1) := by decide +kernel
theorem dX11_passes_16 : decode cX11_passes 16 = .ok (.aload_n 0, 1) := by decide +kernel
theorem dX11_passes_17 : decode cX11_passes 17 = .ok (.invokevirtual 193, 3) := by decide +kernel
theorem dX11_passes_20 : decode cX11_passes 20 = .ok (.aload_n 0, 1) := by decide +kernel
theorem dX11_passes_21 : decode cX11_passes 21 = .ok (.getfield 190, 3) := by decide +kernel
theorem dX11_passes_24 : decode cX11_passes 24 = .ok (.if_icmp .ge 6, 3) := by decide +kernel
theorem dX11_passes_27 : decode cX11_passes 27 = .ok (.bipush (-3), 2) := by decide +kernel
theorem dX11_passes_29 : decode cX11_passes 29 = .ok (.ireturn, 1) := by decide +kernel
theorem dX11_passes_30 : decode cX11_passes 30 = .ok (.iconst 0, 1) := by decide +kernel
theorem dX11_passes_31 : decode cX11_passes 31 = .ok (.istore_n 2, 1) := by decide +kernel
theorem dX11_passes_32 : decode cX11_passes 32 = .ok (.iconst 0, 1) := by decide +kernel
theorem dX11_passes_33 : decode cX11_passes 33 = .ok (.istore_n 3, 1) := by decide +kernel
theorem dX11_passes_34 : decode cX11_passes 34 = .ok (.iload_n 3, 1) := by decide +kernel
theorem dX11_passes_35 : decode cX11_passes 35 = .ok (.aload_n 0, 1) := by decide +kernel
theorem dX11_passes_36 : decode cX11_passes 36 = .ok (.getfield 190, 3) := by decide +kernel
theorem dX11_passes_39 : decode cX11_passes 39 = .ok (.if_icmp .gt 40, 3) := by decide +kernel
theorem dX11_passes_42 : decode cX11_passes 42 = .ok (.aload_n 0, 1) := by decide +kernel
theorem dX11_passes_43 : decode cX11_passes 43 = .ok (.iload_n 1, 1) := by decide +kernel
theorem dX11_passes_44 : decode cX11_passes 44 = .ok (.iload_n 2, 1) := by decide +kernel
theorem dX11_passes_45 : decode cX11_passes 45 = .ok (.invokevirtual 167, 3) := by decide +kernel
theorem dX11_passes_48 : decode cX11_passes 48 = .ok (.ifCond .eq 5, 3) := by decide +kernel
theorem dX11_passes_51 : decode cX11_passes 51 = .ok (.iload_n 3, 1) := by decide +kernel
theorem dX11_passes_52 : decode cX11_passes 52 = .ok (.ireturn, 1) := by decide +kernel
theorem dX11_passes_53 : decode cX11_passes 53 = .ok (.iload_n 3, 1) := by decide +kernel
theorem dX11_passes_54 : decode cX11_passes 54 = .ok (.aload_n 0, 1) := by decide +kernel
theorem dX11_passes_55 : decode cX11_passes 55 = .ok (.getfield 190, 3) := by decide +kernel
theorem dX11_passes_58 : decode cX11_passes 58 = .ok (.if_icmp .ge 15, 3) := by decide +kernel
theorem dX11_passes_61 : decode cX11_passes 61 = .ok (.iload_n 2, 1) := by decide +kernel
theorem dX11_passes_62 : decode cX11_passes 62 = .ok (.aload_n 0, 1) := by decide +kernel
theorem dX11_passes_63 : decode cX11_passes 63 = .ok (.getfield 69, 3) := by decide +kernel
theorem dX11_passes_66 : decode cX11_passes 66 = .ok (.iload_n 3, 1) := by decide +kernel
theorem dX11_passes_67 : decode cX11_passes 67 = .ok (.iaload, 1) := by decide +kernel
theorem dX11_passes_68 : decode cX11_passes 68 = .ok (.invokestatic 105, 3) := by decide +kernel
theorem dX11_passes_71 : decode cX11_passes 71 = .ok (.iadd, 1) := by decide +kernel
theorem dX11_passes_72 : decode cX11_passes 72 = .ok (.istore_n 2, 1) := by decide +kernel
theorem dX11_passes_73 : decode cX11_passes 73 = .ok (.iinc 3 1, 3) := by decide +kernel
theorem dX11_passes_76 : decode cX11_passes 76 = .ok (.goto (-42), 3) := by decide +kernel
theorem dX11_passes_79 : decode cX11_passes 79 = .ok (.iconst (-1), 1) := by decide +kernel
theorem dX11_passes_80 : decode cX11_passes 80 = .ok (.ireturn, 1) := by decide +kernel
theorem dX11_count__0 : decode cX11_count_ 0 = .ok (.iconst 0, 1) := by decide +kernel
theorem dX11_count__1 : decode cX11_count_ 1 = .ok (.istore_n 2, 1) := by decide +kernel
theorem dX11_count__2 : decode cX11_count_ 2 = .ok (.iload_n 1, 1) := by decide +kernel
theorem dX11_count__3 : decode cX11_count_ 3 = .ok (.tableswitch 107 0 6 #[41, 46, 51, 56, 92, 97, 102], 41) := by decide +kernel
theorem dX11_count__44 : decode cX11_count_ 44 = .ok (.aload_n 0, 1) := by decide +kernel
theorem dX11_count__45 : decode cX11_count_ 45 = .ok (.getfield 76, 3) := by decide +kernel
theorem dX11_count__48 : decode cX11_count_ 48 = .ok (.ireturn, 1) := by decide +kernel
theorem dX11_count__49 : decode cX11_count_ 49 = .ok (.aload_n 0, 1) := by decide +kernel
theorem dX11_count__50 : decode cX11_count_ 50 = .ok (.getfield 87, 3) := by decide +kernel
theorem dX11_count__53 : decode cX11_count_ 53 = .ok (.ireturn, 1) := by decide +kernel
theorem dX11_count__54 : decode cX11_count_ 54 = .ok (.aload_n 0, 1) := by decide +kernel
theorem dX11_count__55 : decode cX11_count_ 55 = .ok (.getfield 94, 3) := by decide +kernel
theorem dX11_count__58 : decode cX11_count_ 58 = .ok (.ireturn, 1) := by decide +kernel
theorem dX11_count__59 : decode cX11_count_ 59 = .ok (.iconst 0, 1) := by decide +kernel
theorem dX11_count__60 : decode cX11_count_ 60 = .ok (.istore_n 3, 1) := by decide +kernel
theorem dX11_count__61 : decode cX11_count_ 61 = .ok (.iload_n 3, 1) := by decide +kernel
theorem dX11_count__62 : decode cX11_count_ 62 = .ok (.aload_n 0, 1) := by decide +kernel
theorem dX11_count__63 : decode cX11_count_ 63 = .ok (.getfield 94, 3) := by decide +kernel
theorem dX11_count__66 : decode cX11_count_ 66 = .ok (.if_icmp .ge 27, 3) := by decide +kernel
theorem dX11_count__69 : decode cX11_count_ 69 = .ok (.iload_n 2, 1) := by decide +kernel
theorem dX11_count__70 : decode cX11_count_ 70 = .ok (.aload_n 0, 1) := by decide +kernel
theorem dX11_count__71 : decode cX11_count_ 71 = .ok (.getfield 37, 3) := by decide +kernel
theorem dX11_count__74 : decode cX11_count_ 74 = .ok (.iload_n 3, 1) := by decide +kernel
theorem dX11_count__75 : decode cX11_count_ 75 = .ok (.iaload, 1) := by decide +kernel
theorem dX11_count__76 : decode cX11_count_ 76 = .ok (.iconst (-1), 1) := by decide +kernel
theorem dX11_count__77 : decode cX11_count_ 77 = .ok (.if_icmp .ne 7, 3) := by decide +kernel
theorem dX11_count__80 : decode cX11_count_ 80 = .ok (.iconst 1, 1) := by decide +kernel
theorem dX11_count__81 : decode cX11_count_ 81 = .ok (.goto 4, 3) := by decide +kernel
theorem dX11_count__84 : decode cX11_count_ 84 = .ok (.iconst 0, 1) := by decide +kernel
theorem dX11_count__85 : decode cX11_count_ 85 = .ok (.iadd, 1) := by decide +kernel
theorem dX11_count__86 : decode cX11_count_ 86 = .ok (.istore_n 2, 1) := by decide +kernel
theorem dX11_count__87 : decode cX11_count_ 87 = .ok (.iinc 3 1, 3) := by decide +kernel
theorem dX11_count__90 : decode cX11_count_ 90 = .ok (.goto (-29), 3) := by decide +kernel
theorem dX11_count__93 : decode cX11_count_ 93 = .ok (.iload_n 2, 1) := by decide +kernel
theorem dX11_count__94 : decode cX11_count_ 94 = .ok (.ireturn, 1) := by decide +kernel
theorem dX11_count__95 : decode cX11_count_ 95 = .ok (.aload_n 0, 1) := by decide +kernel
theorem dX11_count__96 : decode cX11_count_ 96 = .ok (.getfield 152, 3) := by decide +kernel
theorem dX11_count__99 : decode cX11_count_ 99 = .ok (.ireturn, 1) := by decide +kernel
theorem dX11_count__100 : decode cX11_count_ 100 = .ok (.aload_n 0, 1) := by decide +kernel
theorem dX11_count__101 : decode cX11_count_ 101 = .ok (.getfield 142, 3) := by decide +kernel
theorem dX11_count__104 : decode cX11_count_ 104 = .ok (.ireturn, 1) := by decide +kernel
theorem dX11_count__105 : decode cX11_count_ 105 = .ok (.aload_n 0, 1) := by decide +kernel
theorem dX11_count__106 : decode cX11_count_ 106 = .ok (.getfield 190, 3) := by decide +kernel
theorem dX11_count__109 : decode cX11_count_ 109 = .ok (.ireturn, 1) := by decide +kernel
theorem dX11_count__110 : decode cX11_count_ 110 = .ok (.iconst (-1), 1) := by decide +kernel
theorem dX11_count__111 : decode cX11_count_ 111 = .ok (.ireturn, 1) := by decide +kernel
theorem dJ9_max_7cf53_0 : decode cJ9_max_7cf53 0 = .ok (.iload_n 0, 1) := by decide +kernel
theorem dJ9_max_7cf53_1 : decode cJ9_max_7cf53 1 = .ok (.iload_n 1, 1) := by decide +kernel
theorem dJ9_max_7cf53_2 : decode cJ9_max_7cf53 2 = .ok (.if_icmp .lt 7, 3) := by decide +kernel
theorem dJ9_max_7cf53_5 : decode cJ9_max_7cf53 5 = .ok (.iload_n 0, 1) := by decide +kernel
theorem dJ9_max_7cf53_6 : decode cJ9_max_7cf53 6 = .ok (.goto 4, 3) := by decide +kernel
theorem dJ9_max_7cf53_9 : decode cJ9_max_7cf53 9 = .ok (.iload_n 1, 1) := by decide +kernel
theorem dJ9_max_7cf53_10 : decode cJ9_max_7cf53 10 = .ok (.ireturn, 1) := by decide +kernel
theorem dJ9_min_7cf53_0 : decode cJ9_min_7cf53 0 = .ok (.iload_n 0, 1) := by decide +kernel
theorem dJ9_min_7cf53_1 : decode cJ9_min_7cf53 1 = .ok (.iload_n 1, 1) := by decide +kernel
theorem dJ9_min_7cf53_2 : decode cJ9_min_7cf53 2 = .ok (.if_icmp .gt 7, 3) := by decide +kernel
theorem dJ9_min_7cf53_5 : decode cJ9_min_7cf53 5 = .ok (.iload_n 0, 1) := by decide +kernel
theorem dJ9_min_7cf53_6 : decode cJ9_min_7cf53 6 = .ok (.goto 4, 3) := by decide +kernel
theorem dJ9_min_7cf53_9 : decode cJ9_min_7cf53 9 = .ok (.iload_n 1, 1) := by decide +kernel
theorem dJ9_min_7cf53_10 : decode cJ9_min_7cf53 10 = .ok (.ireturn, 1) := by decide +kernel
theorem dJ7_fill_53178_0 : decode cJ7_fill_53178 0 = .ok (.iconst 0, 1) := by decide +kernel
theorem dJ7_fill_53178_1 : decode cJ7_fill_53178 1 = .ok (.istore_n 2, 1) := by decide +kernel
theorem dJ7_fill_53178_2 : decode cJ7_fill_53178 2 = .ok (.aload_n 0, 1) := by decide +kernel
theorem dJ7_fill_53178_3 : decode cJ7_fill_53178 3 = .ok (.arraylength, 1) := by decide +kernel
theorem dJ7_fill_53178_4 : decode cJ7_fill_53178 4 = .ok (.istore_n 3, 1) := by decide +kernel
theorem dJ7_fill_53178_5 : decode cJ7_fill_53178 5 = .ok (.iload_n 2, 1) := by decide +kernel
theorem dJ7_fill_53178_6 : decode cJ7_fill_53178 6 = .ok (.iload_n 3, 1) := by decide +kernel
theorem dJ7_fill_53178_7 : decode cJ7_fill_53178 7 = .ok (.if_icmp .ge 13, 3) := by decide +kernel
theorem dJ7_fill_53178_10 : decode cJ7_fill_53178 10 = .ok (.aload_n 0, 1) := by decide +kernel
theorem dJ7_fill_53178_11 : decode cJ7_fill_53178 11 = .ok (.iload_n 2, 1) := by decide +kernel
theorem dJ7_fill_53178_12 : decode cJ7_fill_53178 12 = .ok (.iload_n 1, 1) := by decide +kernel
theorem dJ7_fill_53178_13 : decode cJ7_fill_53178 13 = .ok (.iastore, 1) := by decide +kernel
theorem dJ7_fill_53178_14 : decode cJ7_fill_53178 14 = .ok (.iinc 2 1, 3) := by decide +kernel
theorem dJ7_fill_53178_17 : decode cJ7_fill_53178 17 = .ok (.goto (-12), 3) := by decide +kernel
theorem dJ7_fill_53178_20 : decode cJ7_fill_53178 20 = .ok (.return_, 1) := by decide +kernel
