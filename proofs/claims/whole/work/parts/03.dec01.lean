theorem dX5_reckoned_0 : decode cX5_reckoned 0 = .ok (.iload_n 0, 1) := by decide +kernel
theorem dX5_reckoned_1 : decode cX5_reckoned 1 = .ok (.tableswitch 105 0 6 #[43, 47, 51, 55, 66, 77, 91], 43) := by decide +kernel
theorem dX5_reckoned_44 : decode cX5_reckoned 44 = .ok (.iload_n 1, 1) := by decide +kernel
theorem dX5_reckoned_45 : decode cX5_reckoned 45 = .ok (.iload_n 2, 1) := by decide +kernel
theorem dX5_reckoned_46 : decode cX5_reckoned 46 = .ok (.iadd, 1) := by decide +kernel
theorem dX5_reckoned_47 : decode cX5_reckoned 47 = .ok (.ireturn, 1) := by decide +kernel
theorem dX5_reckoned_48 : decode cX5_reckoned 48 = .ok (.iload_n 1, 1) := by decide +kernel
theorem dX5_reckoned_49 : decode cX5_reckoned 49 = .ok (.iload_n 2, 1) := by decide +kernel
theorem dX5_reckoned_50 : decode cX5_reckoned 50 = .ok (.isub, 1) := by decide +kernel
theorem dX5_reckoned_51 : decode cX5_reckoned 51 = .ok (.ireturn, 1) := by decide +kernel
theorem dX5_reckoned_52 : decode cX5_reckoned 52 = .ok (.iload_n 1, 1) := by decide +kernel
theorem dX5_reckoned_53 : decode cX5_reckoned 53 = .ok (.iload_n 2, 1) := by decide +kernel
theorem dX5_reckoned_54 : decode cX5_reckoned 54 = .ok (.imul, 1) := by decide +kernel
theorem dX5_reckoned_55 : decode cX5_reckoned 55 = .ok (.ireturn, 1) := by decide +kernel
theorem dX5_reckoned_56 : decode cX5_reckoned 56 = .ok (.iload_n 1, 1) := by decide +kernel
theorem dX5_reckoned_57 : decode cX5_reckoned 57 = .ok (.iload_n 2, 1) := by decide +kernel
theorem dX5_reckoned_58 : decode cX5_reckoned 58 = .ok (.if_icmp .ge 7, 3) := by decide +kernel
theorem dX5_reckoned_61 : decode cX5_reckoned 61 = .ok (.iconst 1, 1) := by decide +kernel
theorem dX5_reckoned_62 : decode cX5_reckoned 62 = .ok (.goto 4, 3) := by decide +kernel
theorem dX5_reckoned_65 : decode cX5_reckoned 65 = .ok (.iconst 0, 1) := by decide +kernel
theorem dX5_reckoned_66 : decode cX5_reckoned 66 = .ok (.ireturn, 1) := by decide +kernel
theorem dX5_reckoned_67 : decode cX5_reckoned 67 = .ok (.iload_n 1, 1) := by decide +kernel
theorem dX5_reckoned_68 : decode cX5_reckoned 68 = .ok (.iload_n 2, 1) := by decide +kernel
theorem dX5_reckoned_69 : decode cX5_reckoned 69 = .ok (.if_icmp .ne 7, 3) := by decide +kernel
theorem dX5_reckoned_72 : decode cX5_reckoned 72 = .ok (.iconst 1, 1) := by decide +kernel
theorem dX5_reckoned_73 : decode cX5_reckoned 73 = .ok (.goto 4, 3) := by decide +kernel
theorem dX5_reckoned_76 : decode cX5_reckoned 76 = .ok (.iconst 0, 1) := by decide +kernel
theorem dX5_reckoned_77 : decode cX5_reckoned 77 = .ok (.ireturn, 1) := by decide +kernel
theorem dX5_reckoned_78 : decode cX5_reckoned 78 = .ok (.iload_n 1, 1) := by decide +kernel
theorem dX5_reckoned_79 : decode cX5_reckoned 79 = .ok (.ifCond .eq 11, 3) := by decide +kernel
theorem dX5_reckoned_82 : decode cX5_reckoned 82 = .ok (.iload_n 2, 1) := by decide +kernel
theorem dX5_reckoned_83 : decode cX5_reckoned 83 = .ok (.ifCond .eq 7, 3) := by decide +kernel
theorem dX5_reckoned_86 : decode cX5_reckoned 86 = .ok (.iconst 1, 1) := by decide +kernel
theorem dX5_reckoned_87 : decode cX5_reckoned 87 = .ok (.goto 4, 3) := by decide +kernel
theorem dX5_reckoned_90 : decode cX5_reckoned 90 = .ok (.iconst 0, 1) := by decide +kernel
theorem dX5_reckoned_91 : decode cX5_reckoned 91 = .ok (.ireturn, 1) := by decide +kernel
theorem dX5_reckoned_92 : decode cX5_reckoned 92 = .ok (.iload_n 1, 1) := by decide +kernel
theorem dX5_reckoned_93 : decode cX5_reckoned 93 = .ok (.ifCond .ne 7, 3) := by decide +kernel
theorem dX5_reckoned_96 : decode cX5_reckoned 96 = .ok (.iload_n 2, 1) := by decide +kernel
theorem dX5_reckoned_97 : decode cX5_reckoned 97 = .ok (.ifCond .eq 7, 3) := by decide +kernel
theorem dX5_reckoned_100 : decode cX5_reckoned 100 = .ok (.iconst 1, 1) := by decide +kernel
theorem dX5_reckoned_101 : decode cX5_reckoned 101 = .ok (.goto 4, 3) := by decide +kernel
theorem dX5_reckoned_104 : decode cX5_reckoned 104 = .ok (.iconst 0, 1) := by decide +kernel
theorem dX5_reckoned_105 : decode cX5_reckoned 105 = .ok (.ireturn, 1) := by decide +kernel
theorem dX5_reckoned_106 : decode cX5_reckoned 106 = .ok (.iload_n 1, 1) := by decide +kernel
theorem dX5_reckoned_107 : decode cX5_reckoned 107 = .ok (.ifCond .ne 7, 3) := by decide +kernel
theorem dX5_reckoned_110 : decode cX5_reckoned 110 = .ok (.iconst 1, 1) := by decide +kernel
theorem dX5_reckoned_111 : decode cX5_reckoned 111 = .ok (.goto 4, 3) := by decide +kernel
theorem dX5_reckoned_114 : decode cX5_reckoned 114 = .ok (.iconst 0, 1) := by decide +kernel
theorem dX5_reckoned_115 : decode cX5_reckoned 115 = .ok (.ireturn, 1) := by decide +kernel
theorem dX6_init_0 : decode cX6_init 0 = .ok (.aload_n 0, 1) := by decide +kernel
theorem dX6_init_1 : decode cX6_init 1 = .ok (.invokespecial 3, 3) := by decide +kernel
theorem dX6_init_4 : decode cX6_init 4 = .ok (.aload_n 0, 1) := by decide +kernel
theorem dX6_init_5 : decode cX6_init 5 = .ok (.sipush 2401, 3) := by decide +kernel
theorem dX6_init_8 : decode cX6_init 8 = .ok (.newarray .int, 2) := by decide +kernel
theorem dX6_init_10 : decode cX6_init 10 = .ok (.putfield 9, 3) := by decide +kernel
theorem dX6_init_13 : decode cX6_init 13 = .ok (.aload_n 0, 1) := by decide +kernel
theorem dX6_init_14 : decode cX6_init 14 = .ok (.sipush 2401, 3) := by decide +kernel
theorem dX6_init_17 : decode cX6_init 17 = .ok (.newarray .boolean, 2) := by decide +kernel
theorem dX6_init_19 : decode cX6_init 19 = .ok (.putfield 15, 3) := by decide +kernel
theorem dX6_init_22 : decode cX6_init 22 = .ok (.aload_n 0, 1) := by decide +kernel
theorem dX6_init_23 : decode cX6_init 23 = .ok (.bipush 25, 2) := by decide +kernel
theorem dX6_init_25 : decode cX6_init 25 = .ok (.newarray .int, 2) := by decide +kernel
theorem dX6_init_27 : decode cX6_init 27 = .ok (.putfield 19, 3) := by decide +kernel
theorem dX6_init_30 : decode cX6_init 30 = .ok (.aload_n 0, 1) := by decide +kernel
theorem dX6_init_31 : decode cX6_init 31 = .ok (.iconst 4, 1) := by decide +kernel
theorem dX6_init_32 : decode cX6_init 32 = .ok (.newarray .int, 2) := by decide +kernel
theorem dX6_init_34 : decode cX6_init 34 = .ok (.putfield 22, 3) := by decide +kernel
theorem dX6_init_37 : decode cX6_init 37 = .ok (.aload_n 0, 1) := by decide +kernel
theorem dX6_init_38 : decode cX6_init 38 = .ok (.iconst (-1), 1) := by decide +kernel
theorem dX6_init_39 : decode cX6_init 39 = .ok (.putfield 25, 3) := by decide +kernel
theorem dX6_init_42 : decode cX6_init 42 = .ok (.aload_n 0, 1) := by decide +kernel
theorem dX6_init_43 : decode cX6_init 43 = .ok (.aload_n 1, 1) := by decide +kernel
theorem dX6_init_44 : decode cX6_init 44 = .ok (.putfield 29, 3) := by decide +kernel
theorem dX6_init_47 : decode cX6_init 47 = .ok (.return_, 1) := by decide +kernel
theorem dX6_shareOf_0 : decode cX6_shareOf 0 = .ok (.iload_n 0, 1) := by decide +kernel
theorem dX6_shareOf_1 : decode cX6_shareOf 1 = .ok (.istore_n 2, 1) := by decide +kernel
theorem dX6_shareOf_2 : decode cX6_shareOf 2 = .ok (.iconst 0, 1) := by decide +kernel
theorem dX6_shareOf_3 : decode cX6_shareOf 3 = .ok (.istore_n 3, 1) := by decide +kernel
theorem dX6_shareOf_4 : decode cX6_shareOf 4 = .ok (.iload_n 3, 1) := by decide +kernel
theorem dX6_shareOf_5 : decode cX6_shareOf 5 = .ok (.iload_n 1, 1) := by decide +kernel
theorem dX6_shareOf_6 : decode cX6_shareOf 6 = .ok (.if_icmp .ge 14, 3) := by decide +kernel
theorem dX6_shareOf_9 : decode cX6_shareOf 9 = .ok (.iload_n 2, 1) := by decide +kernel
theorem dX6_shareOf_10 : decode cX6_shareOf 10 = .ok (.bipush 7, 2) := by decide +kernel
theorem dX6_shareOf_12 : decode cX6_shareOf 12 = .ok (.idiv, 1) := by decide +kernel
theorem dX6_shareOf_13 : decode cX6_shareOf 13 = .ok (.istore_n 2, 1) := by decide +kernel
theorem dX6_shareOf_14 : decode cX6_shareOf 14 = .ok (.iinc 3 1, 3) := by decide +kernel
theorem dX6_shareOf_17 : decode cX6_shareOf 17 = .ok (.goto (-13), 3) := by decide +kernel
theorem dX6_shareOf_20 : decode cX6_shareOf 20 = .ok (.iload_n 2, 1) := by decide +kernel
theorem dX6_shareOf_21 : decode cX6_shareOf 21 = .ok (.bipush 7, 2) := by decide +kernel
theorem dX6_shareOf_23 : decode cX6_shareOf 23 = .ok (.irem, 1) := by decide +kernel
theorem dX6_shareOf_24 : decode cX6_shareOf 24 = .ok (.ireturn, 1) := by decide +kernel
theorem dX6_sizeOf_0 : decode cX6_sizeOf 0 = .ok (.iconst 0, 1) := by decide +kernel
theorem dX6_sizeOf_1 : decode cX6_sizeOf 1 = .ok (.istore_n 1, 1) := by decide +kernel
theorem dX6_sizeOf_2 : decode cX6_sizeOf 2 = .ok (.iload_n 0, 1) := by decide +kernel
theorem dX6_sizeOf_3 : decode cX6_sizeOf 3 = .ok (.istore_n 2, 1) := by decide +kernel
theorem dX6_sizeOf_4 : decode cX6_sizeOf 4 = .ok (.iconst 0, 1) := by decide +kernel
theorem dX6_sizeOf_5 : decode cX6_sizeOf 5 = .ok (.istore_n 3, 1) := by decide +kernel
theorem dX6_sizeOf_6 : decode cX6_sizeOf 6 = .ok (.iload_n 3, 1) := by decide +kernel
theorem dX6_sizeOf_7 : decode cX6_sizeOf 7 = .ok (.iconst 4, 1) := by decide +kernel
theorem dX6_sizeOf_8 : decode cX6_sizeOf 8 = .ok (.if_icmp .ge 21, 3) := by decide +kernel
theorem dX6_sizeOf_11 : decode cX6_sizeOf 11 = .ok (.iload_n 1, 1) := by decide +kernel
theorem dX6_sizeOf_12 : decode cX6_sizeOf 12 = .ok (.iload_n 2, 1) := by decide +kernel
theorem dX6_sizeOf_13 : decode cX6_sizeOf 13 = .ok (.bipush 7, 2) := by decide +kernel
theorem dX6_sizeOf_15 : decode cX6_sizeOf 15 = .ok (.irem, 1) := by decide +kernel
theorem dX6_sizeOf_16 : decode cX6_sizeOf 16 = .ok (.iadd, 1) := by decide +kernel
theorem dX6_sizeOf_17 : decode cX6_sizeOf 17 = .ok (.istore_n 1, 1) := by decide +kernel
theorem dX6_sizeOf_18 : decode cX6_sizeOf 18 = .ok (.iload_n 2, 1) := by decide +kernel
theorem dX6_sizeOf_19 : decode cX6_sizeOf 19 = .ok (.bipush 7, 2) := by decide +kernel
theorem dX6_sizeOf_21 : decode cX6_sizeOf 21 = .ok (.idiv, 1) := by decide +kernel
theorem dX6_sizeOf_22 : decode cX6_sizeOf 22 = .ok (.istore_n 2, 1) := by decide +kernel
theorem dX6_sizeOf_23 : decode cX6_sizeOf 23 = .ok (.iinc 3 1, 3) := by decide +kernel
theorem dX6_sizeOf_26 : decode cX6_sizeOf 26 = .ok (.goto (-20), 3) := by decide +kernel
theorem dX6_sizeOf_29 : decode cX6_sizeOf 29 = .ok (.iload_n 1, 1) := by decide +kernel
theorem dX6_sizeOf_30 : decode cX6_sizeOf 30 = .ok (.ireturn, 1) := by decide +kernel
theorem dX6_combine_0 : decode cX6_combine 0 = .ok (.iconst 0, 1) := by decide +kernel
theorem dX6_combine_1 : decode cX6_combine 1 = .ok (.istore_n 3, 1) := by decide +kernel
theorem dX6_combine_2 : decode cX6_combine 2 = .ok (.iconst 0, 1) := by decide +kernel
theorem dX6_combine_3 : decode cX6_combine 3 = .ok (.istore 4, 2) := by decide +kernel
theorem dX6_combine_5 : decode cX6_combine 5 = .ok (.iload 4, 2) := by decide +kernel
theorem dX6_combine_7 : decode cX6_combine 7 = .ok (.iconst 4, 1) := by decide +kernel
theorem dX6_combine_8 : decode cX6_combine 8 = .ok (.if_icmp .ge 56, 3) := by decide +kernel
theorem dX6_combine_11 : decode cX6_combine 11 = .ok (.iload_n 0, 1) := by decide +kernel
theorem dX6_combine_12 : decode cX6_combine 12 = .ok (.iload 4, 2) := by decide +kernel
theorem dX6_combine_14 : decode cX6_combine 14 = .ok (.invokestatic 33, 3) := by decide +kernel
theorem dX6_combine_17 : decode cX6_combine 17 = .ok (.istore 5, 2) := by decide +kernel
theorem dX6_combine_19 : decode cX6_combine 19 = .ok (.iload_n 1, 1) := by decide +kernel
theorem dX6_combine_20 : decode cX6_combine 20 = .ok (.iload 4, 2) := by decide +kernel
theorem dX6_combine_22 : decode cX6_combine 22 = .ok (.invokestatic 33, 3) := by decide +kernel
theorem dX6_combine_25 : decode cX6_combine 25 = .ok (.istore 6, 2) := by decide +kernel
theorem dX6_combine_27 : decode cX6_combine 27 = .ok (.iload_n 3, 1) := by decide +kernel
theorem dX6_combine_28 : decode cX6_combine 28 = .ok (.iload_n 2, 1) := by decide +kernel
theorem dX6_combine_29 : decode cX6_combine 29 = .ok (.ifCond .eq 13, 3) := by decide +kernel
theorem dX6_combine_32 : decode cX6_combine 32 = .ok (.iload 5, 2) := by decide +kernel
theorem dX6_combine_34 : decode cX6_combine 34 = .ok (.iload 6, 2) := by decide +kernel
theorem dX6_combine_36 : decode cX6_combine 36 = .ok (.invokestatic 37, 3) := by decide +kernel
theorem dX6_combine_39 : decode cX6_combine 39 = .ok (.goto 10, 3) := by decide +kernel
theorem dX6_combine_42 : decode cX6_combine 42 = .ok (.iload 5, 2) := by decide +kernel
theorem dX6_combine_44 : decode cX6_combine 44 = .ok (.iload 6, 2) := by decide +kernel
theorem dX6_combine_46 : decode cX6_combine 46 = .ok (.invokestatic 42, 3) := by decide +kernel
theorem dX6_combine_49 : decode cX6_combine 49 = .ok (.getstatic 45, 3) := by decide +kernel
theorem dX6_combine_52 : decode cX6_combine 52 = .ok (.iload 4, 2) := by decide +kernel
theorem dX6_combine_54 : decode cX6_combine 54 = .ok (.iaload, 1) := by decide +kernel
theorem dX6_combine_55 : decode cX6_combine 55 = .ok (.imul, 1) := by decide +kernel
theorem dX6_combine_56 : decode cX6_combine 56 = .ok (.iadd, 1) := by decide +kernel
theorem dX6_combine_57 : decode cX6_combine 57 = .ok (.istore_n 3, 1) := by decide +kernel
theorem dX6_combine_58 : decode cX6_combine 58 = .ok (.iinc 4 1, 3) := by decide +kernel
theorem dX6_combine_61 : decode cX6_combine 61 = .ok (.goto (-56), 3) := by decide +kernel
theorem dX6_combine_64 : decode cX6_combine 64 = .ok (.iload_n 3, 1) := by decide +kernel
theorem dX6_combine_65 : decode cX6_combine 65 = .ok (.ireturn, 1) := by decide +kernel
theorem dX6_refresh_0 : decode cX6_refresh 0 = .ok (.aload_n 0, 1) := by decide +kernel
theorem dX6_refresh_1 : decode cX6_refresh 1 = .ok (.getfield 25, 3) := by decide +kernel
theorem dX6_refresh_4 : decode cX6_refresh 4 = .ok (.aload_n 0, 1) := by decide +kernel
theorem dX6_refresh_5 : decode cX6_refresh 5 = .ok (.getfield 29, 3) := by decide +kernel
theorem dX6_refresh_8 : decode cX6_refresh 8 = .ok (.getfield 48, 3) := by decide +kernel
theorem dX6_refresh_11 : decode cX6_refresh 11 = .ok (.if_icmp .ne 4, 3) := by decide +kernel
theorem dX6_refresh_14 : decode cX6_refresh 14 = .ok (.return_, 1) := by decide +kernel
theorem dX6_refresh_15 : decode cX6_refresh 15 = .ok (.aload_n 0, 1) := by decide +kernel
theorem dX6_refresh_16 : decode cX6_refresh 16 = .ok (.aload_n 0, 1) := by decide +kernel
theorem dX6_refresh_17 : decode cX6_refresh 17 = .ok (.getfield 29, 3) := by decide +kernel
theorem dX6_refresh_20 : decode cX6_refresh 20 = .ok (.getfield 48, 3) := by decide +kernel
theorem dX6_refresh_23 : decode cX6_refresh 23 = .ok (.putfield 25, 3) := by decide +kernel
theorem dX6_refresh_26 : decode cX6_refresh 26 = .ok (.aload_n 0, 1) := by decide +kernel
theorem dX6_refresh_27 : decode cX6_refresh 27 = .ok (.iconst 0, 1) := by decide +kernel
theorem dX6_refresh_28 : decode cX6_refresh 28 = .ok (.putfield 53, 3) := by decide +kernel
theorem dX6_refresh_31 : decode cX6_refresh 31 = .ok (.iconst 0, 1) := by decide +kernel
theorem dX6_refresh_32 : decode cX6_refresh 32 = .ok (.istore_n 1, 1) := by decide +kernel
theorem dX6_refresh_33 : decode cX6_refresh 33 = .ok (.iload_n 1, 1) := by decide +kernel
theorem dX6_refresh_34 : decode cX6_refresh 34 = .ok (.iconst 4, 1) := by decide +kernel
theorem dX6_refresh_35 : decode cX6_refresh 35 = .ok (.if_icmp .ge 33, 3) := by decide +kernel
theorem dX6_refresh_38 : decode cX6_refresh 38 = .ok (.aload_n 0, 1) := by decide +kernel
theorem dX6_refresh_39 : decode cX6_refresh 39 = .ok (.dup, 1) := by decide +kernel
theorem dX6_refresh_40 : decode cX6_refresh 40 = .ok (.getfield 53, 3) := by decide +kernel
theorem dX6_refresh_43 : decode cX6_refresh 43 = .ok (.aload_n 0, 1) := by decide +kernel
theorem dX6_refresh_44 : decode cX6_refresh 44 = .ok (.getfield 29, 3) := by decide +kernel
theorem dX6_refresh_47 : decode cX6_refresh 47 = .ok (.getfield 56, 3) := by decide +kernel
theorem dX6_refresh_50 : decode cX6_refresh 50 = .ok (.iload_n 1, 1) := by decide +kernel
theorem dX6_refresh_51 : decode cX6_refresh 51 = .ok (.iaload, 1) := by decide +kernel
theorem dX6_refresh_52 : decode cX6_refresh 52 = .ok (.getstatic 45, 3) := by decide +kernel
theorem dX6_refresh_55 : decode cX6_refresh 55 = .ok (.iload_n 1, 1) := by decide +kernel
theorem dX6_refresh_56 : decode cX6_refresh 56 = .ok (.iaload, 1) := by decide +kernel
theorem dX6_refresh_57 : decode cX6_refresh 57 = .ok (.imul, 1) := by decide +kernel
theorem dX6_refresh_58 : decode cX6_refresh 58 = .ok (.iadd, 1) := by decide +kernel
theorem dX6_refresh_59 : decode cX6_refresh 59 = .ok (.putfield 53, 3) := by decide +kernel
theorem dX6_refresh_62 : decode cX6_refresh 62 = .ok (.iinc 1 1, 3) := by decide +kernel
theorem dX6_refresh_65 : decode cX6_refresh 65 = .ok (.goto (-32), 3) := by decide +kernel
theorem dX6_refresh_68 : decode cX6_refresh 68 = .ok (.iconst 0, 1) := by decide +kernel
theorem dX6_refresh_69 : decode cX6_refresh 69 = .ok (.istore_n 1, 1) := by decide +kernel
theorem dX6_refresh_70 : decode cX6_refresh 70 = .ok (.iload_n 1, 1) := by decide +kernel
theorem dX6_refresh_71 : decode cX6_refresh 71 = .ok (.sipush 2401, 3) := by decide +kernel
theorem dX6_refresh_74 : decode cX6_refresh 74 = .ok (.if_icmp .ge 39, 3) := by decide +kernel
theorem dX6_refresh_77 : decode cX6_refresh 77 = .ok (.aload_n 0, 1) := by decide +kernel
theorem dX6_refresh_78 : decode cX6_refresh 78 = .ok (.getfield 15, 3) := by decide +kernel
theorem dX6_refresh_81 : decode cX6_refresh 81 = .ok (.iload_n 1, 1) := by decide +kernel
theorem dX6_refresh_82 : decode cX6_refresh 82 = .ok (.aload_n 0, 1) := by decide +kernel
theorem dX6_refresh_83 : decode cX6_refresh 83 = .ok (.getfield 29, 3) := by decide +kernel
theorem dX6_refresh_86 : decode cX6_refresh 86 = .ok (.iload_n 1, 1) := by decide +kernel
theorem dX6_refresh_87 : decode cX6_refresh 87 = .ok (.invokevirtual 59, 3) := by decide +kernel
theorem dX6_refresh_90 : decode cX6_refresh 90 = .ok (.ifCond .eq 15, 3) := by decide +kernel
theorem dX6_refresh_93 : decode cX6_refresh 93 = .ok (.aload_n 0, 1) := by decide +kernel
theorem dX6_refresh_94 : decode cX6_refresh 94 = .ok (.iload_n 1, 1) := by decide +kernel
theorem dX6_refresh_95 : decode cX6_refresh 95 = .ok (.invokevirtual 63, 3) := by decide +kernel
theorem dX6_refresh_98 : decode cX6_refresh 98 = .ok (.ifCond .eq 7, 3) := by decide +kernel
theorem dX6_refresh_101 : decode cX6_refresh 101 = .ok (.iconst 1, 1) := by decide +kernel
theorem dX6_refresh_102 : decode cX6_refresh 102 = .ok (.goto 4, 3) := by decide +kernel
theorem dX6_refresh_105 : decode cX6_refresh 105 = .ok (.iconst 0, 1) := by decide +kernel
theorem dX6_refresh_106 : decode cX6_refresh 106 = .ok (.bastore, 1) := by decide +kernel
theorem dX6_refresh_107 : decode cX6_refresh 107 = .ok (.iinc 1 1, 3) := by decide +kernel
theorem dX6_refresh_110 : decode cX6_refresh 110 = .ok (.goto (-40), 3) := by decide +kernel
theorem dX6_refresh_113 : decode cX6_refresh 113 = .ok (.aload_n 0, 1) := by decide +kernel
theorem dX6_refresh_114 : decode cX6_refresh 114 = .ok (.invokevirtual 66, 3) := by decide +kernel
theorem dX6_refresh_117 : decode cX6_refresh 117 = .ok (.return_, 1) := by decide +kernel
theorem dX6_isClosed_0 : decode cX6_isClosed 0 = .ok (.iload_n 1, 1) := by decide +kernel
theorem dX6_isClosed_1 : decode cX6_isClosed 1 = .ok (.istore_n 2, 1) := by decide +kernel
theorem dX6_isClosed_2 : decode cX6_isClosed 2 = .ok (.iconst 0, 1) := by decide +kernel
theorem dX6_isClosed_3 : decode cX6_isClosed 3 = .ok (.istore_n 3, 1) := by decide +kernel
theorem dX6_isClosed_4 : decode cX6_isClosed 4 = .ok (.iload_n 3, 1) := by decide +kernel
theorem dX6_isClosed_5 : decode cX6_isClosed 5 = .ok (.iconst 4, 1) := by decide +kernel
theorem dX6_isClosed_6 : decode cX6_isClosed 6 = .ok (.if_icmp .ge 24, 3) := by decide +kernel
theorem dX6_isClosed_9 : decode cX6_isClosed 9 = .ok (.aload_n 0, 1) := by decide +kernel
theorem dX6_isClosed_10 : decode cX6_isClosed 10 = .ok (.getfield 22, 3) := by decide +kernel
theorem dX6_isClosed_13 : decode cX6_isClosed 13 = .ok (.iload_n 3, 1) := by decide +kernel
theorem dX6_isClosed_14 : decode cX6_isClosed 14 = .ok (.iload_n 2, 1) := by decide +kernel
theorem dX6_isClosed_15 : decode cX6_isClosed 15 = .ok (.bipush 7, 2) := by decide +kernel
theorem dX6_isClosed_17 : decode cX6_isClosed 17 = .ok (.irem, 1) := by decide +kernel
theorem dX6_isClosed_18 : decode cX6_isClosed 18 = .ok (.iastore, 1) := by decide +kernel
theorem dX6_isClosed_19 : decode cX6_isClosed 19 = .ok (.iload_n 2, 1) := by decide +kernel
theorem dX6_isClosed_20 : decode cX6_isClosed 20 = .ok (.bipush 7, 2) := by decide +kernel
theorem dX6_isClosed_22 : decode cX6_isClosed 22 = .ok (.idiv, 1) := by decide +kernel
theorem dX6_isClosed_23 : decode cX6_isClosed 23 = .ok (.istore_n 2, 1) := by decide +kernel
theorem dX6_isClosed_24 : decode cX6_isClosed 24 = .ok (.iinc 3 1, 3) := by decide +kernel
theorem dX6_isClosed_27 : decode cX6_isClosed 27 = .ok (.goto (-23), 3) := by decide +kernel
theorem dX6_isClosed_30 : decode cX6_isClosed 30 = .ok (.iconst 0, 1) := by decide +kernel
theorem dX6_isClosed_31 : decode cX6_isClosed 31 = .ok (.istore_n 3, 1) := by decide +kernel
theorem dX6_isClosed_32 : decode cX6_isClosed 32 = .ok (.iload_n 3, 1) := by decide +kernel
theorem dX6_isClosed_33 : decode cX6_isClosed 33 = .ok (.iconst 4, 1) := by decide +kernel
theorem dX6_isClosed_34 : decode cX6_isClosed 34 = .ok (.if_icmp .ge 63, 3) := by decide +kernel
theorem dX6_isClosed_37 : decode cX6_isClosed 37 = .ok (.iconst 0, 1) := by decide +kernel
theorem dX6_isClosed_38 : decode cX6_isClosed 38 = .ok (.istore 4, 2) := by decide +kernel
theorem dX6_isClosed_40 : decode cX6_isClosed 40 = .ok (.iload 4, 2) := by decide +kernel
theorem dX6_isClosed_42 : decode cX6_isClosed 42 = .ok (.iconst 4, 1) := by decide +kernel
theorem dX6_isClosed_43 : decode cX6_isClosed 43 = .ok (.if_icmp .ge 48, 3) := by decide +kernel
theorem dX6_isClosed_46 : decode cX6_isClosed 46 = .ok (.aload_n 0, 1) := by decide +kernel
theorem dX6_isClosed_47 : decode cX6_isClosed 47 = .ok (.getfield 22, 3) := by decide +kernel
theorem dX6_isClosed_50 : decode cX6_isClosed 50 = .ok (.iload_n 3, 1) := by decide +kernel
theorem dX6_isClosed_51 : decode cX6_isClosed 51 = .ok (.iaload, 1) := by decide +kernel
theorem dX6_isClosed_52 : decode cX6_isClosed 52 = .ok (.ifCond .le 33, 3) := by decide +kernel
theorem dX6_isClosed_55 : decode cX6_isClosed 55 = .ok (.aload_n 0, 1) := by decide +kernel
theorem dX6_isClosed_56 : decode cX6_isClosed 56 = .ok (.getfield 29, 3) := by decide +kernel
theorem dX6_isClosed_59 : decode cX6_isClosed 59 = .ok (.iload_n 3, 1) := by decide +kernel
theorem dX6_isClosed_60 : decode cX6_isClosed 60 = .ok (.aload_n 0, 1) := by decide +kernel
theorem dX6_isClosed_61 : decode cX6_isClosed 61 = .ok (.getfield 22, 3) := by decide +kernel
theorem dX6_isClosed_64 : decode cX6_isClosed 64 = .ok (.iload_n 3, 1) := by decide +kernel
theorem dX6_isClosed_65 : decode cX6_isClosed 65 = .ok (.iaload, 1) := by decide +kernel
theorem dX6_isClosed_66 : decode cX6_isClosed 66 = .ok (.iconst 1, 1) := by decide +kernel
theorem dX6_isClosed_67 : decode cX6_isClosed 67 = .ok (.isub, 1) := by decide +kernel
theorem dX6_isClosed_68 : decode cX6_isClosed 68 = .ok (.iload 4, 2) := by decide +kernel
theorem dX6_isClosed_70 : decode cX6_isClosed 70 = .ok (.invokevirtual 69, 3) := by decide +kernel
theorem dX6_isClosed_73 : decode cX6_isClosed 73 = .ok (.aload_n 0, 1) := by decide +kernel
theorem dX6_isClosed_74 : decode cX6_isClosed 74 = .ok (.getfield 22, 3) := by decide +kernel
theorem dX6_isClosed_77 : decode cX6_isClosed 77 = .ok (.iload 4, 2) := by decide +kernel
theorem dX6_isClosed_79 : decode cX6_isClosed 79 = .ok (.iaload, 1) := by decide +kernel
theorem dX6_isClosed_80 : decode cX6_isClosed 80 = .ok (.if_icmp .le 5, 3) := by decide +kernel
theorem dX6_isClosed_83 : decode cX6_isClosed 83 = .ok (.iconst 0, 1) := by decide +kernel
theorem dX6_isClosed_84 : decode cX6_isClosed 84 = .ok (.ireturn, 1) := by decide +kernel
theorem dX6_isClosed_85 : decode cX6_isClosed 85 = .ok (.iinc 4 1, 3) := by decide +kernel
theorem dX6_isClosed_88 : decode cX6_isClosed 88 = .ok (.goto (-48), 3) := by decide +kernel
theorem dX6_isClosed_91 : decode cX6_isClosed 91 = .ok (.iinc 3 1, 3) := by decide +kernel
theorem dX6_isClosed_94 : decode cX6_isClosed 94 = .ok (.goto (-62), 3) := by decide +kernel
theorem dX6_isClosed_97 : decode cX6_isClosed 97 = .ok (.iconst 1, 1) := by decide +kernel
theorem dX6_isClosed_98 : decode cX6_isClosed 98 = .ok (.ireturn, 1) := by decide +kernel
theorem dX6_sortBySize_0 : decode cX6_sortBySize 0 = .ok (.aload_n 0, 1) := by decide +kernel
theorem dX6_sortBySize_1 : decode cX6_sortBySize 1 = .ok (.getfield 19, 3) := by decide +kernel
theorem dX6_sortBySize_4 : decode cX6_sortBySize 4 = .ok (.iconst 0, 1) := by decide +kernel
theorem dX6_sortBySize_5 : decode cX6_sortBySize 5 = .ok (.invokestatic 73, 3) := by decide +kernel
theorem dX6_sortBySize_8 : decode cX6_sortBySize 8 = .ok (.iconst 0, 1) := by decide +kernel
theorem dX6_sortBySize_9 : decode cX6_sortBySize 9 = .ok (.istore_n 1, 1) := by decide +kernel
theorem dX6_sortBySize_10 : decode cX6_sortBySize 10 = .ok (.iload_n 1, 1) := by decide +kernel
theorem dX6_sortBySize_11 : decode cX6_sortBySize 11 = .ok (.aload_n 0, 1) := by decide +kernel
theorem dX6_sortBySize_12 : decode cX6_sortBySize 12 = .ok (.getfield 53, 3) := by decide +kernel
theorem dX6_sortBySize_15 : decode cX6_sortBySize 15 = .ok (.if_icmp .gt 31, 3) := by decide +kernel
theorem dX6_sortBySize_18 : decode cX6_sortBySize 18 = .ok (.aload_n 0, 1) := by decide +kernel
theorem dX6_sortBySize_19 : decode cX6_sortBySize 19 = .ok (.getfield 15, 3) := by decide +kernel
theorem dX6_sortBySize_22 : decode cX6_sortBySize 22 = .ok (.iload_n 1, 1) := by decide +kernel
theorem dX6_sortBySize_23 : decode cX6_sortBySize 23 = .ok (.baload, 1) := by decide +kernel
theorem dX6_sortBySize_24 : decode cX6_sortBySize 24 = .ok (.ifCond .eq 16, 3) := by decide +kernel
theorem dX6_sortBySize_27 : decode cX6_sortBySize 27 = .ok (.aload_n 0, 1) := by decide +kernel
theorem dX6_sortBySize_28 : decode cX6_sortBySize 28 = .ok (.getfield 19, 3) := by decide +kernel
theorem dX6_sortBySize_31 : decode cX6_sortBySize 31 = .ok (.iload_n 1, 1) := by decide +kernel
theorem dX6_sortBySize_32 : decode cX6_sortBySize 32 = .ok (.invokestatic 79, 3) := by decide +kernel
theorem dX6_sortBySize_35 : decode cX6_sortBySize 35 = .ok (.dup2, 1) := by decide +kernel
theorem dX6_sortBySize_36 : decode cX6_sortBySize 36 = .ok (.iaload, 1) := by decide +kernel
theorem dX6_sortBySize_37 : decode cX6_sortBySize 37 = .ok (.iconst 1, 1) := by decide +kernel
theorem dX6_sortBySize_38 : decode cX6_sortBySize 38 = .ok (.iadd, 1) := by decide +kernel
theorem dX6_sortBySize_39 : decode cX6_sortBySize 39 = .ok (.iastore, 1) := by decide +kernel
theorem dX6_sortBySize_40 : decode cX6_sortBySize 40 = .ok (.iinc 1 1, 3) := by decide +kernel
theorem dX6_sortBySize_43 : decode cX6_sortBySize 43 = .ok (.goto (-33), 3) := by decide +kernel
theorem dX6_sortBySize_46 : decode cX6_sortBySize 46 = .ok (.aload_n 0, 1) := by decide +kernel
theorem dX6_sortBySize_47 : decode cX6_sortBySize 47 = .ok (.iconst 0, 1) := by decide +kernel
theorem dX6_sortBySize_48 : decode cX6_sortBySize 48 = .ok (.putfield 83, 3) := by decide +kernel
theorem dX6_sortBySize_51 : decode cX6_sortBySize 51 = .ok (.iconst 0, 1) := by decide +kernel
theorem dX6_sortBySize_52 : decode cX6_sortBySize 52 = .ok (.istore_n 1, 1) := by decide +kernel
theorem dX6_sortBySize_53 : decode cX6_sortBySize 53 = .ok (.iload_n 1, 1) := by decide +kernel
theorem dX6_sortBySize_54 : decode cX6_sortBySize 54 = .ok (.bipush 24, 2) := by decide +kernel
theorem dX6_sortBySize_56 : decode cX6_sortBySize 56 = .ok (.if_icmp .gt 36, 3) := by decide +kernel
theorem dX6_sortBySize_59 : decode cX6_sortBySize 59 = .ok (.aload_n 0, 1) := by decide +kernel
theorem dX6_sortBySize_60 : decode cX6_sortBySize 60 = .ok (.getfield 19, 3) := by decide +kernel
theorem dX6_sortBySize_63 : decode cX6_sortBySize 63 = .ok (.iload_n 1, 1) := by decide +kernel
theorem dX6_sortBySize_64 : decode cX6_sortBySize 64 = .ok (.iaload, 1) := by decide +kernel
theorem dX6_sortBySize_65 : decode cX6_sortBySize 65 = .ok (.istore_n 2, 1) := by decide +kernel
theorem dX6_sortBySize_66 : decode cX6_sortBySize 66 = .ok (.aload_n 0, 1) := by decide +kernel
theorem dX6_sortBySize_67 : decode cX6_sortBySize 67 = .ok (.getfield 19, 3) := by decide +kernel
theorem dX6_sortBySize_70 : decode cX6_sortBySize 70 = .ok (.iload_n 1, 1) := by decide +kernel
theorem dX6_sortBySize_71 : decode cX6_sortBySize 71 = .ok (.aload_n 0, 1) := by decide +kernel
theorem dX6_sortBySize_72 : decode cX6_sortBySize 72 = .ok (.getfield 83, 3) := by decide +kernel
theorem dX6_sortBySize_75 : decode cX6_sortBySize 75 = .ok (.iastore, 1) := by decide +kernel
theorem dX6_sortBySize_76 : decode cX6_sortBySize 76 = .ok (.aload_n 0, 1) := by decide +kernel
theorem dX6_sortBySize_77 : decode cX6_sortBySize 77 = .ok (.dup, 1) := by decide +kernel
theorem dX6_sortBySize_78 : decode cX6_sortBySize 78 = .ok (.getfield 83, 3) := by decide +kernel
theorem dX6_sortBySize_81 : decode cX6_sortBySize 81 = .ok (.iload_n 2, 1) := by decide +kernel
theorem dX6_sortBySize_82 : decode cX6_sortBySize 82 = .ok (.iadd, 1) := by decide +kernel
theorem dX6_sortBySize_83 : decode cX6_sortBySize 83 = .ok (.putfield 83, 3) := by decide +kernel
theorem dX6_sortBySize_86 : decode cX6_sortBySize 86 = .ok (.iinc 1 1, 3) := by decide +kernel
theorem dX6_sortBySize_89 : decode cX6_sortBySize 89 = .ok (.goto (-36), 3) := by decide +kernel
theorem dX6_sortBySize_92 : decode cX6_sortBySize 92 = .ok (.iconst 0, 1) := by decide +kernel
theorem dX6_sortBySize_93 : decode cX6_sortBySize 93 = .ok (.istore_n 1, 1) := by decide +kernel
theorem dX6_sortBySize_94 : decode cX6_sortBySize 94 = .ok (.iload_n 1, 1) := by decide +kernel
theorem dX6_sortBySize_95 : decode cX6_sortBySize 95 = .ok (.aload_n 0, 1) := by decide +kernel
theorem dX6_sortBySize_96 : decode cX6_sortBySize 96 = .ok (.getfield 53, 3) := by decide +kernel
theorem dX6_sortBySize_99 : decode cX6_sortBySize 99 = .ok (.if_icmp .gt 45, 3) := by decide +kernel
theorem dX6_sortBySize_102 : decode cX6_sortBySize 102 = .ok (.aload_n 0, 1) := by decide +kernel
theorem dX6_sortBySize_103 : decode cX6_sortBySize 103 = .ok (.getfield 15, 3) := by decide +kernel
theorem dX6_sortBySize_106 : decode cX6_sortBySize 106 = .ok (.iload_n 1, 1) := by decide +kernel
theorem dX6_sortBySize_107 : decode cX6_sortBySize 107 = .ok (.baload, 1) := by decide +kernel
theorem dX6_sortBySize_108 : decode cX6_sortBySize 108 = .ok (.ifCond .eq 30, 3) := by decide +kernel
theorem dX6_sortBySize_111 : decode cX6_sortBySize 111 = .ok (.iload_n 1, 1) := by decide +kernel
theorem dX6_sortBySize_112 : decode cX6_sortBySize 112 = .ok (.invokestatic 79, 3) := by decide +kernel
theorem dX6_sortBySize_115 : decode cX6_sortBySize 115 = .ok (.istore_n 2, 1) := by decide +kernel
theorem dX6_sortBySize_116 : decode cX6_sortBySize 116 = .ok (.aload_n 0, 1) := by decide +kernel
theorem dX6_sortBySize_117 : decode cX6_sortBySize 117 = .ok (.getfield 9, 3) := by decide +kernel
theorem dX6_sortBySize_120 : decode cX6_sortBySize 120 = .ok (.aload_n 0, 1) := by decide +kernel
theorem dX6_sortBySize_121 : decode cX6_sortBySize 121 = .ok (.getfield 19, 3) := by decide +kernel
theorem dX6_sortBySize_124 : decode cX6_sortBySize 124 = .ok (.iload_n 2, 1) := by decide +kernel
theorem dX6_sortBySize_125 : decode cX6_sortBySize 125 = .ok (.iaload, 1) := by decide +kernel
theorem dX6_sortBySize_126 : decode cX6_sortBySize 126 = .ok (.iload_n 1, 1) := by decide +kernel
theorem dX6_sortBySize_127 : decode cX6_sortBySize 127 = .ok (.iastore, 1) := by decide +kernel
theorem dX6_sortBySize_128 : decode cX6_sortBySize 128 = .ok (.aload_n 0, 1) := by decide +kernel
theorem dX6_sortBySize_129 : decode cX6_sortBySize 129 = .ok (.getfield 19, 3) := by decide +kernel
theorem dX6_sortBySize_132 : decode cX6_sortBySize 132 = .ok (.iload_n 2, 1) := by decide +kernel
theorem dX6_sortBySize_133 : decode cX6_sortBySize 133 = .ok (.dup2, 1) := by decide +kernel
theorem dX6_sortBySize_134 : decode cX6_sortBySize 134 = .ok (.iaload, 1) := by decide +kernel
theorem dX6_sortBySize_135 : decode cX6_sortBySize 135 = .ok (.iconst 1, 1) := by decide +kernel
theorem dX6_sortBySize_136 : decode cX6_sortBySize 136 = .ok (.iadd, 1) := by decide +kernel
theorem dX6_sortBySize_137 : decode cX6_sortBySize 137 = .ok (.iastore, 1) := by decide +kernel
theorem dX6_sortBySize_138 : decode cX6_sortBySize 138 = .ok (.iinc 1 1, 3) := by decide +kernel
theorem dX6_sortBySize_141 : decode cX6_sortBySize 141 = .ok (.goto (-47), 3) := by decide +kernel
theorem dX6_sortBySize_144 : decode cX6_sortBySize 144 = .ok (.return_, 1) := by decide +kernel
theorem dX6_howManyOf_0 : decode cX6_howManyOf 0 = .ok (.iload_n 1, 1) := by decide +kernel
theorem dX6_howManyOf_1 : decode cX6_howManyOf 1 = .ok (.ifCond .lt 9, 3) := by decide +kernel
theorem dX6_howManyOf_4 : decode cX6_howManyOf 4 = .ok (.iload_n 1, 1) := by decide +kernel
theorem dX6_howManyOf_5 : decode cX6_howManyOf 5 = .ok (.bipush 24, 2) := by decide +kernel
theorem dX6_howManyOf_7 : decode cX6_howManyOf 7 = .ok (.if_icmp .le 5, 3) := by decide +kernel
theorem dX6_howManyOf_10 : decode cX6_howManyOf 10 = .ok (.iconst 0, 1) := by decide +kernel
theorem dX6_howManyOf_11 : decode cX6_howManyOf 11 = .ok (.ireturn, 1) := by decide +kernel
theorem dX6_howManyOf_12 : decode cX6_howManyOf 12 = .ok (.iload_n 1, 1) := by decide +kernel
theorem dX6_howManyOf_13 : decode cX6_howManyOf 13 = .ok (.ifCond .ne 12, 3) := by decide +kernel
theorem dX6_howManyOf_16 : decode cX6_howManyOf 16 = .ok (.aload_n 0, 1) := by decide +kernel
theorem dX6_howManyOf_17 : decode cX6_howManyOf 17 = .ok (.getfield 19, 3) := by decide +kernel
theorem dX6_howManyOf_20 : decode cX6_howManyOf 20 = .ok (.iconst 0, 1) := by decide +kernel
theorem dX6_howManyOf_21 : decode cX6_howManyOf 21 = .ok (.iaload, 1) := by decide +kernel
theorem dX6_howManyOf_22 : decode cX6_howManyOf 22 = .ok (.goto 18, 3) := by decide +kernel
theorem dX6_howManyOf_25 : decode cX6_howManyOf 25 = .ok (.aload_n 0, 1) := by decide +kernel
theorem dX6_howManyOf_26 : decode cX6_howManyOf 26 = .ok (.getfield 19, 3) := by decide +kernel
theorem dX6_howManyOf_29 : decode cX6_howManyOf 29 = .ok (.iload_n 1, 1) := by decide +kernel
theorem dX6_howManyOf_30 : decode cX6_howManyOf 30 = .ok (.iaload, 1) := by decide +kernel
theorem dX6_howManyOf_31 : decode cX6_howManyOf 31 = .ok (.aload_n 0, 1) := by decide +kernel
theorem dX6_howManyOf_32 : decode cX6_howManyOf 32 = .ok (.getfield 19, 3) := by decide +kernel
theorem dX6_howManyOf_35 : decode cX6_howManyOf 35 = .ok (.iload_n 1, 1) := by decide +kernel
theorem dX6_howManyOf_36 : decode cX6_howManyOf 36 = .ok (.iconst 1, 1) := by decide +kernel
theorem dX6_howManyOf_37 : decode cX6_howManyOf 37 = .ok (.isub, 1) := by decide +kernel
theorem dX6_howManyOf_38 : decode cX6_howManyOf 38 = .ok (.iaload, 1) := by decide +kernel
theorem dX6_howManyOf_39 : decode cX6_howManyOf 39 = .ok (.isub, 1) := by decide +kernel
theorem dX6_howManyOf_40 : decode cX6_howManyOf 40 = .ok (.ireturn, 1) := by decide +kernel
theorem dX6_firstBehind_0 : decode cX6_firstBehind 0 = .ok (.iload_n 1, 1) := by decide +kernel
theorem dX6_firstBehind_1 : decode cX6_firstBehind 1 = .ok (.invokestatic 79, 3) := by decide +kernel
theorem dX6_firstBehind_4 : decode cX6_firstBehind 4 = .ok (.istore_n 2, 1) := by decide +kernel
theorem dX6_firstBehind_5 : decode cX6_firstBehind 5 = .ok (.iload_n 2, 1) := by decide +kernel
theorem dX6_firstBehind_6 : decode cX6_firstBehind 6 = .ok (.ifCond .ne 7, 3) := by decide +kernel
theorem dX6_firstBehind_9 : decode cX6_firstBehind 9 = .ok (.iconst 0, 1) := by decide +kernel
theorem dX6_firstBehind_10 : decode cX6_firstBehind 10 = .ok (.goto 11, 3) := by decide +kernel
theorem dX6_firstBehind_13 : decode cX6_firstBehind 13 = .ok (.aload_n 0, 1) := by decide +kernel
theorem dX6_firstBehind_14 : decode cX6_firstBehind 14 = .ok (.getfield 19, 3) := by decide +kernel
theorem dX6_firstBehind_17 : decode cX6_firstBehind 17 = .ok (.iload_n 2, 1) := by decide +kernel
theorem dX6_firstBehind_18 : decode cX6_firstBehind 18 = .ok (.iconst 1, 1) := by decide +kernel
theorem dX6_firstBehind_19 : decode cX6_firstBehind 19 = .ok (.isub, 1) := by decide +kernel
theorem dX6_firstBehind_20 : decode cX6_firstBehind 20 = .ok (.iaload, 1) := by decide +kernel
theorem dX6_firstBehind_21 : decode cX6_firstBehind 21 = .ok (.istore_n 3, 1) := by decide +kernel
theorem dX6_firstBehind_22 : decode cX6_firstBehind 22 = .ok (.iload_n 3, 1) := by decide +kernel
theorem dX6_firstBehind_23 : decode cX6_firstBehind 23 = .ok (.aload_n 0, 1) := by decide +kernel
theorem dX6_firstBehind_24 : decode cX6_firstBehind 24 = .ok (.getfield 83, 3) := by decide +kernel
theorem dX6_firstBehind_27 : decode cX6_firstBehind 27 = .ok (.if_icmp .ge 36, 3) := by decide +kernel
theorem dX6_firstBehind_30 : decode cX6_firstBehind 30 = .ok (.aload_n 0, 1) := by decide +kernel
theorem dX6_firstBehind_31 : decode cX6_firstBehind 31 = .ok (.getfield 9, 3) := by decide +kernel
theorem dX6_firstBehind_34 : decode cX6_firstBehind 34 = .ok (.iload_n 3, 1) := by decide +kernel
theorem dX6_firstBehind_35 : decode cX6_firstBehind 35 = .ok (.iaload, 1) := by decide +kernel
theorem dX6_firstBehind_36 : decode cX6_firstBehind 36 = .ok (.iload_n 1, 1) := by decide +kernel
theorem dX6_firstBehind_37 : decode cX6_firstBehind 37 = .ok (.if_icmp .gt 13, 3) := by decide +kernel
theorem dX6_firstBehind_40 : decode cX6_firstBehind 40 = .ok (.iload_n 3, 1) := by decide +kernel
theorem dX6_firstBehind_41 : decode cX6_firstBehind 41 = .ok (.aload_n 0, 1) := by decide +kernel
theorem dX6_firstBehind_42 : decode cX6_firstBehind 42 = .ok (.getfield 19, 3) := by decide +kernel
theorem dX6_firstBehind_45 : decode cX6_firstBehind 45 = .ok (.iload_n 2, 1) := by decide +kernel
theorem dX6_firstBehind_46 : decode cX6_firstBehind 46 = .ok (.iaload, 1) := by decide +kernel
theorem dX6_firstBehind_47 : decode cX6_firstBehind 47 = .ok (.if_icmp .lt 10, 3) := by decide +kernel
theorem dX6_firstBehind_50 : decode cX6_firstBehind 50 = .ok (.aload_n 0, 1) := by decide +kernel
theorem dX6_firstBehind_51 : decode cX6_firstBehind 51 = .ok (.getfield 9, 3) := by decide +kernel
theorem dX6_firstBehind_54 : decode cX6_firstBehind 54 = .ok (.iload_n 3, 1) := by decide +kernel
theorem dX6_firstBehind_55 : decode cX6_firstBehind 55 = .ok (.iaload, 1) := by decide +kernel
theorem dX6_firstBehind_56 : decode cX6_firstBehind 56 = .ok (.ireturn, 1) := by decide +kernel
theorem dX6_firstBehind_57 : decode cX6_firstBehind 57 = .ok (.iinc 3 1, 3) := by decide +kernel
theorem dX6_firstBehind_60 : decode cX6_firstBehind 60 = .ok (.goto (-38), 3) := by decide +kernel
theorem dX6_firstBehind_63 : decode cX6_firstBehind 63 = .ok (.iconst (-1), 1) := by decide +kernel
theorem dX6_firstBehind_64 : decode cX6_firstBehind 64 = .ok (.ireturn, 1) := by decide +kernel
theorem dX6_up_0 : decode cX6_up 0 = .ok (.iload_n 1, 1) := by decide +kernel
theorem dX6_up_1 : decode cX6_up 1 = .ok (.iload_n 2, 1) := by decide +kernel
theorem dX6_up_2 : decode cX6_up 2 = .ok (.invokestatic 33, 3) := by decide +kernel
theorem dX6_up_5 : decode cX6_up 5 = .ok (.aload_n 0, 1) := by decide +kernel
theorem dX6_up_6 : decode cX6_up 6 = .ok (.getfield 29, 3) := by decide +kernel
theorem dX6_up_9 : decode cX6_up 9 = .ok (.getfield 56, 3) := by decide +kernel
theorem dX6_up_12 : decode cX6_up 12 = .ok (.iload_n 2, 1) := by decide +kernel
theorem dX6_up_13 : decode cX6_up 13 = .ok (.iaload, 1) := by decide +kernel
theorem dX6_up_14 : decode cX6_up 14 = .ok (.if_icmp .lt 5, 3) := by decide +kernel
theorem dX6_up_17 : decode cX6_up 17 = .ok (.iconst (-1), 1) := by decide +kernel
theorem dX6_up_18 : decode cX6_up 18 = .ok (.ireturn, 1) := by decide +kernel
theorem dX6_up_19 : decode cX6_up 19 = .ok (.iload_n 1, 1) := by decide +kernel
theorem dX6_up_20 : decode cX6_up 20 = .ok (.getstatic 45, 3) := by decide +kernel
theorem dX6_up_23 : decode cX6_up 23 = .ok (.iload_n 2, 1) := by decide +kernel
theorem dX6_up_24 : decode cX6_up 24 = .ok (.iaload, 1) := by decide +kernel
theorem dX6_up_25 : decode cX6_up 25 = .ok (.iadd, 1) := by decide +kernel
theorem dX6_up_26 : decode cX6_up 26 = .ok (.istore_n 3, 1) := by decide +kernel
theorem dX6_up_27 : decode cX6_up 27 = .ok (.aload_n 0, 1) := by decide +kernel
theorem dX6_up_28 : decode cX6_up 28 = .ok (.getfield 15, 3) := by decide +kernel
theorem dX6_up_31 : decode cX6_up 31 = .ok (.iload_n 3, 1) := by decide +kernel
theorem dX6_up_32 : decode cX6_up 32 = .ok (.baload, 1) := by decide +kernel
theorem dX6_up_33 : decode cX6_up 33 = .ok (.ifCond .eq 7, 3) := by decide +kernel
theorem dX6_up_36 : decode cX6_up 36 = .ok (.iload_n 3, 1) := by decide +kernel
theorem dX6_up_37 : decode cX6_up 37 = .ok (.goto 4, 3) := by decide +kernel
theorem dX6_up_40 : decode cX6_up 40 = .ok (.iconst (-1), 1) := by decide +kernel
theorem dX6_up_41 : decode cX6_up 41 = .ok (.ireturn, 1) := by decide +kernel
theorem dX6_down_0 : decode cX6_down 0 = .ok (.iload_n 1, 1) := by decide +kernel
theorem dX6_down_1 : decode cX6_down 1 = .ok (.iload_n 2, 1) := by decide +kernel
theorem dX6_down_2 : decode cX6_down 2 = .ok (.invokestatic 33, 3) := by decide +kernel
theorem dX6_down_5 : decode cX6_down 5 = .ok (.ifCond .ne 5, 3) := by decide +kernel
theorem dX6_down_8 : decode cX6_down 8 = .ok (.iconst (-1), 1) := by decide +kernel
theorem dX6_down_9 : decode cX6_down 9 = .ok (.ireturn, 1) := by decide +kernel
theorem dX6_down_10 : decode cX6_down 10 = .ok (.iload_n 1, 1) := by decide +kernel
theorem dX6_down_11 : decode cX6_down 11 = .ok (.getstatic 45, 3) := by decide +kernel
theorem dX6_down_14 : decode cX6_down 14 = .ok (.iload_n 2, 1) := by decide +kernel
theorem dX6_down_15 : decode cX6_down 15 = .ok (.iaload, 1) := by decide +kernel
theorem dX6_down_16 : decode cX6_down 16 = .ok (.isub, 1) := by decide +kernel
theorem dX6_down_17 : decode cX6_down 17 = .ok (.istore_n 3, 1) := by decide +kernel
theorem dX6_down_18 : decode cX6_down 18 = .ok (.aload_n 0, 1) := by decide +kernel
theorem dX6_down_19 : decode cX6_down 19 = .ok (.getfield 15, 3) := by decide +kernel
theorem dX6_down_22 : decode cX6_down 22 = .ok (.iload_n 3, 1) := by decide +kernel
theorem dX6_down_23 : decode cX6_down 23 = .ok (.baload, 1) := by decide +kernel
theorem dX6_down_24 : decode cX6_down 24 = .ok (.ifCond .eq 7, 3) := by decide +kernel
theorem dX6_down_27 : decode cX6_down 27 = .ok (.iload_n 3, 1) := by decide +kernel
theorem dX6_down_28 : decode cX6_down 28 = .ok (.goto 4, 3) := by decide +kernel
theorem dX6_down_31 : decode cX6_down 31 = .ok (.iconst (-1), 1) := by decide +kernel
theorem dX6_down_32 : decode cX6_down 32 = .ok (.ireturn, 1) := by decide +kernel
theorem dX6_firstOf_0 : decode cX6_firstOf 0 = .ok (.iconst 0, 1) := by decide +kernel
theorem dX6_firstOf_1 : decode cX6_firstOf 1 = .ok (.istore_n 2, 1) := by decide +kernel
theorem dX6_firstOf_2 : decode cX6_firstOf 2 = .ok (.iload_n 2, 1) := by decide +kernel
theorem dX6_firstOf_3 : decode cX6_firstOf 3 = .ok (.aload_n 0, 1) := by decide +kernel
theorem dX6_firstOf_4 : decode cX6_firstOf 4 = .ok (.getfield 83, 3) := by decide +kernel
theorem dX6_firstOf_7 : decode cX6_firstOf 7 = .ok (.if_icmp .ge 27, 3) := by decide +kernel
theorem dX6_firstOf_10 : decode cX6_firstOf 10 = .ok (.aload_n 1, 1) := by decide +kernel
theorem dX6_firstOf_11 : decode cX6_firstOf 11 = .ok (.aload_n 0, 1) := by decide +kernel
theorem dX6_firstOf_12 : decode cX6_firstOf 12 = .ok (.getfield 9, 3) := by decide +kernel
theorem dX6_firstOf_15 : decode cX6_firstOf 15 = .ok (.iload_n 2, 1) := by decide +kernel
theorem dX6_firstOf_16 : decode cX6_firstOf 16 = .ok (.iaload, 1) := by decide +kernel
theorem dX6_firstOf_17 : decode cX6_firstOf 17 = .ok (.baload, 1) := by decide +kernel
theorem dX6_firstOf_18 : decode cX6_firstOf 18 = .ok (.ifCond .eq 10, 3) := by decide +kernel
theorem dX6_firstOf_21 : decode cX6_firstOf 21 = .ok (.aload_n 0, 1) := by decide +kernel
theorem dX6_firstOf_22 : decode cX6_firstOf 22 = .ok (.getfield 9, 3) := by decide +kernel
theorem dX6_firstOf_25 : decode cX6_firstOf 25 = .ok (.iload_n 2, 1) := by decide +kernel
theorem dX6_firstOf_26 : decode cX6_firstOf 26 = .ok (.iaload, 1) := by decide +kernel
theorem dX6_firstOf_27 : decode cX6_firstOf 27 = .ok (.ireturn, 1) := by decide +kernel
theorem dX6_firstOf_28 : decode cX6_firstOf 28 = .ok (.iinc 2 1, 3) := by decide +kernel
theorem dX6_firstOf_31 : decode cX6_firstOf 31 = .ok (.goto (-29), 3) := by decide +kernel
theorem dX6_firstOf_34 : decode cX6_firstOf 34 = .ok (.iconst (-1), 1) := by decide +kernel
theorem dX6_firstOf_35 : decode cX6_firstOf 35 = .ok (.ireturn, 1) := by decide +kernel
theorem dX6_lastOf_0 : decode cX6_lastOf 0 = .ok (.aload_n 0, 1) := by decide +kernel
theorem dX6_lastOf_1 : decode cX6_lastOf 1 = .ok (.getfield 83, 3) := by decide +kernel
theorem dX6_lastOf_4 : decode cX6_lastOf 4 = .ok (.iconst 1, 1) := by decide +kernel
theorem dX6_lastOf_5 : decode cX6_lastOf 5 = .ok (.isub, 1) := by decide +kernel
theorem dX6_lastOf_6 : decode cX6_lastOf 6 = .ok (.istore_n 2, 1) := by decide +kernel
theorem dX6_lastOf_7 : decode cX6_lastOf 7 = .ok (.iload_n 2, 1) := by decide +kernel
theorem dX6_lastOf_8 : decode cX6_lastOf 8 = .ok (.ifCond .lt 27, 3) := by decide +kernel
theorem dX6_lastOf_11 : decode cX6_lastOf 11 = .ok (.aload_n 1, 1) := by decide +kernel
theorem dX6_lastOf_12 : decode cX6_lastOf 12 = .ok (.aload_n 0, 1) := by decide +kernel
theorem dX6_lastOf_13 : decode cX6_lastOf 13 = .ok (.getfield 9, 3) := by decide +kernel
theorem dX6_lastOf_16 : decode cX6_lastOf 16 = .ok (.iload_n 2, 1) := by decide +kernel
theorem dX6_lastOf_17 : decode cX6_lastOf 17 = .ok (.iaload, 1) := by decide +kernel
theorem dX6_lastOf_18 : decode cX6_lastOf 18 = .ok (.baload, 1) := by decide +kernel
theorem dX6_lastOf_19 : decode cX6_lastOf 19 = .ok (.ifCond .eq 10, 3) := by decide +kernel
theorem dX6_lastOf_22 : decode cX6_lastOf 22 = .ok (.aload_n 0, 1) := by decide +kernel
theorem dX6_lastOf_23 : decode cX6_lastOf 23 = .ok (.getfield 9, 3) := by decide +kernel
theorem dX6_lastOf_26 : decode cX6_lastOf 26 = .ok (.iload_n 2, 1) := by decide +kernel
theorem dX6_lastOf_27 : decode cX6_lastOf 27 = .ok (.iaload, 1) := by decide +kernel
theorem dX6_lastOf_28 : decode cX6_lastOf 28 = .ok (.ireturn, 1) := by decide +kernel
theorem dX6_lastOf_29 : decode cX6_lastOf 29 = .ok (.iinc 2 (-1), 3) := by decide +kernel
theorem dX6_lastOf_32 : decode cX6_lastOf 32 = .ok (.goto (-25), 3) := by decide +kernel
theorem dX6_lastOf_35 : decode cX6_lastOf 35 = .ok (.iconst (-1), 1) := by decide +kernel
theorem dX6_lastOf_36 : decode cX6_lastOf 36 = .ok (.ireturn, 1) := by decide +kernel
theorem dX6_howManyIn_0 : decode cX6_howManyIn 0 = .ok (.iconst 0, 1) := by decide +kernel
theorem dX6_howManyIn_1 : decode cX6_howManyIn 1 = .ok (.istore_n 2, 1) := by decide +kernel
theorem dX6_howManyIn_2 : decode cX6_howManyIn 2 = .ok (.iconst 0, 1) := by decide +kernel
theorem dX6_howManyIn_3 : decode cX6_howManyIn 3 = .ok (.istore_n 3, 1) := by decide +kernel
theorem dX6_howManyIn_4 : decode cX6_howManyIn 4 = .ok (.iload_n 3, 1) := by decide +kernel
theorem dX6_howManyIn_5 : decode cX6_howManyIn 5 = .ok (.aload_n 0, 1) := by decide +kernel
theorem dX6_howManyIn_6 : decode cX6_howManyIn 6 = .ok (.getfield 83, 3) := by decide +kernel
theorem dX6_howManyIn_9 : decode cX6_howManyIn 9 = .ok (.if_icmp .ge 23, 3) := by decide +kernel
theorem dX6_howManyIn_12 : decode cX6_howManyIn 12 = .ok (.aload_n 1, 1) := by decide +kernel
theorem dX6_howManyIn_13 : decode cX6_howManyIn 13 = .ok (.aload_n 0, 1) := by decide +kernel
theorem dX6_howManyIn_14 : decode cX6_howManyIn 14 = .ok (.getfield 9, 3) := by decide +kernel
theorem dX6_howManyIn_17 : decode cX6_howManyIn 17 = .ok (.iload_n 3, 1) := by decide +kernel
theorem dX6_howManyIn_18 : decode cX6_howManyIn 18 = .ok (.iaload, 1) := by decide +kernel
theorem dX6_howManyIn_19 : decode cX6_howManyIn 19 = .ok (.baload, 1) := by decide +kernel
theorem dX6_howManyIn_20 : decode cX6_howManyIn 20 = .ok (.ifCond .eq 6, 3) := by decide +kernel
theorem dX6_howManyIn_23 : decode cX6_howManyIn 23 = .ok (.iinc 2 1, 3) := by decide +kernel
theorem dX6_howManyIn_26 : decode cX6_howManyIn 26 = .ok (.iinc 3 1, 3) := by decide +kernel
theorem dX6_howManyIn_29 : decode cX6_howManyIn 29 = .ok (.goto (-25), 3) := by decide +kernel
theorem dX6_howManyIn_32 : decode cX6_howManyIn 32 = .ok (.iload_n 2, 1) := by decide +kernel
theorem dX6_howManyIn_33 : decode cX6_howManyIn 33 = .ok (.ireturn, 1) := by decide +kernel
theorem dX7_init_0 : decode cX7_init 0 = .ok (.aload_n 0, 1) := by decide +kernel
theorem dX7_init_1 : decode cX7_init 1 = .ok (.invokespecial 3, 3) := by decide +kernel
theorem dX7_init_4 : decode cX7_init 4 = .ok (.aload_n 0, 1) := by decide +kernel
theorem dX7_init_5 : decode cX7_init 5 = .ok (.bipush 6, 2) := by decide +kernel
theorem dX7_init_7 : decode cX7_init 7 = .ok (.anewarray 9, 3) := by decide +kernel
theorem dX7_init_10 : decode cX7_init 10 = .ok (.putfield 11, 3) := by decide +kernel
theorem dX7_init_13 : decode cX7_init 13 = .ok (.iconst 0, 1) := by decide +kernel
theorem dX7_init_14 : decode cX7_init 14 = .ok (.istore_n 1, 1) := by decide +kernel
theorem dX7_init_15 : decode cX7_init 15 = .ok (.iload_n 1, 1) := by decide +kernel
theorem dX7_init_16 : decode cX7_init 16 = .ok (.bipush 6, 2) := by decide +kernel
theorem dX7_init_18 : decode cX7_init 18 = .ok (.if_icmp .ge 22, 3) := by decide +kernel
theorem dX7_init_21 : decode cX7_init 21 = .ok (.aload_n 0, 1) := by decide +kernel
theorem dX7_init_22 : decode cX7_init 22 = .ok (.getfield 11, 3) := by decide +kernel
theorem dX7_init_25 : decode cX7_init 25 = .ok (.iload_n 1, 1) := by decide +kernel
theorem dX7_init_26 : decode cX7_init 26 = .ok (.new 9, 3) := by decide +kernel
theorem dX7_init_29 : decode cX7_init 29 = .ok (.dup, 1) := by decide +kernel
theorem dX7_init_30 : decode cX7_init 30 = .ok (.invokespecial 17, 3) := by decide +kernel
theorem dX7_init_33 : decode cX7_init 33 = .ok (.aastore, 1) := by decide +kernel
theorem dX7_init_34 : decode cX7_init 34 = .ok (.iinc 1 1, 3) := by decide +kernel
theorem dX7_init_37 : decode cX7_init 37 = .ok (.goto (-22), 3) := by decide +kernel
theorem dX7_init_40 : decode cX7_init 40 = .ok (.return_, 1) := by decide +kernel
theorem dX7_push_0 : decode cX7_push 0 = .ok (.aload_n 0, 1) := by decide +kernel
theorem dX7_push_1 : decode cX7_push 1 = .ok (.getfield 11, 3) := by decide +kernel
theorem dX7_push_4 : decode cX7_push 4 = .ok (.aload_n 0, 1) := by decide +kernel
theorem dX7_push_5 : decode cX7_push 5 = .ok (.getfield 18, 3) := by decide +kernel
theorem dX7_push_8 : decode cX7_push 8 = .ok (.aaload, 1) := by decide +kernel
theorem dX7_push_9 : decode cX7_push 9 = .ok (.iconst 0, 1) := by decide +kernel
theorem dX7_push_10 : decode cX7_push 10 = .ok (.putfield 22, 3) := by decide +kernel
theorem dX7_push_13 : decode cX7_push 13 = .ok (.aload_n 0, 1) := by decide +kernel
theorem dX7_push_14 : decode cX7_push 14 = .ok (.getfield 11, 3) := by decide +kernel
theorem dX7_push_17 : decode cX7_push 17 = .ok (.aload_n 0, 1) := by decide +kernel
theorem dX7_push_18 : decode cX7_push 18 = .ok (.getfield 18, 3) := by decide +kernel
theorem dX7_push_21 : decode cX7_push 21 = .ok (.aaload, 1) := by decide +kernel
theorem dX7_push_22 : decode cX7_push 22 = .ok (.iload_n 1, 1) := by decide +kernel
theorem dX7_push_23 : decode cX7_push 23 = .ok (.iload_n 2, 1) := by decide +kernel
theorem dX7_push_24 : decode cX7_push 24 = .ok (.iload_n 3, 1) := by decide +kernel
theorem dX7_push_25 : decode cX7_push 25 = .ok (.invokevirtual 25, 3) := by decide +kernel
theorem dX7_push_28 : decode cX7_push 28 = .ok (.aload_n 0, 1) := by decide +kernel
theorem dX7_push_29 : decode cX7_push 29 = .ok (.dup, 1) := by decide +kernel
theorem dX7_push_30 : decode cX7_push 30 = .ok (.getfield 18, 3) := by decide +kernel
theorem dX7_push_33 : decode cX7_push 33 = .ok (.iconst 1, 1) := by decide +kernel
theorem dX7_push_34 : decode cX7_push 34 = .ok (.iadd, 1) := by decide +kernel
theorem dX7_push_35 : decode cX7_push 35 = .ok (.putfield 18, 3) := by decide +kernel
theorem dX7_push_38 : decode cX7_push 38 = .ok (.aload_n 0, 1) := by decide +kernel
theorem dX7_push_39 : decode cX7_push 39 = .ok (.getfield 18, 3) := by decide +kernel
theorem dX7_push_42 : decode cX7_push 42 = .ok (.ireturn, 1) := by decide +kernel
theorem dX7_partsBehind_0 : decode cX7_partsBehind 0 = .ok (.iconst 1, 1) := by decide +kernel
theorem dX7_partsBehind_1 : decode cX7_partsBehind 1 = .ok (.istore_n 2, 1) := by decide +kernel
theorem dX7_partsBehind_2 : decode cX7_partsBehind 2 = .ok (.iconst 1, 1) := by decide +kernel
theorem dX7_partsBehind_3 : decode cX7_partsBehind 3 = .ok (.istore_n 3, 1) := by decide +kernel
theorem dX7_partsBehind_4 : decode cX7_partsBehind 4 = .ok (.iload_n 3, 1) := by decide +kernel
theorem dX7_partsBehind_5 : decode cX7_partsBehind 5 = .ok (.iload_n 1, 1) := by decide +kernel
theorem dX7_partsBehind_6 : decode cX7_partsBehind 6 = .ok (.invokestatic 29, 3) := by decide +kernel
theorem dX7_partsBehind_9 : decode cX7_partsBehind 9 = .ok (.if_icmp .gt 26, 3) := by decide +kernel
theorem dX7_partsBehind_12 : decode cX7_partsBehind 12 = .ok (.iload_n 2, 1) := by decide +kernel
theorem dX7_partsBehind_13 : decode cX7_partsBehind 13 = .ok (.aload_n 0, 1) := by decide +kernel
theorem dX7_partsBehind_14 : decode cX7_partsBehind 14 = .ok (.getfield 11, 3) := by decide +kernel
theorem dX7_partsBehind_17 : decode cX7_partsBehind 17 = .ok (.aload_n 0, 1) := by decide +kernel
theorem dX7_partsBehind_18 : decode cX7_partsBehind 18 = .ok (.getfield 18, 3) := by decide +kernel
theorem dX7_partsBehind_21 : decode cX7_partsBehind 21 = .ok (.iload_n 3, 1) := by decide +kernel
theorem dX7_partsBehind_22 : decode cX7_partsBehind 22 = .ok (.isub, 1) := by decide +kernel
theorem dX7_partsBehind_23 : decode cX7_partsBehind 23 = .ok (.aaload, 1) := by decide +kernel
theorem dX7_partsBehind_24 : decode cX7_partsBehind 24 = .ok (.getfield 22, 3) := by decide +kernel
theorem dX7_partsBehind_27 : decode cX7_partsBehind 27 = .ok (.iadd, 1) := by decide +kernel
theorem dX7_partsBehind_28 : decode cX7_partsBehind 28 = .ok (.istore_n 2, 1) := by decide +kernel
theorem dX7_partsBehind_29 : decode cX7_partsBehind 29 = .ok (.iinc 3 1, 3) := by decide +kernel
theorem dX7_partsBehind_32 : decode cX7_partsBehind 32 = .ok (.goto (-28), 3) := by decide +kernel
theorem dX7_partsBehind_35 : decode cX7_partsBehind 35 = .ok (.iload_n 2, 1) := by decide +kernel
theorem dX7_partsBehind_36 : decode cX7_partsBehind 36 = .ok (.ireturn, 1) := by decide +kernel
theorem dX7_unite_0 : decode cX7_unite 0 = .ok (.iload_n 1, 1) := by decide +kernel
theorem dX7_unite_1 : decode cX7_unite 1 = .ok (.invokestatic 29, 3) := by decide +kernel
theorem dX7_unite_4 : decode cX7_unite 4 = .ok (.iconst 2, 1) := by decide +kernel
theorem dX7_unite_5 : decode cX7_unite 5 = .ok (.if_icmp .ne 36, 3) := by decide +kernel
theorem dX7_unite_8 : decode cX7_unite 8 = .ok (.aload_n 0, 1) := by decide +kernel
theorem dX7_unite_9 : decode cX7_unite 9 = .ok (.dup, 1) := by decide +kernel
theorem dX7_unite_10 : decode cX7_unite 10 = .ok (.getfield 18, 3) := by decide +kernel
theorem dX7_unite_13 : decode cX7_unite 13 = .ok (.iconst 1, 1) := by decide +kernel
theorem dX7_unite_14 : decode cX7_unite 14 = .ok (.isub, 1) := by decide +kernel
theorem dX7_unite_15 : decode cX7_unite 15 = .ok (.putfield 18, 3) := by decide +kernel
theorem dX7_unite_18 : decode cX7_unite 18 = .ok (.aload_n 0, 1) := by decide +kernel
theorem dX7_unite_19 : decode cX7_unite 19 = .ok (.getfield 11, 3) := by decide +kernel
theorem dX7_unite_22 : decode cX7_unite 22 = .ok (.aload_n 0, 1) := by decide +kernel
theorem dX7_unite_23 : decode cX7_unite 23 = .ok (.getfield 18, 3) := by decide +kernel
theorem dX7_unite_26 : decode cX7_unite 26 = .ok (.iconst 1, 1) := by decide +kernel
theorem dX7_unite_27 : decode cX7_unite 27 = .ok (.isub, 1) := by decide +kernel
theorem dX7_unite_28 : decode cX7_unite 28 = .ok (.aaload, 1) := by decide +kernel
theorem dX7_unite_29 : decode cX7_unite 29 = .ok (.aload_n 0, 1) := by decide +kernel
theorem dX7_unite_30 : decode cX7_unite 30 = .ok (.getfield 11, 3) := by decide +kernel
theorem dX7_unite_33 : decode cX7_unite 33 = .ok (.aload_n 0, 1) := by decide +kernel
theorem dX7_unite_34 : decode cX7_unite 34 = .ok (.getfield 18, 3) := by decide +kernel
theorem dX7_unite_37 : decode cX7_unite 37 = .ok (.aaload, 1) := by decide +kernel
theorem dX7_unite_38 : decode cX7_unite 38 = .ok (.invokevirtual 33, 3) := by decide +kernel
theorem dX7_unite_41 : decode cX7_unite 41 = .ok (.aload_n 0, 1) := by decide +kernel
theorem dX7_unite_42 : decode cX7_unite 42 = .ok (.getfield 11, 3) := by decide +kernel
theorem dX7_unite_45 : decode cX7_unite 45 = .ok (.aload_n 0, 1) := by decide +kernel
theorem dX7_unite_46 : decode cX7_unite 46 = .ok (.getfield 18, 3) := by decide +kernel
theorem dX7_unite_49 : decode cX7_unite 49 = .ok (.iconst 1, 1) := by decide +kernel
theorem dX7_unite_50 : decode cX7_unite 50 = .ok (.isub, 1) := by decide +kernel
theorem dX7_unite_51 : decode cX7_unite 51 = .ok (.aaload, 1) := by decide +kernel
theorem dX7_unite_52 : decode cX7_unite 52 = .ok (.iload_n 1, 1) := by decide +kernel
theorem dX7_unite_53 : decode cX7_unite 53 = .ok (.iconst 0, 1) := by decide +kernel
theorem dX7_unite_54 : decode cX7_unite 54 = .ok (.iconst 0, 1) := by decide +kernel
theorem dX7_unite_55 : decode cX7_unite 55 = .ok (.invokevirtual 25, 3) := by decide +kernel
theorem dX7_unite_58 : decode cX7_unite 58 = .ok (.aload_n 0, 1) := by decide +kernel
theorem dX7_unite_59 : decode cX7_unite 59 = .ok (.getfield 18, 3) := by decide +kernel
theorem dX7_unite_62 : decode cX7_unite 62 = .ok (.ireturn, 1) := by decide +kernel
theorem dX8_init_0 : decode cX8_init 0 = .ok (.aload_n 0, 1) := by decide +kernel
theorem dX8_init_1 : decode cX8_init 1 = .ok (.invokespecial 3, 3) := by decide +kernel
theorem dX8_init_4 : decode cX8_init 4 = .ok (.aload_n 0, 1) := by decide +kernel
theorem dX8_init_5 : decode cX8_init 5 = .ok (.bipush 24, 2) := by decide +kernel
theorem dX8_init_7 : decode cX8_init 7 = .ok (.newarray .int, 2) := by decide +kernel
theorem dX8_init_9 : decode cX8_init 9 = .ok (.putfield 9, 3) := by decide +kernel
theorem dX8_init_12 : decode cX8_init 12 = .ok (.return_, 1) := by decide +kernel
theorem dX8_append_0 : decode cX8_append 0 = .ok (.aload_n 0, 1) := by decide +kernel
theorem dX8_append_1 : decode cX8_append 1 = .ok (.getfield 9, 3) := by decide +kernel
theorem dX8_append_4 : decode cX8_append 4 = .ok (.aload_n 0, 1) := by decide +kernel
theorem dX8_append_5 : decode cX8_append 5 = .ok (.getfield 15, 3) := by decide +kernel
theorem dX8_append_8 : decode cX8_append 8 = .ok (.iload_n 1, 1) := by decide +kernel
theorem dX8_append_9 : decode cX8_append 9 = .ok (.iastore, 1) := by decide +kernel
theorem dX8_append_10 : decode cX8_append 10 = .ok (.aload_n 0, 1) := by decide +kernel
theorem dX8_append_11 : decode cX8_append 11 = .ok (.dup, 1) := by decide +kernel
theorem dX8_append_12 : decode cX8_append 12 = .ok (.getfield 15, 3) := by decide +kernel
theorem dX8_append_15 : decode cX8_append 15 = .ok (.iconst 1, 1) := by decide +kernel
theorem dX8_append_16 : decode cX8_append 16 = .ok (.iadd, 1) := by decide +kernel
theorem dX8_append_17 : decode cX8_append 17 = .ok (.putfield 15, 3) := by decide +kernel
theorem dX8_append_20 : decode cX8_append 20 = .ok (.aload_n 0, 1) := by decide +kernel
theorem dX8_append_21 : decode cX8_append 21 = .ok (.getfield 15, 3) := by decide +kernel
theorem dX8_append_24 : decode cX8_append 24 = .ok (.ireturn, 1) := by decide +kernel
theorem dX8_rightPlaces_0 : decode cX8_rightPlaces 0 = .ok (.iconst 0, 1) := by decide +kernel
theorem dX8_rightPlaces_1 : decode cX8_rightPlaces 1 = .ok (.istore_n 2, 1) := by decide +kernel
theorem dX8_rightPlaces_2 : decode cX8_rightPlaces 2 = .ok (.iconst 0, 1) := by decide +kernel
theorem dX8_rightPlaces_3 : decode cX8_rightPlaces 3 = .ok (.istore_n 3, 1) := by decide +kernel
theorem dX8_rightPlaces_4 : decode cX8_rightPlaces 4 = .ok (.iload_n 3, 1) := by decide +kernel
theorem dX8_rightPlaces_5 : decode cX8_rightPlaces 5 = .ok (.aload_n 0, 1) := by decide +kernel
theorem dX8_rightPlaces_6 : decode cX8_rightPlaces 6 = .ok (.getfield 15, 3) := by decide +kernel
theorem dX8_rightPlaces_9 : decode cX8_rightPlaces 9 = .ok (.if_icmp .ge 28, 3) := by decide +kernel
theorem dX8_rightPlaces_12 : decode cX8_rightPlaces 12 = .ok (.aload_n 1, 1) := by decide +kernel
theorem dX8_rightPlaces_13 : decode cX8_rightPlaces 13 = .ok (.iload_n 2, 1) := by decide +kernel
theorem dX8_rightPlaces_14 : decode cX8_rightPlaces 14 = .ok (.aload_n 0, 1) := by decide +kernel
theorem dX8_rightPlaces_15 : decode cX8_rightPlaces 15 = .ok (.getfield 9, 3) := by decide +kernel
theorem dX8_rightPlaces_18 : decode cX8_rightPlaces 18 = .ok (.iload_n 3, 1) := by decide +kernel
theorem dX8_rightPlaces_19 : decode cX8_rightPlaces 19 = .ok (.iaload, 1) := by decide +kernel
theorem dX8_rightPlaces_20 : decode cX8_rightPlaces 20 = .ok (.invokevirtual 19, 3) := by decide +kernel
theorem dX8_rightPlaces_23 : decode cX8_rightPlaces 23 = .ok (.istore_n 2, 1) := by decide +kernel
theorem dX8_rightPlaces_24 : decode cX8_rightPlaces 24 = .ok (.iload_n 2, 1) := by decide +kernel
theorem dX8_rightPlaces_25 : decode cX8_rightPlaces 25 = .ok (.iconst (-1), 1) := by decide +kernel
theorem dX8_rightPlaces_26 : decode cX8_rightPlaces 26 = .ok (.if_icmp .ne 5, 3) := by decide +kernel
theorem dX8_rightPlaces_29 : decode cX8_rightPlaces 29 = .ok (.iload_n 3, 1) := by decide +kernel
theorem dX8_rightPlaces_30 : decode cX8_rightPlaces 30 = .ok (.ireturn, 1) := by decide +kernel
theorem dX8_rightPlaces_31 : decode cX8_rightPlaces 31 = .ok (.iinc 3 1, 3) := by decide +kernel
theorem dX8_rightPlaces_34 : decode cX8_rightPlaces 34 = .ok (.goto (-30), 3) := by decide +kernel
theorem dX8_rightPlaces_37 : decode cX8_rightPlaces 37 = .ok (.aload_n 0, 1) := by decide +kernel
theorem dX8_rightPlaces_38 : decode cX8_rightPlaces 38 = .ok (.getfield 15, 3) := by decide +kernel
theorem dX8_rightPlaces_41 : decode cX8_rightPlaces 41 = .ok (.ireturn, 1) := by decide +kernel
theorem dX8_firstAt_0 : decode cX8_firstAt 0 = .ok (.iconst 0, 1) := by decide +kernel
theorem dX8_firstAt_1 : decode cX8_firstAt 1 = .ok (.istore_n 3, 1) := by decide +kernel
theorem dX8_firstAt_2 : decode cX8_firstAt 2 = .ok (.iconst 0, 1) := by decide +kernel
theorem dX8_firstAt_3 : decode cX8_firstAt 3 = .ok (.istore 4, 2) := by decide +kernel
theorem dX8_firstAt_5 : decode cX8_firstAt 5 = .ok (.iload 4, 2) := by decide +kernel
theorem dX8_firstAt_7 : decode cX8_firstAt 7 = .ok (.aload_n 0, 1) := by decide +kernel
theorem dX8_firstAt_8 : decode cX8_firstAt 8 = .ok (.getfield 15, 3) := by decide +kernel
theorem dX8_firstAt_11 : decode cX8_firstAt 11 = .ok (.if_icmp .ge 35, 3) := by decide +kernel
theorem dX8_firstAt_14 : decode cX8_firstAt 14 = .ok (.aload_n 1, 1) := by decide +kernel
theorem dX8_firstAt_15 : decode cX8_firstAt 15 = .ok (.aload_n 2, 1) := by decide +kernel
theorem dX8_firstAt_16 : decode cX8_firstAt 16 = .ok (.iload_n 3, 1) := by decide +kernel
theorem dX8_firstAt_17 : decode cX8_firstAt 17 = .ok (.invokevirtual 25, 3) := by decide +kernel
theorem dX8_firstAt_20 : decode cX8_firstAt 20 = .ok (.ifCond .eq 6, 3) := by decide +kernel
theorem dX8_firstAt_23 : decode cX8_firstAt 23 = .ok (.iload 4, 2) := by decide +kernel
theorem dX8_firstAt_25 : decode cX8_firstAt 25 = .ok (.ireturn, 1) := by decide +kernel
theorem dX8_firstAt_26 : decode cX8_firstAt 26 = .ok (.iload_n 3, 1) := by decide +kernel
theorem dX8_firstAt_27 : decode cX8_firstAt 27 = .ok (.getstatic 31, 3) := by decide +kernel
theorem dX8_firstAt_30 : decode cX8_firstAt 30 = .ok (.aload_n 0, 1) := by decide +kernel
theorem dX8_firstAt_31 : decode cX8_firstAt 31 = .ok (.getfield 9, 3) := by decide +kernel
theorem dX8_firstAt_34 : decode cX8_firstAt 34 = .ok (.iload 4, 2) := by decide +kernel
theorem dX8_firstAt_36 : decode cX8_firstAt 36 = .ok (.iaload, 1) := by decide +kernel
theorem dX8_firstAt_37 : decode cX8_firstAt 37 = .ok (.iaload, 1) := by decide +kernel
theorem dX8_firstAt_38 : decode cX8_firstAt 38 = .ok (.iadd, 1) := by decide +kernel
theorem dX8_firstAt_39 : decode cX8_firstAt 39 = .ok (.istore_n 3, 1) := by decide +kernel
theorem dX8_firstAt_40 : decode cX8_firstAt 40 = .ok (.iinc 4 1, 3) := by decide +kernel
theorem dX8_firstAt_43 : decode cX8_firstAt 43 = .ok (.goto (-38), 3) := by decide +kernel
theorem dX8_firstAt_46 : decode cX8_firstAt 46 = .ok (.aload_n 1, 1) := by decide +kernel
theorem dX8_firstAt_47 : decode cX8_firstAt 47 = .ok (.aload_n 2, 1) := by decide +kernel
theorem dX8_firstAt_48 : decode cX8_firstAt 48 = .ok (.iload_n 3, 1) := by decide +kernel
theorem dX8_firstAt_49 : decode cX8_firstAt 49 = .ok (.invokevirtual 25, 3) := by decide +kernel
theorem dX8_firstAt_52 : decode cX8_firstAt 52 = .ok (.ifCond .eq 10, 3) := by decide +kernel
theorem dX8_firstAt_55 : decode cX8_firstAt 55 = .ok (.aload_n 0, 1) := by decide +kernel
theorem dX8_firstAt_56 : decode cX8_firstAt 56 = .ok (.getfield 15, 3) := by decide +kernel
theorem dX8_firstAt_59 : decode cX8_firstAt 59 = .ok (.goto 4, 3) := by decide +kernel
theorem dX8_firstAt_62 : decode cX8_firstAt 62 = .ok (.iconst (-1), 1) := by decide +kernel
theorem dX8_firstAt_63 : decode cX8_firstAt 63 = .ok (.ireturn, 1) := by decide +kernel
theorem dX9_init_0 : decode cX9_init 0 = .ok (.aload_n 0, 1) := by decide +kernel
theorem dX9_init_1 : decode cX9_init 1 = .ok (.invokespecial 3, 3) := by decide +kernel
theorem dX9_init_4 : decode cX9_init 4 = .ok (.aload_n 0, 1) := by decide +kernel
theorem dX9_init_5 : decode cX9_init 5 = .ok (.sipush 2401, 3) := by decide +kernel
theorem dX9_init_8 : decode cX9_init 8 = .ok (.newarray .long, 2) := by decide +kernel
theorem dX9_init_10 : decode cX9_init 10 = .ok (.putfield 9, 3) := by decide +kernel
theorem dX9_init_13 : decode cX9_init 13 = .ok (.return_, 1) := by decide +kernel
theorem dX9_fill_0 : decode cX9_fill 0 = .ok (.aload_n 1, 1) := by decide +kernel
theorem dX9_fill_1 : decode cX9_fill 1 = .ok (.getfield 15, 3) := by decide +kernel
theorem dX9_fill_4 : decode cX9_fill 4 = .ok (.iconst 1, 1) := by decide +kernel
theorem dX9_fill_5 : decode cX9_fill 5 = .ok (.isub, 1) := by decide +kernel
theorem dX9_fill_6 : decode cX9_fill 6 = .ok (.istore_n 3, 1) := by decide +kernel
theorem dX9_fill_7 : decode cX9_fill 7 = .ok (.iload_n 3, 1) := by decide +kernel
theorem dX9_fill_8 : decode cX9_fill 8 = .ok (.ifCond .lt 55, 3) := by decide +kernel
theorem dX9_fill_11 : decode cX9_fill 11 = .ok (.aload_n 1, 1) := by decide +kernel
theorem dX9_fill_12 : decode cX9_fill 12 = .ok (.getfield 21, 3) := by decide +kernel
theorem dX9_fill_15 : decode cX9_fill 15 = .ok (.iload_n 3, 1) := by decide +kernel
theorem dX9_fill_16 : decode cX9_fill 16 = .ok (.iaload, 1) := by decide +kernel
theorem dX9_fill_17 : decode cX9_fill 17 = .ok (.istore 4, 2) := by decide +kernel
theorem dX9_fill_19 : decode cX9_fill 19 = .ok (.aload_n 0, 1) := by decide +kernel
theorem dX9_fill_20 : decode cX9_fill 20 = .ok (.getfield 9, 3) := by decide +kernel
theorem dX9_fill_23 : decode cX9_fill 23 = .ok (.iload 4, 2) := by decide +kernel
theorem dX9_fill_25 : decode cX9_fill 25 = .ok (.aload_n 2, 1) := by decide +kernel
theorem dX9_fill_26 : decode cX9_fill 26 = .ok (.iload 4, 2) := by decide +kernel
theorem dX9_fill_28 : decode cX9_fill 28 = .ok (.baload, 1) := by decide +kernel
theorem dX9_fill_29 : decode cX9_fill 29 = .ok (.ifCond .eq 7, 3) := by decide +kernel
theorem dX9_fill_32 : decode cX9_fill 32 = .ok (.lconst 0, 1) := by decide +kernel
theorem dX9_fill_33 : decode cX9_fill 33 = .ok (.goto 23, 3) := by decide +kernel
theorem dX9_fill_36 : decode cX9_fill 36 = .ok (.iload 4, 2) := by decide +kernel
theorem dX9_fill_38 : decode cX9_fill 38 = .ok (.aload_n 1, 1) := by decide +kernel
theorem dX9_fill_39 : decode cX9_fill 39 = .ok (.getfield 25, 3) := by decide +kernel
theorem dX9_fill_42 : decode cX9_fill 42 = .ok (.if_icmp .ne 7, 3) := by decide +kernel
theorem dX9_fill_45 : decode cX9_fill 45 = .ok (.lconst 1, 1) := by decide +kernel
theorem dX9_fill_46 : decode cX9_fill 46 = .ok (.goto 10, 3) := by decide +kernel
theorem dX9_fill_49 : decode cX9_fill 49 = .ok (.aload_n 0, 1) := by decide +kernel
theorem dX9_fill_50 : decode cX9_fill 50 = .ok (.aload_n 1, 1) := by decide +kernel
theorem dX9_fill_51 : decode cX9_fill 51 = .ok (.iload 4, 2) := by decide +kernel
theorem dX9_fill_53 : decode cX9_fill 53 = .ok (.invokevirtual 28, 3) := by decide +kernel
theorem dX9_fill_56 : decode cX9_fill 56 = .ok (.lastore, 1) := by decide +kernel
theorem dX9_fill_57 : decode cX9_fill 57 = .ok (.iinc 3 (-1), 3) := by decide +kernel
theorem dX9_fill_60 : decode cX9_fill 60 = .ok (.goto (-53), 3) := by decide +kernel
theorem dX9_fill_63 : decode cX9_fill 63 = .ok (.aload_n 0, 1) := by decide +kernel
theorem dX9_fill_64 : decode cX9_fill 64 = .ok (.getfield 9, 3) := by decide +kernel
theorem dX9_fill_67 : decode cX9_fill 67 = .ok (.iconst 0, 1) := by decide +kernel
theorem dX9_fill_68 : decode cX9_fill 68 = .ok (.laload, 1) := by decide +kernel
theorem dX9_fill_69 : decode cX9_fill 69 = .ok (.lreturn, 1) := by decide +kernel
theorem dX9_fillUntil_0 : decode cX9_fillUntil 0 = .ok (.aload_n 1, 1) := by decide +kernel
theorem dX9_fillUntil_1 : decode cX9_fillUntil 1 = .ok (.getfield 15, 3) := by decide +kernel
theorem dX9_fillUntil_4 : decode cX9_fillUntil 4 = .ok (.iconst 1, 1) := by decide +kernel
theorem dX9_fillUntil_5 : decode cX9_fillUntil 5 = .ok (.isub, 1) := by decide +kernel
theorem dX9_fillUntil_6 : decode cX9_fillUntil 6 = .ok (.istore 5, 2) := by decide +kernel
theorem dX9_fillUntil_8 : decode cX9_fillUntil 8 = .ok (.iload 5, 2) := by decide +kernel
theorem dX9_fillUntil_10 : decode cX9_fillUntil 10 = .ok (.ifCond .lt 77, 3) := by decide +kernel
theorem dX9_fillUntil_13 : decode cX9_fillUntil 13 = .ok (.aload_n 1, 1) := by decide +kernel
theorem dX9_fillUntil_14 : decode cX9_fillUntil 14 = .ok (.getfield 21, 3) := by decide +kernel
theorem dX9_fillUntil_17 : decode cX9_fillUntil 17 = .ok (.iload 5, 2) := by decide +kernel
theorem dX9_fillUntil_19 : decode cX9_fillUntil 19 = .ok (.iaload, 1) := by decide +kernel
theorem dX9_fillUntil_20 : decode cX9_fillUntil 20 = .ok (.istore 6, 2) := by decide +kernel
theorem dX9_fillUntil_22 : decode cX9_fillUntil 22 = .ok (.aload_n 2, 1) := by decide +kernel
theorem dX9_fillUntil_23 : decode cX9_fillUntil 23 = .ok (.iload 6, 2) := by decide +kernel
theorem dX9_fillUntil_25 : decode cX9_fillUntil 25 = .ok (.baload, 1) := by decide +kernel
theorem dX9_fillUntil_26 : decode cX9_fillUntil 26 = .ok (.ifCond .ne 18, 3) := by decide +kernel
theorem dX9_fillUntil_29 : decode cX9_fillUntil 29 = .ok (.aload_n 3, 1) := by decide +kernel
theorem dX9_fillUntil_30 : decode cX9_fillUntil 30 = .ok (.aload 4, 2) := by decide +kernel
theorem dX9_fillUntil_32 : decode cX9_fillUntil 32 = .ok (.iload 6, 2) := by decide +kernel
theorem dX9_fillUntil_34 : decode cX9_fillUntil 34 = .ok (.invokevirtual 32, 3) := by decide +kernel
theorem dX9_fillUntil_37 : decode cX9_fillUntil 37 = .ok (.ifCond .eq 7, 3) := by decide +kernel
theorem dX9_fillUntil_40 : decode cX9_fillUntil 40 = .ok (.iconst 1, 1) := by decide +kernel
theorem dX9_fillUntil_41 : decode cX9_fillUntil 41 = .ok (.goto 4, 3) := by decide +kernel
theorem dX9_fillUntil_44 : decode cX9_fillUntil 44 = .ok (.iconst 0, 1) := by decide +kernel
theorem dX9_fillUntil_45 : decode cX9_fillUntil 45 = .ok (.istore 7, 2) := by decide +kernel
theorem dX9_fillUntil_47 : decode cX9_fillUntil 47 = .ok (.aload_n 0, 1) := by decide +kernel
theorem dX9_fillUntil_48 : decode cX9_fillUntil 48 = .ok (.getfield 9, 3) := by decide +kernel
theorem dX9_fillUntil_51 : decode cX9_fillUntil 51 = .ok (.iload 6, 2) := by decide +kernel
theorem dX9_fillUntil_53 : decode cX9_fillUntil 53 = .ok (.aload_n 2, 1) := by decide +kernel
theorem dX9_fillUntil_54 : decode cX9_fillUntil 54 = .ok (.iload 6, 2) := by decide +kernel
theorem dX9_fillUntil_56 : decode cX9_fillUntil 56 = .ok (.baload, 1) := by decide +kernel
theorem dX9_fillUntil_57 : decode cX9_fillUntil 57 = .ok (.ifCond .eq 7, 3) := by decide +kernel
theorem dX9_fillUntil_60 : decode cX9_fillUntil 60 = .ok (.lconst 0, 1) := by decide +kernel
theorem dX9_fillUntil_61 : decode cX9_fillUntil 61 = .ok (.goto 19, 3) := by decide +kernel
theorem dX9_fillUntil_64 : decode cX9_fillUntil 64 = .ok (.iload 7, 2) := by decide +kernel
theorem dX9_fillUntil_66 : decode cX9_fillUntil 66 = .ok (.ifCond .eq 7, 3) := by decide +kernel
theorem dX9_fillUntil_69 : decode cX9_fillUntil 69 = .ok (.lconst 1, 1) := by decide +kernel
theorem dX9_fillUntil_70 : decode cX9_fillUntil 70 = .ok (.goto 10, 3) := by decide +kernel
theorem dX9_fillUntil_73 : decode cX9_fillUntil 73 = .ok (.aload_n 0, 1) := by decide +kernel
theorem dX9_fillUntil_74 : decode cX9_fillUntil 74 = .ok (.aload_n 1, 1) := by decide +kernel
theorem dX9_fillUntil_75 : decode cX9_fillUntil 75 = .ok (.iload 6, 2) := by decide +kernel
theorem dX9_fillUntil_77 : decode cX9_fillUntil 77 = .ok (.invokevirtual 28, 3) := by decide +kernel
theorem dX9_fillUntil_80 : decode cX9_fillUntil 80 = .ok (.lastore, 1) := by decide +kernel
theorem dX9_fillUntil_81 : decode cX9_fillUntil 81 = .ok (.iinc 5 (-1), 3) := by decide +kernel
theorem dX9_fillUntil_84 : decode cX9_fillUntil 84 = .ok (.goto (-76), 3) := by decide +kernel
theorem dX9_fillUntil_87 : decode cX9_fillUntil 87 = .ok (.aload_n 0, 1) := by decide +kernel
theorem dX9_fillUntil_88 : decode cX9_fillUntil 88 = .ok (.getfield 9, 3) := by decide +kernel
theorem dX9_fillUntil_91 : decode cX9_fillUntil 91 = .ok (.iconst 0, 1) := by decide +kernel
theorem dX9_fillUntil_92 : decode cX9_fillUntil 92 = .ok (.laload, 1) := by decide +kernel
theorem dX9_fillUntil_93 : decode cX9_fillUntil 93 = .ok (.lreturn, 1) := by decide +kernel
theorem dX9_sumOver_0 : decode cX9_sumOver 0 = .ok (.lconst 0, 1) := by decide +kernel
theorem dX9_sumOver_1 : decode cX9_sumOver 1 = .ok (.lstore_n 3, 1) := by decide +kernel
theorem dX9_sumOver_2 : decode cX9_sumOver 2 = .ok (.iconst 0, 1) := by decide +kernel
theorem dX9_sumOver_3 : decode cX9_sumOver 3 = .ok (.istore 5, 2) := by decide +kernel
theorem dX9_sumOver_5 : decode cX9_sumOver 5 = .ok (.iload 5, 2) := by decide +kernel
theorem dX9_sumOver_7 : decode cX9_sumOver 7 = .ok (.iconst 4, 1) := by decide +kernel
theorem dX9_sumOver_8 : decode cX9_sumOver 8 = .ok (.if_icmp .ge 20, 3) := by decide +kernel
theorem dX9_sumOver_11 : decode cX9_sumOver 11 = .ok (.lload_n 3, 1) := by decide +kernel
theorem dX9_sumOver_12 : decode cX9_sumOver 12 = .ok (.aload_n 0, 1) := by decide +kernel
theorem dX9_sumOver_13 : decode cX9_sumOver 13 = .ok (.aload_n 1, 1) := by decide +kernel
theorem dX9_sumOver_14 : decode cX9_sumOver 14 = .ok (.iload_n 2, 1) := by decide +kernel
theorem dX9_sumOver_15 : decode cX9_sumOver 15 = .ok (.iload 5, 2) := by decide +kernel
theorem dX9_sumOver_17 : decode cX9_sumOver 17 = .ok (.invokevirtual 38, 3) := by decide +kernel
theorem dX9_sumOver_20 : decode cX9_sumOver 20 = .ok (.ladd, 1) := by decide +kernel
theorem dX9_sumOver_21 : decode cX9_sumOver 21 = .ok (.lstore_n 3, 1) := by decide +kernel
theorem dX9_sumOver_22 : decode cX9_sumOver 22 = .ok (.iinc 5 1, 3) := by decide +kernel
theorem dX9_sumOver_25 : decode cX9_sumOver 25 = .ok (.goto (-20), 3) := by decide +kernel
theorem dX9_sumOver_28 : decode cX9_sumOver 28 = .ok (.lload_n 3, 1) := by decide +kernel
theorem dX9_sumOver_29 : decode cX9_sumOver 29 = .ok (.lreturn, 1) := by decide +kernel
theorem dX9_over_0 : decode cX9_over 0 = .ok (.aload_n 1, 1) := by decide +kernel
theorem dX9_over_1 : decode cX9_over 1 = .ok (.iload_n 2, 1) := by decide +kernel
theorem dX9_over_2 : decode cX9_over 2 = .ok (.iload_n 3, 1) := by decide +kernel
theorem dX9_over_3 : decode cX9_over 3 = .ok (.invokevirtual 42, 3) := by decide +kernel
theorem dX9_over_6 : decode cX9_over 6 = .ok (.istore 4, 2) := by decide +kernel
theorem dX9_over_8 : decode cX9_over 8 = .ok (.iload 4, 2) := by decide +kernel
theorem dX9_over_10 : decode cX9_over 10 = .ok (.iconst (-1), 1) := by decide +kernel
theorem dX9_over_11 : decode cX9_over 11 = .ok (.if_icmp .ne 7, 3) := by decide +kernel
theorem dX9_over_14 : decode cX9_over 14 = .ok (.lconst 0, 1) := by decide +kernel
theorem dX9_over_15 : decode cX9_over 15 = .ok (.goto 10, 3) := by decide +kernel
theorem dX9_over_18 : decode cX9_over 18 = .ok (.aload_n 0, 1) := by decide +kernel
theorem dX9_over_19 : decode cX9_over 19 = .ok (.getfield 9, 3) := by decide +kernel
theorem dX9_over_22 : decode cX9_over 22 = .ok (.iload 4, 2) := by decide +kernel
theorem dX9_over_24 : decode cX9_over 24 = .ok (.laload, 1) := by decide +kernel
theorem dX9_over_25 : decode cX9_over 25 = .ok (.lreturn, 1) := by decide +kernel
theorem dX9_processAt_0 : decode cX9_processAt 0 = .ok (.lload_n 2, 1) := by decide +kernel
theorem dX9_processAt_1 : decode cX9_processAt 1 = .ok (.lstore 5, 2) := by decide +kernel
theorem dX9_processAt_3 : decode cX9_processAt 3 = .ok (.iconst 0, 1) := by decide +kernel
theorem dX9_processAt_4 : decode cX9_processAt 4 = .ok (.istore 7, 2) := by decide +kernel
theorem dX9_processAt_6 : decode cX9_processAt 6 = .ok (.iconst (-1), 1) := by decide +kernel
theorem dX9_processAt_7 : decode cX9_processAt 7 = .ok (.istore 8, 2) := by decide +kernel
theorem dX9_processAt_9 : decode cX9_processAt 9 = .ok (.iconst 0, 1) := by decide +kernel
theorem dX9_processAt_10 : decode cX9_processAt 10 = .ok (.istore 9, 2) := by decide +kernel
theorem dX9_processAt_12 : decode cX9_processAt 12 = .ok (.iload 9, 2) := by decide +kernel
theorem dX9_processAt_14 : decode cX9_processAt 14 = .ok (.iload 4, 2) := by decide +kernel
theorem dX9_processAt_16 : decode cX9_processAt 16 = .ok (.if_icmp .gt 79, 3) := by decide +kernel
theorem dX9_processAt_19 : decode cX9_processAt 19 = .ok (.iload 9, 2) := by decide +kernel
theorem dX9_processAt_21 : decode cX9_processAt 21 = .ok (.bipush 24, 2) := by decide +kernel
theorem dX9_processAt_23 : decode cX9_processAt 23 = .ok (.if_icmp .ge 72, 3) := by decide +kernel
theorem dX9_processAt_26 : decode cX9_processAt 26 = .ok (.iconst 0, 1) := by decide +kernel
theorem dX9_processAt_27 : decode cX9_processAt 27 = .ok (.istore 8, 2) := by decide +kernel
theorem dX9_processAt_29 : decode cX9_processAt 29 = .ok (.iload 8, 2) := by decide +kernel
theorem dX9_processAt_31 : decode cX9_processAt 31 = .ok (.iconst 4, 1) := by decide +kernel
theorem dX9_processAt_32 : decode cX9_processAt 32 = .ok (.if_icmp .ge 38, 3) := by decide +kernel
theorem dX9_processAt_35 : decode cX9_processAt 35 = .ok (.lload 5, 2) := by decide +kernel
theorem dX9_processAt_37 : decode cX9_processAt 37 = .ok (.aload_n 0, 1) := by decide +kernel
theorem dX9_processAt_38 : decode cX9_processAt 38 = .ok (.aload_n 1, 1) := by decide +kernel
theorem dX9_processAt_39 : decode cX9_processAt 39 = .ok (.iload 7, 2) := by decide +kernel
theorem dX9_processAt_41 : decode cX9_processAt 41 = .ok (.iload 8, 2) := by decide +kernel
theorem dX9_processAt_43 : decode cX9_processAt 43 = .ok (.invokevirtual 38, 3) := by decide +kernel
theorem dX9_processAt_46 : decode cX9_processAt 46 = .ok (.lcmp, 1) := by decide +kernel
theorem dX9_processAt_47 : decode cX9_processAt 47 = .ok (.ifCond .lt 23, 3) := by decide +kernel
theorem dX9_processAt_50 : decode cX9_processAt 50 = .ok (.lload 5, 2) := by decide +kernel
theorem dX9_processAt_52 : decode cX9_processAt 52 = .ok (.aload_n 0, 1) := by decide +kernel
theorem dX9_processAt_53 : decode cX9_processAt 53 = .ok (.aload_n 1, 1) := by decide +kernel
theorem dX9_processAt_54 : decode cX9_processAt 54 = .ok (.iload 7, 2) := by decide +kernel
theorem dX9_processAt_56 : decode cX9_processAt 56 = .ok (.iload 8, 2) := by decide +kernel
theorem dX9_processAt_58 : decode cX9_processAt 58 = .ok (.invokevirtual 38, 3) := by decide +kernel
theorem dX9_processAt_61 : decode cX9_processAt 61 = .ok (.lsub, 1) := by decide +kernel
theorem dX9_processAt_62 : decode cX9_processAt 62 = .ok (.lstore 5, 2) := by decide +kernel
theorem dX9_processAt_64 : decode cX9_processAt 64 = .ok (.iinc 8 1, 3) := by decide +kernel
theorem dX9_processAt_67 : decode cX9_processAt 67 = .ok (.goto (-38), 3) := by decide +kernel
theorem dX9_processAt_70 : decode cX9_processAt 70 = .ok (.iload 8, 2) := by decide +kernel
theorem dX9_processAt_72 : decode cX9_processAt 72 = .ok (.iconst 4, 1) := by decide +kernel
theorem dX9_processAt_73 : decode cX9_processAt 73 = .ok (.if_icmp .ne 5, 3) := by decide +kernel
theorem dX9_processAt_76 : decode cX9_processAt 76 = .ok (.iconst (-1), 1) := by decide +kernel
theorem dX9_processAt_77 : decode cX9_processAt 77 = .ok (.ireturn, 1) := by decide +kernel
theorem dX9_processAt_78 : decode cX9_processAt 78 = .ok (.iload 7, 2) := by decide +kernel
theorem dX9_processAt_80 : decode cX9_processAt 80 = .ok (.getstatic 46, 3) := by decide +kernel
theorem dX9_processAt_83 : decode cX9_processAt 83 = .ok (.iload 8, 2) := by decide +kernel
theorem dX9_processAt_85 : decode cX9_processAt 85 = .ok (.iaload, 1) := by decide +kernel
theorem dX9_processAt_86 : decode cX9_processAt 86 = .ok (.iadd, 1) := by decide +kernel
theorem dX9_processAt_87 : decode cX9_processAt 87 = .ok (.istore 7, 2) := by decide +kernel
theorem dX9_processAt_89 : decode cX9_processAt 89 = .ok (.iinc 9 1, 3) := by decide +kernel
theorem dX9_processAt_92 : decode cX9_processAt 92 = .ok (.goto (-80), 3) := by decide +kernel
theorem dX9_processAt_95 : decode cX9_processAt 95 = .ok (.iload 8, 2) := by decide +kernel
theorem dX9_processAt_97 : decode cX9_processAt 97 = .ok (.ireturn, 1) := by decide +kernel
theorem dX10_init_0 : decode cX10_init 0 = .ok (.aload_n 0, 1) := by decide +kernel
theorem dX10_init_1 : decode cX10_init 1 = .ok (.invokespecial 1, 3) := by decide +kernel
theorem dX10_init_4 : decode cX10_init 4 = .ok (.aload_n 0, 1) := by decide +kernel
theorem dX10_init_5 : decode cX10_init 5 = .ok (.new 7, 3) := by decide +kernel
theorem dX10_init_8 : decode cX10_init 8 = .ok (.dup, 1) := by decide +kernel
theorem dX10_init_9 : decode cX10_init 9 = .ok (.invokespecial 9, 3) := by decide +kernel
theorem dX10_init_12 : decode cX10_init 12 = .ok (.putfield 10, 3) := by decide +kernel
theorem dX10_init_15 : decode cX10_init 15 = .ok (.aload_n 0, 1) := by decide +kernel
theorem dX10_init_16 : decode cX10_init 16 = .ok (.new 16, 3) := by decide +kernel
theorem dX10_init_19 : decode cX10_init 19 = .ok (.dup, 1) := by decide +kernel
theorem dX10_init_20 : decode cX10_init 20 = .ok (.aload_n 0, 1) := by decide +kernel
theorem dX10_init_21 : decode cX10_init 21 = .ok (.getfield 10, 3) := by decide +kernel
theorem dX10_init_24 : decode cX10_init 24 = .ok (.invokespecial 18, 3) := by decide +kernel
theorem dX10_init_27 : decode cX10_init 27 = .ok (.putfield 21, 3) := by decide +kernel
theorem dX10_init_30 : decode cX10_init 30 = .ok (.aload_n 0, 1) := by decide +kernel
theorem dX10_init_31 : decode cX10_init 31 = .ok (.new 25, 3) := by decide +kernel
theorem dX10_init_34 : decode cX10_init 34 = .ok (.dup, 1) := by decide +kernel
theorem dX10_init_35 : decode cX10_init 35 = .ok (.invokespecial 27, 3) := by decide +kernel
theorem dX10_init_38 : decode cX10_init 38 = .ok (.putfield 28, 3) := by decide +kernel
theorem dX10_init_41 : decode cX10_init 41 = .ok (.aload_n 0, 1) := by decide +kernel
theorem dX10_init_42 : decode cX10_init 42 = .ok (.new 32, 3) := by decide +kernel
theorem dX10_init_45 : decode cX10_init 45 = .ok (.dup, 1) := by decide +kernel
theorem dX10_init_46 : decode cX10_init 46 = .ok (.invokespecial 34, 3) := by decide +kernel
theorem dX10_init_49 : decode cX10_init 49 = .ok (.putfield 35, 3) := by decide +kernel
theorem dX10_init_52 : decode cX10_init 52 = .ok (.aload_n 0, 1) := by decide +kernel
theorem dX10_init_53 : decode cX10_init 53 = .ok (.new 39, 3) := by decide +kernel
theorem dX10_init_56 : decode cX10_init 56 = .ok (.dup, 1) := by decide +kernel
theorem dX10_init_57 : decode cX10_init 57 = .ok (.aload_n 0, 1) := by decide +kernel
theorem dX10_init_58 : decode cX10_init 58 = .ok (.getfield 10, 3) := by decide +kernel
theorem dX10_init_61 : decode cX10_init 61 = .ok (.invokespecial 41, 3) := by decide +kernel
theorem dX10_init_64 : decode cX10_init 64 = .ok (.putfield 42, 3) := by decide +kernel
theorem dX10_init_67 : decode cX10_init 67 = .ok (.aload_n 0, 1) := by decide +kernel
theorem dX10_init_68 : decode cX10_init 68 = .ok (.new 46, 3) := by decide +kernel
theorem dX10_init_71 : decode cX10_init 71 = .ok (.dup, 1) := by decide +kernel
theorem dX10_init_72 : decode cX10_init 72 = .ok (.aload_n 0, 1) := by decide +kernel
theorem dX10_init_73 : decode cX10_init 73 = .ok (.getfield 42, 3) := by decide +kernel
theorem dX10_init_76 : decode cX10_init 76 = .ok (.invokespecial 48, 3) := by decide +kernel
theorem dX10_init_79 : decode cX10_init 79 = .ok (.putfield 51, 3) := by decide +kernel
theorem dX10_init_82 : decode cX10_init 82 = .ok (.aload_n 0, 1) := by decide +kernel
theorem dX10_init_83 : decode cX10_init 83 = .ok (.new 55, 3) := by decide +kernel
theorem dX10_init_86 : decode cX10_init 86 = .ok (.dup, 1) := by decide +kernel
theorem dX10_init_87 : decode cX10_init 87 = .ok (.invokespecial 57, 3) := by decide +kernel
theorem dX10_init_90 : decode cX10_init 90 = .ok (.putfield 58, 3) := by decide +kernel
theorem dX10_init_93 : decode cX10_init 93 = .ok (.aload_n 0, 1) := by decide +kernel
theorem dX10_init_94 : decode cX10_init 94 = .ok (.new 62, 3) := by decide +kernel
theorem dX10_init_97 : decode cX10_init 97 = .ok (.dup, 1) := by decide +kernel
theorem dX10_init_98 : decode cX10_init 98 = .ok (.invokespecial 64, 3) := by decide +kernel
theorem dX10_init_101 : decode cX10_init 101 = .ok (.putfield 65, 3) := by decide +kernel
theorem dX10_init_104 : decode cX10_init 104 = .ok (.aload_n 0, 1) := by decide +kernel
theorem dX10_init_105 : decode cX10_init 105 = .ok (.iconst 0, 1) := by decide +kernel
theorem dX10_init_106 : decode cX10_init 106 = .ok (.putfield 69, 3) := by decide +kernel
theorem dX10_init_109 : decode cX10_init 109 = .ok (.return_, 1) := by decide +kernel
theorem dX10_process_0 : decode cX10_process 0 = .ok (.aload_n 0, 1) := by decide +kernel
theorem dX10_process_1 : decode cX10_process 1 = .ok (.getfield 10, 3) := by decide +kernel
theorem dX10_process_4 : decode cX10_process 4 = .ok (.getfield 73, 3) := by decide +kernel
theorem dX10_process_7 : decode cX10_process 7 = .ok (.iconst 4, 1) := by decide +kernel
theorem dX10_process_8 : decode cX10_process 8 = .ok (.if_icmp .lt 6, 3) := by decide +kernel
theorem dX10_process_11 : decode cX10_process 11 = .ok (.bipush (-4), 2) := by decide +kernel
theorem dX10_process_13 : decode cX10_process 13 = .ok (.ireturn, 1) := by decide +kernel
theorem dX10_process_14 : decode cX10_process 14 = .ok (.aload_n 0, 1) := by decide +kernel
theorem dX10_process_15 : decode cX10_process 15 = .ok (.getfield 10, 3) := by decide +kernel
theorem dX10_process_18 : decode cX10_process 18 = .ok (.dup, 1) := by decide +kernel
theorem dX10_process_19 : decode cX10_process 19 = .ok (.getfield 73, 3) := by decide +kernel
theorem dX10_process_22 : decode cX10_process 22 = .ok (.iconst 1, 1) := by decide +kernel
theorem dX10_process_23 : decode cX10_process 23 = .ok (.iadd, 1) := by decide +kernel
theorem dX10_process_24 : decode cX10_process 24 = .ok (.putfield 73, 3) := by decide +kernel
theorem dX10_process_27 : decode cX10_process 27 = .ok (.aload_n 0, 1) := by decide +kernel
theorem dX10_process_28 : decode cX10_process 28 = .ok (.getfield 10, 3) := by decide +kernel
theorem dX10_process_31 : decode cX10_process 31 = .ok (.getfield 73, 3) := by decide +kernel
theorem dX10_process_34 : decode cX10_process 34 = .ok (.iconst 1, 1) := by decide +kernel
theorem dX10_process_35 : decode cX10_process 35 = .ok (.isub, 1) := by decide +kernel
theorem dX10_process_36 : decode cX10_process 36 = .ok (.ireturn, 1) := by decide +kernel
theorem dX10_own_0 : decode cX10_own 0 = .ok (.aload_n 0, 1) := by decide +kernel
theorem dX10_own_1 : decode cX10_own 1 = .ok (.getfield 10, 3) := by decide +kernel
theorem dX10_own_4 : decode cX10_own 4 = .ok (.iload_n 1, 1) := by decide +kernel
theorem dX10_own_5 : decode cX10_own 5 = .ok (.invokevirtual 76, 3) := by decide +kernel
theorem dX10_own_8 : decode cX10_own 8 = .ok (.ifCond .eq 12, 3) := by decide +kernel
theorem dX10_own_11 : decode cX10_own 11 = .ok (.iload_n 2, 1) := by decide +kernel
theorem dX10_own_12 : decode cX10_own 12 = .ok (.ifCond .lt 8, 3) := by decide +kernel
theorem dX10_own_15 : decode cX10_own 15 = .ok (.iload_n 2, 1) := by decide +kernel
theorem dX10_own_16 : decode cX10_own 16 = .ok (.iconst 3, 1) := by decide +kernel
theorem dX10_own_17 : decode cX10_own 17 = .ok (.if_icmp .lt 5, 3) := by decide +kernel
theorem dX10_own_20 : decode cX10_own 20 = .ok (.iconst (-1), 1) := by decide +kernel
theorem dX10_own_21 : decode cX10_own 21 = .ok (.ireturn, 1) := by decide +kernel
theorem dX10_own_22 : decode cX10_own 22 = .ok (.iload 4, 2) := by decide +kernel
theorem dX10_own_24 : decode cX10_own 24 = .ok (.ifCond .eq 12, 3) := by decide +kernel
theorem dX10_own_27 : decode cX10_own 27 = .ok (.iload 4, 2) := by decide +kernel
theorem dX10_own_29 : decode cX10_own 29 = .ok (.iconst 1, 1) := by decide +kernel
theorem dX10_own_30 : decode cX10_own 30 = .ok (.if_icmp .eq 6, 3) := by decide +kernel
theorem dX10_own_33 : decode cX10_own 33 = .ok (.bipush (-2), 2) := by decide +kernel
theorem dX10_own_35 : decode cX10_own 35 = .ok (.ireturn, 1) := by decide +kernel
theorem dX10_own_36 : decode cX10_own 36 = .ok (.aload_n 0, 1) := by decide +kernel
theorem dX10_own_37 : decode cX10_own 37 = .ok (.getfield 10, 3) := by decide +kernel
theorem dX10_own_40 : decode cX10_own 40 = .ok (.iload_n 1, 1) := by decide +kernel
theorem dX10_own_41 : decode cX10_own 41 = .ok (.invokevirtual 80, 3) := by decide +kernel
theorem dX10_own_44 : decode cX10_own 44 = .ok (.ifCond .eq 6, 3) := by decide +kernel
theorem dX10_own_47 : decode cX10_own 47 = .ok (.bipush (-4), 2) := by decide +kernel
theorem dX10_own_49 : decode cX10_own 49 = .ok (.ireturn, 1) := by decide +kernel
theorem dX10_own_50 : decode cX10_own 50 = .ok (.aload_n 0, 1) := by decide +kernel
theorem dX10_own_51 : decode cX10_own 51 = .ok (.getfield 10, 3) := by decide +kernel
theorem dX10_own_54 : decode cX10_own 54 = .ok (.iload_n 1, 1) := by decide +kernel
theorem dX10_own_55 : decode cX10_own 55 = .ok (.iload_n 2, 1) := by decide +kernel
theorem dX10_own_56 : decode cX10_own 56 = .ok (.iload_n 3, 1) := by decide +kernel
theorem dX10_own_57 : decode cX10_own 57 = .ok (.iload 4, 2) := by decide +kernel
theorem dX10_own_59 : decode cX10_own 59 = .ok (.iconst 1, 1) := by decide +kernel
theorem dX10_own_60 : decode cX10_own 60 = .ok (.if_icmp .ne 7, 3) := by decide +kernel
theorem dX10_own_63 : decode cX10_own 63 = .ok (.iconst 1, 1) := by decide +kernel
theorem dX10_own_64 : decode cX10_own 64 = .ok (.goto 4, 3) := by decide +kernel
theorem dX10_own_67 : decode cX10_own 67 = .ok (.iconst 0, 1) := by decide +kernel
theorem dX10_own_68 : decode cX10_own 68 = .ok (.invokevirtual 83, 3) := by decide +kernel
theorem dX10_own_71 : decode cX10_own 71 = .ok (.ireturn, 1) := by decide +kernel
theorem dX10_send_0 : decode cX10_send 0 = .ok (.aload_n 0, 1) := by decide +kernel
theorem dX10_send_1 : decode cX10_send 1 = .ok (.iload_n 1, 1) := by decide +kernel
theorem dX10_send_2 : decode cX10_send 2 = .ok (.iload_n 2, 1) := by decide +kernel
theorem dX10_send_3 : decode cX10_send 3 = .ok (.invokevirtual 87, 3) := by decide +kernel
theorem dX10_send_6 : decode cX10_send 6 = .ok (.istore_n 3, 1) := by decide +kernel
theorem dX10_send_7 : decode cX10_send 7 = .ok (.iload_n 3, 1) := by decide +kernel
theorem dX10_send_8 : decode cX10_send 8 = .ok (.ifCond .eq 7, 3) := by decide +kernel
theorem dX10_send_11 : decode cX10_send 11 = .ok (.iload_n 3, 1) := by decide +kernel
theorem dX10_send_12 : decode cX10_send 12 = .ok (.goto 12, 3) := by decide +kernel
theorem dX10_send_15 : decode cX10_send 15 = .ok (.aload_n 0, 1) := by decide +kernel
theorem dX10_send_16 : decode cX10_send 16 = .ok (.getfield 10, 3) := by decide +kernel
theorem dX10_send_19 : decode cX10_send 19 = .ok (.iload_n 1, 1) := by decide +kernel
theorem dX10_send_20 : decode cX10_send 20 = .ok (.iload_n 2, 1) := by decide +kernel
theorem dX10_send_21 : decode cX10_send 21 = .ok (.invokevirtual 91, 3) := by decide +kernel
theorem dX10_send_24 : decode cX10_send 24 = .ok (.ireturn, 1) := by decide +kernel
theorem dX10_take_0 : decode cX10_take 0 = .ok (.aload_n 0, 1) := by decide +kernel
theorem dX10_take_1 : decode cX10_take 1 = .ok (.getfield 10, 3) := by decide +kernel
theorem dX10_take_4 : decode cX10_take 4 = .ok (.getfield 94, 3) := by decide +kernel
theorem dX10_take_7 : decode cX10_take 7 = .ok (.astore_n 2, 1) := by decide +kernel
theorem dX10_take_8 : decode cX10_take 8 = .ok (.aload_n 2, 1) := by decide +kernel
theorem dX10_take_9 : decode cX10_take 9 = .ok (.iload_n 1, 1) := by decide +kernel
theorem dX10_take_10 : decode cX10_take 10 = .ok (.invokevirtual 98, 3) := by decide +kernel
theorem dX10_take_13 : decode cX10_take 13 = .ok (.ifCond .ne 5, 3) := by decide +kernel
theorem dX10_take_16 : decode cX10_take 16 = .ok (.iconst (-1), 1) := by decide +kernel
theorem dX10_take_17 : decode cX10_take 17 = .ok (.ireturn, 1) := by decide +kernel
theorem dX10_take_18 : decode cX10_take 18 = .ok (.aload_n 2, 1) := by decide +kernel
theorem dX10_take_19 : decode cX10_take 19 = .ok (.getfield 103, 3) := by decide +kernel
theorem dX10_take_22 : decode cX10_take 22 = .ok (.iload_n 1, 1) := by decide +kernel
theorem dX10_take_23 : decode cX10_take 23 = .ok (.iaload, 1) := by decide +kernel
theorem dX10_take_24 : decode cX10_take 24 = .ok (.iconst (-1), 1) := by decide +kernel
theorem dX10_take_25 : decode cX10_take 25 = .ok (.if_icmp .eq 6, 3) := by decide +kernel
theorem dX10_take_28 : decode cX10_take 28 = .ok (.bipush (-3), 2) := by decide +kernel
theorem dX10_take_30 : decode cX10_take 30 = .ok (.ireturn, 1) := by decide +kernel
theorem dX10_take_31 : decode cX10_take 31 = .ok (.aload_n 0, 1) := by decide +kernel
theorem dX10_take_32 : decode cX10_take 32 = .ok (.getfield 10, 3) := by decide +kernel
theorem dX10_take_35 : decode cX10_take 35 = .ok (.aload_n 2, 1) := by decide +kernel
theorem dX10_take_36 : decode cX10_take 36 = .ok (.getfield 107, 3) := by decide +kernel
theorem dX10_take_39 : decode cX10_take 39 = .ok (.iload_n 1, 1) := by decide +kernel
theorem dX10_take_40 : decode cX10_take 40 = .ok (.iaload, 1) := by decide +kernel
theorem dX10_take_41 : decode cX10_take 41 = .ok (.invokevirtual 80, 3) := by decide +kernel
theorem dX10_take_44 : decode cX10_take 44 = .ok (.ifCond .eq 6, 3) := by decide +kernel
theorem dX10_take_47 : decode cX10_take 47 = .ok (.bipush (-4), 2) := by decide +kernel
theorem dX10_take_49 : decode cX10_take 49 = .ok (.ireturn, 1) := by decide +kernel
theorem dX10_take_50 : decode cX10_take 50 = .ok (.aload_n 0, 1) := by decide +kernel
theorem dX10_take_51 : decode cX10_take 51 = .ok (.getfield 10, 3) := by decide +kernel
theorem dX10_take_54 : decode cX10_take 54 = .ok (.iload_n 1, 1) := by decide +kernel
theorem dX10_take_55 : decode cX10_take 55 = .ok (.invokevirtual 110, 3) := by decide +kernel
theorem dX10_take_58 : decode cX10_take 58 = .ok (.ireturn, 1) := by decide +kernel
theorem dX10_wait_0 : decode cX10_wait 0 = .ok (.aload_n 0, 1) := by decide +kernel
theorem dX10_wait_1 : decode cX10_wait 1 = .ok (.iload_n 1, 1) := by decide +kernel
theorem dX10_wait_2 : decode cX10_wait 2 = .ok (.iload_n 2, 1) := by decide +kernel
theorem dX10_wait_3 : decode cX10_wait 3 = .ok (.invokevirtual 87, 3) := by decide +kernel
theorem dX10_wait_6 : decode cX10_wait 6 = .ok (.istore_n 3, 1) := by decide +kernel
theorem dX10_wait_7 : decode cX10_wait 7 = .ok (.iload_n 3, 1) := by decide +kernel
theorem dX10_wait_8 : decode cX10_wait 8 = .ok (.ifCond .eq 7, 3) := by decide +kernel
theorem dX10_wait_11 : decode cX10_wait 11 = .ok (.iload_n 3, 1) := by decide +kernel
theorem dX10_wait_12 : decode cX10_wait 12 = .ok (.goto 12, 3) := by decide +kernel
theorem dX10_wait_15 : decode cX10_wait 15 = .ok (.aload_n 0, 1) := by decide +kernel
theorem dX10_wait_16 : decode cX10_wait 16 = .ok (.getfield 10, 3) := by decide +kernel
theorem dX10_wait_19 : decode cX10_wait 19 = .ok (.iload_n 1, 1) := by decide +kernel
theorem dX10_wait_20 : decode cX10_wait 20 = .ok (.iload_n 2, 1) := by decide +kernel
theorem dX10_wait_21 : decode cX10_wait 21 = .ok (.invokevirtual 114, 3) := by decide +kernel
theorem dX10_wait_24 : decode cX10_wait 24 = .ok (.ireturn, 1) := by decide +kernel
theorem dX10_refusalOfPair_0 : decode cX10_refusalOfPair 0 = .ok (.aload_n 0, 1) := by decide +kernel
theorem dX10_refusalOfPair_1 : decode cX10_refusalOfPair 1 = .ok (.getfield 10, 3) := by decide +kernel
theorem dX10_refusalOfPair_4 : decode cX10_refusalOfPair 4 = .ok (.iload_n 1, 1) := by decide +kernel
theorem dX10_refusalOfPair_5 : decode cX10_refusalOfPair 5 = .ok (.invokevirtual 76, 3) := by decide +kernel
theorem dX10_refusalOfPair_8 : decode cX10_refusalOfPair 8 = .ok (.ifCond .eq 14, 3) := by decide +kernel
theorem dX10_refusalOfPair_11 : decode cX10_refusalOfPair 11 = .ok (.aload_n 0, 1) := by decide +kernel
theorem dX10_refusalOfPair_12 : decode cX10_refusalOfPair 12 = .ok (.getfield 10, 3) := by decide +kernel
theorem dX10_refusalOfPair_15 : decode cX10_refusalOfPair 15 = .ok (.iload_n 2, 1) := by decide +kernel
theorem dX10_refusalOfPair_16 : decode cX10_refusalOfPair 16 = .ok (.invokevirtual 76, 3) := by decide +kernel
theorem dX10_refusalOfPair_19 : decode cX10_refusalOfPair 19 = .ok (.ifCond .ne 5, 3) := by decide +kernel
theorem dX10_refusalOfPair_22 : decode cX10_refusalOfPair 22 = .ok (.iconst (-1), 1) := by decide +kernel
theorem dX10_refusalOfPair_23 : decode cX10_refusalOfPair 23 = .ok (.ireturn, 1) := by decide +kernel
theorem dX10_refusalOfPair_24 : decode cX10_refusalOfPair 24 = .ok (.iload_n 1, 1) := by decide +kernel
theorem dX10_refusalOfPair_25 : decode cX10_refusalOfPair 25 = .ok (.iload_n 2, 1) := by decide +kernel
theorem dX10_refusalOfPair_26 : decode cX10_refusalOfPair 26 = .ok (.if_icmp .ne 6, 3) := by decide +kernel
theorem dX10_refusalOfPair_29 : decode cX10_refusalOfPair 29 = .ok (.bipush (-2), 2) := by decide +kernel
theorem dX10_refusalOfPair_31 : decode cX10_refusalOfPair 31 = .ok (.ireturn, 1) := by decide +kernel
theorem dX10_refusalOfPair_32 : decode cX10_refusalOfPair 32 = .ok (.aload_n 0, 1) := by decide +kernel
theorem dX10_refusalOfPair_33 : decode cX10_refusalOfPair 33 = .ok (.getfield 10, 3) := by decide +kernel
theorem dX10_refusalOfPair_36 : decode cX10_refusalOfPair 36 = .ok (.iload_n 1, 1) := by decide +kernel
theorem dX10_refusalOfPair_37 : decode cX10_refusalOfPair 37 = .ok (.invokevirtual 80, 3) := by decide +kernel
theorem dX10_refusalOfPair_40 : decode cX10_refusalOfPair 40 = .ok (.ifCond .eq 8, 3) := by decide +kernel
theorem dX10_refusalOfPair_43 : decode cX10_refusalOfPair 43 = .ok (.bipush (-4), 2) := by decide +kernel
theorem dX10_refusalOfPair_45 : decode cX10_refusalOfPair 45 = .ok (.goto 4, 3) := by decide +kernel
theorem dX10_refusalOfPair_48 : decode cX10_refusalOfPair 48 = .ok (.iconst 0, 1) := by decide +kernel
theorem dX10_refusalOfPair_49 : decode cX10_refusalOfPair 49 = .ok (.ireturn, 1) := by decide +kernel
