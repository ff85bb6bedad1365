theorem dX11_send_0 : decode cX11_send 0 = .ok (.aload_n 0, 1) := by decide +kernel
theorem dX11_send_1 : decode cX11_send 1 = .ok (.iload_n 1, 1) := by decide +kernel
theorem dX11_send_2 : decode cX11_send 2 = .ok (.invokevirtual 83, 3) := by decide +kernel
theorem dX11_send_5 : decode cX11_send 5 = .ok (.ifCond .eq 11, 3) := by decide +kernel
theorem dX11_send_8 : decode cX11_send 8 = .ok (.aload_n 0, 1) := by decide +kernel
theorem dX11_send_9 : decode cX11_send 9 = .ok (.iload_n 2, 1) := by decide +kernel
theorem dX11_send_10 : decode cX11_send 10 = .ok (.invokevirtual 83, 3) := by decide +kernel
theorem dX11_send_13 : decode cX11_send 13 = .ok (.ifCond .ne 5, 3) := by decide +kernel
theorem dX11_send_16 : decode cX11_send 16 = .ok (.iconst (-1), 1) := by decide +kernel
theorem dX11_send_17 : decode cX11_send 17 = .ok (.ireturn, 1) := by decide +kernel
theorem dX11_send_18 : decode cX11_send 18 = .ok (.iload_n 1, 1) := by decide +kernel
theorem dX11_send_19 : decode cX11_send 19 = .ok (.iload_n 2, 1) := by decide +kernel
theorem dX11_send_20 : decode cX11_send 20 = .ok (.if_icmp .ne 6, 3) := by decide +kernel
theorem dX11_send_23 : decode cX11_send 23 = .ok (.bipush (-2), 2) := by decide +kernel
theorem dX11_send_25 : decode cX11_send 25 = .ok (.ireturn, 1) := by decide +kernel
theorem dX11_send_26 : decode cX11_send 26 = .ok (.aload_n 0, 1) := by decide +kernel
theorem dX11_send_27 : decode cX11_send 27 = .ok (.getfield 7, 3) := by decide +kernel
theorem dX11_send_30 : decode cX11_send 30 = .ok (.iload_n 1, 1) := by decide +kernel
theorem dX11_send_31 : decode cX11_send 31 = .ok (.iaload, 1) := by decide +kernel
theorem dX11_send_32 : decode cX11_send 32 = .ok (.bipush 6, 2) := by decide +kernel
theorem dX11_send_34 : decode cX11_send 34 = .ok (.if_icmp .ne 6, 3) := by decide +kernel
theorem dX11_send_37 : decode cX11_send 37 = .ok (.bipush (-4), 2) := by decide +kernel
theorem dX11_send_39 : decode cX11_send 39 = .ok (.ireturn, 1) := by decide +kernel
theorem dX11_send_40 : decode cX11_send 40 = .ok (.aload_n 0, 1) := by decide +kernel
theorem dX11_send_41 : decode cX11_send 41 = .ok (.getfield 28, 3) := by decide +kernel
theorem dX11_send_44 : decode cX11_send 44 = .ok (.aload_n 0, 1) := by decide +kernel
theorem dX11_send_45 : decode cX11_send 45 = .ok (.getfield 94, 3) := by decide +kernel
theorem dX11_send_48 : decode cX11_send 48 = .ok (.iload_n 1, 1) := by decide +kernel
theorem dX11_send_49 : decode cX11_send 49 = .ok (.iastore, 1) := by decide +kernel
theorem dX11_send_50 : decode cX11_send 50 = .ok (.aload_n 0, 1) := by decide +kernel
theorem dX11_send_51 : decode cX11_send 51 = .ok (.getfield 31, 3) := by decide +kernel
theorem dX11_send_54 : decode cX11_send 54 = .ok (.aload_n 0, 1) := by decide +kernel
theorem dX11_send_55 : decode cX11_send 55 = .ok (.getfield 94, 3) := by decide +kernel
theorem dX11_send_58 : decode cX11_send 58 = .ok (.iload_n 2, 1) := by decide +kernel
theorem dX11_send_59 : decode cX11_send 59 = .ok (.iastore, 1) := by decide +kernel
theorem dX11_send_60 : decode cX11_send 60 = .ok (.aload_n 0, 1) := by decide +kernel
theorem dX11_send_61 : decode cX11_send 61 = .ok (.getfield 34, 3) := by decide +kernel
theorem dX11_send_64 : decode cX11_send 64 = .ok (.aload_n 0, 1) := by decide +kernel
theorem dX11_send_65 : decode cX11_send 65 = .ok (.getfield 94, 3) := by decide +kernel
theorem dX11_send_68 : decode cX11_send 68 = .ok (.aload_n 0, 1) := by decide +kernel
theorem dX11_send_69 : decode cX11_send 69 = .ok (.getfield 7, 3) := by decide +kernel
theorem dX11_send_72 : decode cX11_send 72 = .ok (.iload_n 1, 1) := by decide +kernel
theorem dX11_send_73 : decode cX11_send 73 = .ok (.iaload, 1) := by decide +kernel
theorem dX11_send_74 : decode cX11_send 74 = .ok (.iastore, 1) := by decide +kernel
theorem dX11_send_75 : decode cX11_send 75 = .ok (.aload_n 0, 1) := by decide +kernel
theorem dX11_send_76 : decode cX11_send 76 = .ok (.getfield 37, 3) := by decide +kernel
theorem dX11_send_79 : decode cX11_send 79 = .ok (.aload_n 0, 1) := by decide +kernel
theorem dX11_send_80 : decode cX11_send 80 = .ok (.getfield 94, 3) := by decide +kernel
theorem dX11_send_83 : decode cX11_send 83 = .ok (.iconst (-1), 1) := by decide +kernel
theorem dX11_send_84 : decode cX11_send 84 = .ok (.iastore, 1) := by decide +kernel
theorem dX11_send_85 : decode cX11_send 85 = .ok (.aload_n 0, 1) := by decide +kernel
theorem dX11_send_86 : decode cX11_send 86 = .ok (.iload_n 1, 1) := by decide +kernel
theorem dX11_send_87 : decode cX11_send 87 = .ok (.iconst 2, 1) := by decide +kernel
theorem dX11_send_88 : decode cX11_send 88 = .ok (.aload_n 0, 1) := by decide +kernel
theorem dX11_send_89 : decode cX11_send 89 = .ok (.getfield 94, 3) := by decide +kernel
theorem dX11_send_92 : decode cX11_send 92 = .ok (.iconst 0, 1) := by decide +kernel
theorem dX11_send_93 : decode cX11_send 93 = .ok (.invokevirtual 90, 3) := by decide +kernel
theorem dX11_send_96 : decode cX11_send 96 = .ok (.istore_n 3, 1) := by decide +kernel
theorem dX11_send_97 : decode cX11_send 97 = .ok (.aload_n 0, 1) := by decide +kernel
theorem dX11_send_98 : decode cX11_send 98 = .ok (.dup, 1) := by decide +kernel
theorem dX11_send_99 : decode cX11_send 99 = .ok (.getfield 94, 3) := by decide +kernel
theorem dX11_send_102 : decode cX11_send 102 = .ok (.iconst 1, 1) := by decide +kernel
theorem dX11_send_103 : decode cX11_send 103 = .ok (.iadd, 1) := by decide +kernel
theorem dX11_send_104 : decode cX11_send 104 = .ok (.putfield 94, 3) := by decide +kernel
theorem dX11_send_107 : decode cX11_send 107 = .ok (.aload_n 0, 1) := by decide +kernel
theorem dX11_send_108 : decode cX11_send 108 = .ok (.getfield 94, 3) := by decide +kernel
theorem dX11_send_111 : decode cX11_send 111 = .ok (.iconst 1, 1) := by decide +kernel
theorem dX11_send_112 : decode cX11_send 112 = .ok (.isub, 1) := by decide +kernel
theorem dX11_send_113 : decode cX11_send 113 = .ok (.ireturn, 1) := by decide +kernel
theorem dX11_take_0 : decode cX11_take 0 = .ok (.iload_n 1, 1) := by decide +kernel
theorem dX11_take_1 : decode cX11_take 1 = .ok (.iconst 0, 1) := by decide +kernel
theorem dX11_take_2 : decode cX11_take 2 = .ok (.aload_n 0, 1) := by decide +kernel
theorem dX11_take_3 : decode cX11_take 3 = .ok (.getfield 94, 3) := by decide +kernel
theorem dX11_take_6 : decode cX11_take 6 = .ok (.iconst 1, 1) := by decide +kernel
theorem dX11_take_7 : decode cX11_take 7 = .ok (.isub, 1) := by decide +kernel
theorem dX11_take_8 : decode cX11_take 8 = .ok (.invokestatic 79, 3) := by decide +kernel
theorem dX11_take_11 : decode cX11_take 11 = .ok (.ifCond .ne 5, 3) := by decide +kernel
theorem dX11_take_14 : decode cX11_take 14 = .ok (.iconst (-1), 1) := by decide +kernel
theorem dX11_take_15 : decode cX11_take 15 = .ok (.ireturn, 1) := by decide +kernel
theorem dX11_take_16 : decode cX11_take 16 = .ok (.aload_n 0, 1) := by decide +kernel
theorem dX11_take_17 : decode cX11_take 17 = .ok (.getfield 37, 3) := by decide +kernel
theorem dX11_take_20 : decode cX11_take 20 = .ok (.iload_n 1, 1) := by decide +kernel
theorem dX11_take_21 : decode cX11_take 21 = .ok (.iaload, 1) := by decide +kernel
theorem dX11_take_22 : decode cX11_take 22 = .ok (.iconst (-1), 1) := by decide +kernel
theorem dX11_take_23 : decode cX11_take 23 = .ok (.if_icmp .eq 6, 3) := by decide +kernel
theorem dX11_take_26 : decode cX11_take 26 = .ok (.bipush (-3), 2) := by decide +kernel
theorem dX11_take_28 : decode cX11_take 28 = .ok (.ireturn, 1) := by decide +kernel
theorem dX11_take_29 : decode cX11_take 29 = .ok (.aload_n 0, 1) := by decide +kernel
theorem dX11_take_30 : decode cX11_take 30 = .ok (.getfield 31, 3) := by decide +kernel
theorem dX11_take_33 : decode cX11_take 33 = .ok (.iload_n 1, 1) := by decide +kernel
theorem dX11_take_34 : decode cX11_take 34 = .ok (.iaload, 1) := by decide +kernel
theorem dX11_take_35 : decode cX11_take 35 = .ok (.istore_n 2, 1) := by decide +kernel
theorem dX11_take_36 : decode cX11_take 36 = .ok (.aload_n 0, 1) := by decide +kernel
theorem dX11_take_37 : decode cX11_take 37 = .ok (.getfield 7, 3) := by decide +kernel
theorem dX11_take_40 : decode cX11_take 40 = .ok (.iload_n 2, 1) := by decide +kernel
theorem dX11_take_41 : decode cX11_take 41 = .ok (.iaload, 1) := by decide +kernel
theorem dX11_take_42 : decode cX11_take 42 = .ok (.bipush 6, 2) := by decide +kernel
theorem dX11_take_44 : decode cX11_take 44 = .ok (.if_icmp .ne 6, 3) := by decide +kernel
theorem dX11_take_47 : decode cX11_take 47 = .ok (.bipush (-4), 2) := by decide +kernel
theorem dX11_take_49 : decode cX11_take 49 = .ok (.ireturn, 1) := by decide +kernel
theorem dX11_take_50 : decode cX11_take 50 = .ok (.aload_n 0, 1) := by decide +kernel
theorem dX11_take_51 : decode cX11_take 51 = .ok (.getfield 37, 3) := by decide +kernel
theorem dX11_take_54 : decode cX11_take 54 = .ok (.iload_n 1, 1) := by decide +kernel
theorem dX11_take_55 : decode cX11_take 55 = .ok (.aload_n 0, 1) := by decide +kernel
theorem dX11_take_56 : decode cX11_take 56 = .ok (.getfield 7, 3) := by decide +kernel
theorem dX11_take_59 : decode cX11_take 59 = .ok (.iload_n 2, 1) := by decide +kernel
theorem dX11_take_60 : decode cX11_take 60 = .ok (.iaload, 1) := by decide +kernel
theorem dX11_take_61 : decode cX11_take 61 = .ok (.iastore, 1) := by decide +kernel
theorem dX11_take_62 : decode cX11_take 62 = .ok (.aload_n 0, 1) := by decide +kernel
theorem dX11_take_63 : decode cX11_take 63 = .ok (.iload_n 2, 1) := by decide +kernel
theorem dX11_take_64 : decode cX11_take 64 = .ok (.iconst 3, 1) := by decide +kernel
theorem dX11_take_65 : decode cX11_take 65 = .ok (.iload_n 1, 1) := by decide +kernel
theorem dX11_take_66 : decode cX11_take 66 = .ok (.iconst 0, 1) := by decide +kernel
theorem dX11_take_67 : decode cX11_take 67 = .ok (.invokevirtual 90, 3) := by decide +kernel
theorem dX11_take_70 : decode cX11_take 70 = .ok (.istore_n 3, 1) := by decide +kernel
theorem dX11_take_71 : decode cX11_take 71 = .ok (.aload_n 0, 1) := by decide +kernel
theorem dX11_take_72 : decode cX11_take 72 = .ok (.iload_n 3, 1) := by decide +kernel
theorem dX11_take_73 : decode cX11_take 73 = .ok (.bipush 6, 2) := by decide +kernel
theorem dX11_take_75 : decode cX11_take 75 = .ok (.aload_n 0, 1) := by decide +kernel
theorem dX11_take_76 : decode cX11_take 76 = .ok (.getfield 28, 3) := by decide +kernel
theorem dX11_take_79 : decode cX11_take 79 = .ok (.iload_n 1, 1) := by decide +kernel
theorem dX11_take_80 : decode cX11_take 80 = .ok (.iaload, 1) := by decide +kernel
theorem dX11_take_81 : decode cX11_take 81 = .ok (.imul, 1) := by decide +kernel
theorem dX11_take_82 : decode cX11_take 82 = .ok (.aload_n 0, 1) := by decide +kernel
theorem dX11_take_83 : decode cX11_take 83 = .ok (.getfield 34, 3) := by decide +kernel
theorem dX11_take_86 : decode cX11_take 86 = .ok (.iload_n 1, 1) := by decide +kernel
theorem dX11_take_87 : decode cX11_take 87 = .ok (.iaload, 1) := by decide +kernel
theorem dX11_take_88 : decode cX11_take 88 = .ok (.iadd, 1) := by decide +kernel
theorem dX11_take_89 : decode cX11_take 89 = .ok (.invokevirtual 97, 3) := by decide +kernel
theorem dX11_take_92 : decode cX11_take 92 = .ok (.aload_n 0, 1) := by decide +kernel
theorem dX11_take_93 : decode cX11_take 93 = .ok (.getfield 7, 3) := by decide +kernel
theorem dX11_take_96 : decode cX11_take 96 = .ok (.iload_n 2, 1) := by decide +kernel
theorem dX11_take_97 : decode cX11_take 97 = .ok (.iaload, 1) := by decide +kernel
theorem dX11_take_98 : decode cX11_take 98 = .ok (.ireturn, 1) := by decide +kernel
theorem dX11_wait_0 : decode cX11_wait 0 = .ok (.aload_n 0, 1) := by decide +kernel
theorem dX11_wait_1 : decode cX11_wait 1 = .ok (.iload_n 1, 1) := by decide +kernel
theorem dX11_wait_2 : decode cX11_wait 2 = .ok (.invokevirtual 83, 3) := by decide +kernel
theorem dX11_wait_5 : decode cX11_wait 5 = .ok (.ifCond .eq 11, 3) := by decide +kernel
theorem dX11_wait_8 : decode cX11_wait 8 = .ok (.aload_n 0, 1) := by decide +kernel
theorem dX11_wait_9 : decode cX11_wait 9 = .ok (.iload_n 2, 1) := by decide +kernel
theorem dX11_wait_10 : decode cX11_wait 10 = .ok (.invokevirtual 83, 3) := by decide +kernel
theorem dX11_wait_13 : decode cX11_wait 13 = .ok (.ifCond .ne 5, 3) := by decide +kernel
theorem dX11_wait_16 : decode cX11_wait 16 = .ok (.iconst (-1), 1) := by decide +kernel
theorem dX11_wait_17 : decode cX11_wait 17 = .ok (.ireturn, 1) := by decide +kernel
theorem dX11_wait_18 : decode cX11_wait 18 = .ok (.iload_n 1, 1) := by decide +kernel
theorem dX11_wait_19 : decode cX11_wait 19 = .ok (.iload_n 2, 1) := by decide +kernel
theorem dX11_wait_20 : decode cX11_wait 20 = .ok (.if_icmp .ne 6, 3) := by decide +kernel
theorem dX11_wait_23 : decode cX11_wait 23 = .ok (.bipush (-2), 2) := by decide +kernel
theorem dX11_wait_25 : decode cX11_wait 25 = .ok (.ireturn, 1) := by decide +kernel
theorem dX11_wait_26 : decode cX11_wait 26 = .ok (.aload_n 0, 1) := by decide +kernel
theorem dX11_wait_27 : decode cX11_wait 27 = .ok (.getfield 7, 3) := by decide +kernel
theorem dX11_wait_30 : decode cX11_wait 30 = .ok (.iload_n 1, 1) := by decide +kernel
theorem dX11_wait_31 : decode cX11_wait 31 = .ok (.iaload, 1) := by decide +kernel
theorem dX11_wait_32 : decode cX11_wait 32 = .ok (.bipush 6, 2) := by decide +kernel
theorem dX11_wait_34 : decode cX11_wait 34 = .ok (.if_icmp .ne 6, 3) := by decide +kernel
theorem dX11_wait_37 : decode cX11_wait 37 = .ok (.bipush (-4), 2) := by decide +kernel
theorem dX11_wait_39 : decode cX11_wait 39 = .ok (.ireturn, 1) := by decide +kernel
theorem dX11_wait_40 : decode cX11_wait 40 = .ok (.aload_n 0, 1) := by decide +kernel
theorem dX11_wait_41 : decode cX11_wait 41 = .ok (.iload_n 1, 1) := by decide +kernel
theorem dX11_wait_42 : decode cX11_wait 42 = .ok (.iconst 4, 1) := by decide +kernel
theorem dX11_wait_43 : decode cX11_wait 43 = .ok (.iload_n 2, 1) := by decide +kernel
theorem dX11_wait_44 : decode cX11_wait 44 = .ok (.iconst 0, 1) := by decide +kernel
theorem dX11_wait_45 : decode cX11_wait 45 = .ok (.invokevirtual 90, 3) := by decide +kernel
theorem dX11_wait_48 : decode cX11_wait 48 = .ok (.istore_n 3, 1) := by decide +kernel
theorem dX11_wait_49 : decode cX11_wait 49 = .ok (.aload_n 0, 1) := by decide +kernel
theorem dX11_wait_50 : decode cX11_wait 50 = .ok (.getfield 7, 3) := by decide +kernel
theorem dX11_wait_53 : decode cX11_wait 53 = .ok (.iload_n 2, 1) := by decide +kernel
theorem dX11_wait_54 : decode cX11_wait 54 = .ok (.iaload, 1) := by decide +kernel
theorem dX11_wait_55 : decode cX11_wait 55 = .ok (.ifCond .le 21, 3) := by decide +kernel
theorem dX11_wait_58 : decode cX11_wait 58 = .ok (.aload_n 0, 1) := by decide +kernel
theorem dX11_wait_59 : decode cX11_wait 59 = .ok (.iload_n 3, 1) := by decide +kernel
theorem dX11_wait_60 : decode cX11_wait 60 = .ok (.bipush 6, 2) := by decide +kernel
theorem dX11_wait_62 : decode cX11_wait 62 = .ok (.iload_n 2, 1) := by decide +kernel
theorem dX11_wait_63 : decode cX11_wait 63 = .ok (.imul, 1) := by decide +kernel
theorem dX11_wait_64 : decode cX11_wait 64 = .ok (.aload_n 0, 1) := by decide +kernel
theorem dX11_wait_65 : decode cX11_wait 65 = .ok (.getfield 7, 3) := by decide +kernel
theorem dX11_wait_68 : decode cX11_wait 68 = .ok (.iload_n 2, 1) := by decide +kernel
theorem dX11_wait_69 : decode cX11_wait 69 = .ok (.iaload, 1) := by decide +kernel
theorem dX11_wait_70 : decode cX11_wait 70 = .ok (.iadd, 1) := by decide +kernel
theorem dX11_wait_71 : decode cX11_wait 71 = .ok (.iconst 1, 1) := by decide +kernel
theorem dX11_wait_72 : decode cX11_wait 72 = .ok (.isub, 1) := by decide +kernel
theorem dX11_wait_73 : decode cX11_wait 73 = .ok (.invokevirtual 97, 3) := by decide +kernel
theorem dX11_wait_76 : decode cX11_wait 76 = .ok (.aload_n 0, 1) := by decide +kernel
theorem dX11_wait_77 : decode cX11_wait 77 = .ok (.getfield 7, 3) := by decide +kernel
theorem dX11_wait_80 : decode cX11_wait 80 = .ok (.iload_n 1, 1) := by decide +kernel
theorem dX11_wait_81 : decode cX11_wait 81 = .ok (.iaload, 1) := by decide +kernel
theorem dX11_wait_82 : decode cX11_wait 82 = .ok (.ireturn, 1) := by decide +kernel
theorem dX11_undo_0 : decode cX11_undo 0 = .ok (.aload_n 0, 1) := by decide +kernel
theorem dX11_undo_1 : decode cX11_undo 1 = .ok (.getfield 87, 3) := by decide +kernel
theorem dX11_undo_4 : decode cX11_undo 4 = .ok (.ifCond .ne 6, 3) := by decide +kernel
theorem dX11_undo_7 : decode cX11_undo 7 = .ok (.bipush (-3), 2) := by decide +kernel
theorem dX11_undo_9 : decode cX11_undo 9 = .ok (.ireturn, 1) := by decide +kernel
theorem dX11_undo_10 : decode cX11_undo 10 = .ok (.iconst 0, 1) := by decide +kernel
theorem dX11_undo_11 : decode cX11_undo 11 = .ok (.istore_n 1, 1) := by decide +kernel
theorem dX11_undo_12 : decode cX11_undo 12 = .ok (.aload_n 0, 1) := by decide +kernel
theorem dX11_undo_13 : decode cX11_undo 13 = .ok (.getfield 7, 3) := by decide +kernel
theorem dX11_undo_16 : decode cX11_undo 16 = .ok (.iload_n 1, 1) := by decide +kernel
theorem dX11_undo_17 : decode cX11_undo 17 = .ok (.iaload, 1) := by decide +kernel
theorem dX11_undo_18 : decode cX11_undo 18 = .ok (.ifCond .eq 30, 3) := by decide +kernel
theorem dX11_undo_21 : decode cX11_undo 21 = .ok (.aload_n 0, 1) := by decide +kernel
theorem dX11_undo_22 : decode cX11_undo 22 = .ok (.getfield 22, 3) := by decide +kernel
theorem dX11_undo_25 : decode cX11_undo 25 = .ok (.bipush 6, 2) := by decide +kernel
theorem dX11_undo_27 : decode cX11_undo 27 = .ok (.iload_n 1, 1) := by decide +kernel
theorem dX11_undo_28 : decode cX11_undo 28 = .ok (.imul, 1) := by decide +kernel
theorem dX11_undo_29 : decode cX11_undo 29 = .ok (.aload_n 0, 1) := by decide +kernel
theorem dX11_undo_30 : decode cX11_undo 30 = .ok (.getfield 7, 3) := by decide +kernel
theorem dX11_undo_33 : decode cX11_undo 33 = .ok (.iload_n 1, 1) := by decide +kernel
theorem dX11_undo_34 : decode cX11_undo 34 = .ok (.iaload, 1) := by decide +kernel
theorem dX11_undo_35 : decode cX11_undo 35 = .ok (.iadd, 1) := by decide +kernel
theorem dX11_undo_36 : decode cX11_undo 36 = .ok (.iconst 1, 1) := by decide +kernel
theorem dX11_undo_37 : decode cX11_undo 37 = .ok (.isub, 1) := by decide +kernel
theorem dX11_undo_38 : decode cX11_undo 38 = .ok (.iaload, 1) := by decide +kernel
theorem dX11_undo_39 : decode cX11_undo 39 = .ok (.aload_n 0, 1) := by decide +kernel
theorem dX11_undo_40 : decode cX11_undo 40 = .ok (.getfield 87, 3) := by decide +kernel
theorem dX11_undo_43 : decode cX11_undo 43 = .ok (.iconst 1, 1) := by decide +kernel
theorem dX11_undo_44 : decode cX11_undo 44 = .ok (.isub, 1) := by decide +kernel
theorem dX11_undo_45 : decode cX11_undo 45 = .ok (.if_icmp .eq 9, 3) := by decide +kernel
theorem dX11_undo_48 : decode cX11_undo 48 = .ok (.iinc 1 1, 3) := by decide +kernel
theorem dX11_undo_51 : decode cX11_undo 51 = .ok (.goto (-39), 3) := by decide +kernel
theorem dX11_undo_54 : decode cX11_undo 54 = .ok (.bipush 6, 2) := by decide +kernel
theorem dX11_undo_56 : decode cX11_undo 56 = .ok (.iload_n 1, 1) := by decide +kernel
theorem dX11_undo_57 : decode cX11_undo 57 = .ok (.imul, 1) := by decide +kernel
theorem dX11_undo_58 : decode cX11_undo 58 = .ok (.aload_n 0, 1) := by decide +kernel
theorem dX11_undo_59 : decode cX11_undo 59 = .ok (.getfield 7, 3) := by decide +kernel
theorem dX11_undo_62 : decode cX11_undo 62 = .ok (.iload_n 1, 1) := by decide +kernel
theorem dX11_undo_63 : decode cX11_undo 63 = .ok (.iaload, 1) := by decide +kernel
theorem dX11_undo_64 : decode cX11_undo 64 = .ok (.iadd, 1) := by decide +kernel
theorem dX11_undo_65 : decode cX11_undo 65 = .ok (.iconst 1, 1) := by decide +kernel
theorem dX11_undo_66 : decode cX11_undo 66 = .ok (.isub, 1) := by decide +kernel
theorem dX11_undo_67 : decode cX11_undo 67 = .ok (.istore_n 2, 1) := by decide +kernel
theorem dX11_undo_68 : decode cX11_undo 68 = .ok (.aload_n 0, 1) := by decide +kernel
theorem dX11_undo_69 : decode cX11_undo 69 = .ok (.getfield 13, 3) := by decide +kernel
theorem dX11_undo_72 : decode cX11_undo 72 = .ok (.iload_n 2, 1) := by decide +kernel
theorem dX11_undo_73 : decode cX11_undo 73 = .ok (.iaload, 1) := by decide +kernel
theorem dX11_undo_74 : decode cX11_undo 74 = .ok (.iconst 2, 1) := by decide +kernel
theorem dX11_undo_75 : decode cX11_undo 75 = .ok (.if_icmp .ne 13, 3) := by decide +kernel
theorem dX11_undo_78 : decode cX11_undo 78 = .ok (.aload_n 0, 1) := by decide +kernel
theorem dX11_undo_79 : decode cX11_undo 79 = .ok (.dup, 1) := by decide +kernel
theorem dX11_undo_80 : decode cX11_undo 80 = .ok (.getfield 94, 3) := by decide +kernel
theorem dX11_undo_83 : decode cX11_undo 83 = .ok (.iconst 1, 1) := by decide +kernel
theorem dX11_undo_84 : decode cX11_undo 84 = .ok (.isub, 1) := by decide +kernel
theorem dX11_undo_85 : decode cX11_undo 85 = .ok (.putfield 94, 3) := by decide +kernel
theorem dX11_undo_88 : decode cX11_undo 88 = .ok (.aload_n 0, 1) := by decide +kernel
theorem dX11_undo_89 : decode cX11_undo 89 = .ok (.getfield 13, 3) := by decide +kernel
theorem dX11_undo_92 : decode cX11_undo 92 = .ok (.iload_n 2, 1) := by decide +kernel
theorem dX11_undo_93 : decode cX11_undo 93 = .ok (.iaload, 1) := by decide +kernel
theorem dX11_undo_94 : decode cX11_undo 94 = .ok (.iconst 3, 1) := by decide +kernel
theorem dX11_undo_95 : decode cX11_undo 95 = .ok (.if_icmp .ne 15, 3) := by decide +kernel
theorem dX11_undo_98 : decode cX11_undo 98 = .ok (.aload_n 0, 1) := by decide +kernel
theorem dX11_undo_99 : decode cX11_undo 99 = .ok (.getfield 37, 3) := by decide +kernel
theorem dX11_undo_102 : decode cX11_undo 102 = .ok (.aload_n 0, 1) := by decide +kernel
theorem dX11_undo_103 : decode cX11_undo 103 = .ok (.getfield 16, 3) := by decide +kernel
theorem dX11_undo_106 : decode cX11_undo 106 = .ok (.iload_n 2, 1) := by decide +kernel
theorem dX11_undo_107 : decode cX11_undo 107 = .ok (.iaload, 1) := by decide +kernel
theorem dX11_undo_108 : decode cX11_undo 108 = .ok (.iconst (-1), 1) := by decide +kernel
theorem dX11_undo_109 : decode cX11_undo 109 = .ok (.iastore, 1) := by decide +kernel
theorem dX11_undo_110 : decode cX11_undo 110 = .ok (.aload_n 0, 1) := by decide +kernel
theorem dX11_undo_111 : decode cX11_undo 111 = .ok (.getfield 7, 3) := by decide +kernel
theorem dX11_undo_114 : decode cX11_undo 114 = .ok (.iload_n 1, 1) := by decide +kernel
theorem dX11_undo_115 : decode cX11_undo 115 = .ok (.dup2, 1) := by decide +kernel
theorem dX11_undo_116 : decode cX11_undo 116 = .ok (.iaload, 1) := by decide +kernel
theorem dX11_undo_117 : decode cX11_undo 117 = .ok (.iconst 1, 1) := by decide +kernel
theorem dX11_undo_118 : decode cX11_undo 118 = .ok (.isub, 1) := by decide +kernel
theorem dX11_undo_119 : decode cX11_undo 119 = .ok (.iastore, 1) := by decide +kernel
theorem dX11_undo_120 : decode cX11_undo 120 = .ok (.aload_n 0, 1) := by decide +kernel
theorem dX11_undo_121 : decode cX11_undo 121 = .ok (.dup, 1) := by decide +kernel
theorem dX11_undo_122 : decode cX11_undo 122 = .ok (.getfield 87, 3) := by decide +kernel
theorem dX11_undo_125 : decode cX11_undo 125 = .ok (.iconst 1, 1) := by decide +kernel
theorem dX11_undo_126 : decode cX11_undo 126 = .ok (.isub, 1) := by decide +kernel
theorem dX11_undo_127 : decode cX11_undo 127 = .ok (.putfield 87, 3) := by decide +kernel
theorem dX11_undo_130 : decode cX11_undo 130 = .ok (.iload_n 1, 1) := by decide +kernel
theorem dX11_undo_131 : decode cX11_undo 131 = .ok (.ireturn, 1) := by decide +kernel
theorem dX11_event_0 : decode cX11_event 0 = .ok (.aload_n 0, 1) := by decide +kernel
theorem dX11_event_1 : decode cX11_event 1 = .ok (.iload_n 1, 1) := by decide +kernel
theorem dX11_event_2 : decode cX11_event 2 = .ok (.iload_n 2, 1) := by decide +kernel
theorem dX11_event_3 : decode cX11_event 3 = .ok (.invokevirtual 101, 3) := by decide +kernel
theorem dX11_event_6 : decode cX11_event 6 = .ok (.ifCond .ne 5, 3) := by decide +kernel
theorem dX11_event_9 : decode cX11_event 9 = .ok (.iconst (-1), 1) := by decide +kernel
theorem dX11_event_10 : decode cX11_event 10 = .ok (.ireturn, 1) := by decide +kernel
theorem dX11_event_11 : decode cX11_event 11 = .ok (.bipush 6, 2) := by decide +kernel
theorem dX11_event_13 : decode cX11_event 13 = .ok (.iload_n 1, 1) := by decide +kernel
theorem dX11_event_14 : decode cX11_event 14 = .ok (.imul, 1) := by decide +kernel
theorem dX11_event_15 : decode cX11_event 15 = .ok (.iload_n 2, 1) := by decide +kernel
theorem dX11_event_16 : decode cX11_event 16 = .ok (.iadd, 1) := by decide +kernel
theorem dX11_event_17 : decode cX11_event 17 = .ok (.istore 4, 2) := by decide +kernel
theorem dX11_event_19 : decode cX11_event 19 = .ok (.iload_n 3, 1) := by decide +kernel
theorem dX11_event_20 : decode cX11_event 20 = .ok (.ifCond .ne 13, 3) := by decide +kernel
theorem dX11_event_23 : decode cX11_event 23 = .ok (.aload_n 0, 1) := by decide +kernel
theorem dX11_event_24 : decode cX11_event 24 = .ok (.getfield 13, 3) := by decide +kernel
theorem dX11_event_27 : decode cX11_event 27 = .ok (.iload 4, 2) := by decide +kernel
theorem dX11_event_29 : decode cX11_event 29 = .ok (.iaload, 1) := by decide +kernel
theorem dX11_event_30 : decode cX11_event 30 = .ok (.goto 34, 3) := by decide +kernel
theorem dX11_event_33 : decode cX11_event 33 = .ok (.iload_n 3, 1) := by decide +kernel
theorem dX11_event_34 : decode cX11_event 34 = .ok (.iconst 1, 1) := by decide +kernel
theorem dX11_event_35 : decode cX11_event 35 = .ok (.if_icmp .ne 13, 3) := by decide +kernel
theorem dX11_event_38 : decode cX11_event 38 = .ok (.aload_n 0, 1) := by decide +kernel
theorem dX11_event_39 : decode cX11_event 39 = .ok (.getfield 16, 3) := by decide +kernel
theorem dX11_event_42 : decode cX11_event 42 = .ok (.iload 4, 2) := by decide +kernel
theorem dX11_event_44 : decode cX11_event 44 = .ok (.iaload, 1) := by decide +kernel
theorem dX11_event_45 : decode cX11_event 45 = .ok (.goto 19, 3) := by decide +kernel
theorem dX11_event_48 : decode cX11_event 48 = .ok (.iload_n 3, 1) := by decide +kernel
theorem dX11_event_49 : decode cX11_event 49 = .ok (.iconst 2, 1) := by decide +kernel
theorem dX11_event_50 : decode cX11_event 50 = .ok (.if_icmp .ne 13, 3) := by decide +kernel
theorem dX11_event_53 : decode cX11_event 53 = .ok (.aload_n 0, 1) := by decide +kernel
theorem dX11_event_54 : decode cX11_event 54 = .ok (.getfield 22, 3) := by decide +kernel
theorem dX11_event_57 : decode cX11_event 57 = .ok (.iload 4, 2) := by decide +kernel
theorem dX11_event_59 : decode cX11_event 59 = .ok (.iaload, 1) := by decide +kernel
theorem dX11_event_60 : decode cX11_event 60 = .ok (.goto 4, 3) := by decide +kernel
theorem dX11_event_63 : decode cX11_event 63 = .ok (.iconst (-1), 1) := by decide +kernel
theorem dX11_event_64 : decode cX11_event 64 = .ok (.ireturn, 1) := by decide +kernel
theorem dX11_letter_0 : decode cX11_letter 0 = .ok (.iload_n 1, 1) := by decide +kernel
theorem dX11_letter_1 : decode cX11_letter 1 = .ok (.iconst 0, 1) := by decide +kernel
theorem dX11_letter_2 : decode cX11_letter 2 = .ok (.aload_n 0, 1) := by decide +kernel
theorem dX11_letter_3 : decode cX11_letter 3 = .ok (.getfield 94, 3) := by decide +kernel
theorem dX11_letter_6 : decode cX11_letter 6 = .ok (.iconst 1, 1) := by decide +kernel
theorem dX11_letter_7 : decode cX11_letter 7 = .ok (.isub, 1) := by decide +kernel
theorem dX11_letter_8 : decode cX11_letter 8 = .ok (.invokestatic 79, 3) := by decide +kernel
theorem dX11_letter_11 : decode cX11_letter 11 = .ok (.ifCond .ne 5, 3) := by decide +kernel
theorem dX11_letter_14 : decode cX11_letter 14 = .ok (.iconst (-1), 1) := by decide +kernel
theorem dX11_letter_15 : decode cX11_letter 15 = .ok (.ireturn, 1) := by decide +kernel
theorem dX11_letter_16 : decode cX11_letter 16 = .ok (.iload_n 2, 1) := by decide +kernel
theorem dX11_letter_17 : decode cX11_letter 17 = .ok (.tableswitch 59 0 3 #[31, 38, 45, 52], 31) := by decide +kernel
theorem dX11_letter_48 : decode cX11_letter 48 = .ok (.aload_n 0, 1) := by decide +kernel
theorem dX11_letter_49 : decode cX11_letter 49 = .ok (.getfield 28, 3) := by decide +kernel
theorem dX11_letter_52 : decode cX11_letter 52 = .ok (.iload_n 1, 1) := by decide +kernel
theorem dX11_letter_53 : decode cX11_letter 53 = .ok (.iaload, 1) := by decide +kernel
theorem dX11_letter_54 : decode cX11_letter 54 = .ok (.ireturn, 1) := by decide +kernel
theorem dX11_letter_55 : decode cX11_letter 55 = .ok (.aload_n 0, 1) := by decide +kernel
theorem dX11_letter_56 : decode cX11_letter 56 = .ok (.getfield 31, 3) := by decide +kernel
theorem dX11_letter_59 : decode cX11_letter 59 = .ok (.iload_n 1, 1) := by decide +kernel
theorem dX11_letter_60 : decode cX11_letter 60 = .ok (.iaload, 1) := by decide +kernel
theorem dX11_letter_61 : decode cX11_letter 61 = .ok (.ireturn, 1) := by decide +kernel
theorem dX11_letter_62 : decode cX11_letter 62 = .ok (.aload_n 0, 1) := by decide +kernel
theorem dX11_letter_63 : decode cX11_letter 63 = .ok (.getfield 34, 3) := by decide +kernel
theorem dX11_letter_66 : decode cX11_letter 66 = .ok (.iload_n 1, 1) := by decide +kernel
theorem dX11_letter_67 : decode cX11_letter 67 = .ok (.iaload, 1) := by decide +kernel
theorem dX11_letter_68 : decode cX11_letter 68 = .ok (.ireturn, 1) := by decide +kernel
theorem dX11_letter_69 : decode cX11_letter 69 = .ok (.aload_n 0, 1) := by decide +kernel
theorem dX11_letter_70 : decode cX11_letter 70 = .ok (.getfield 37, 3) := by decide +kernel
theorem dX11_letter_73 : decode cX11_letter 73 = .ok (.iload_n 1, 1) := by decide +kernel
theorem dX11_letter_74 : decode cX11_letter 74 = .ok (.iaload, 1) := by decide +kernel
theorem dX11_letter_75 : decode cX11_letter 75 = .ok (.ireturn, 1) := by decide +kernel
theorem dX11_letter_76 : decode cX11_letter 76 = .ok (.iconst (-1), 1) := by decide +kernel
theorem dX11_letter_77 : decode cX11_letter 77 = .ok (.ireturn, 1) := by decide +kernel
theorem dX11_ahead_0 : decode cX11_ahead 0 = .ok (.aload_n 0, 1) := by decide +kernel
theorem dX11_ahead_1 : decode cX11_ahead 1 = .ok (.iload_n 1, 1) := by decide +kernel
theorem dX11_ahead_2 : decode cX11_ahead 2 = .ok (.iload_n 2, 1) := by decide +kernel
theorem dX11_ahead_3 : decode cX11_ahead 3 = .ok (.invokevirtual 101, 3) := by decide +kernel
theorem dX11_ahead_6 : decode cX11_ahead 6 = .ok (.ifCond .eq 13, 3) := by decide +kernel
theorem dX11_ahead_9 : decode cX11_ahead 9 = .ok (.aload_n 0, 1) := by decide +kernel
theorem dX11_ahead_10 : decode cX11_ahead 10 = .ok (.iload_n 3, 1) := by decide +kernel
theorem dX11_ahead_11 : decode cX11_ahead 11 = .ok (.iload 4, 2) := by decide +kernel
theorem dX11_ahead_13 : decode cX11_ahead 13 = .ok (.invokevirtual 101, 3) := by decide +kernel
theorem dX11_ahead_16 : decode cX11_ahead 16 = .ok (.ifCond .ne 5, 3) := by decide +kernel
theorem dX11_ahead_19 : decode cX11_ahead 19 = .ok (.iconst (-1), 1) := by decide +kernel
theorem dX11_ahead_20 : decode cX11_ahead 20 = .ok (.ireturn, 1) := by decide +kernel
theorem dX11_ahead_21 : decode cX11_ahead 21 = .ok (.iload_n 1, 1) := by decide +kernel
theorem dX11_ahead_22 : decode cX11_ahead 22 = .ok (.iload_n 3, 1) := by decide +kernel
theorem dX11_ahead_23 : decode cX11_ahead 23 = .ok (.if_icmp .ne 11, 3) := by decide +kernel
theorem dX11_ahead_26 : decode cX11_ahead 26 = .ok (.iload_n 2, 1) := by decide +kernel
theorem dX11_ahead_27 : decode cX11_ahead 27 = .ok (.iload 4, 2) := by decide +kernel
theorem dX11_ahead_29 : decode cX11_ahead 29 = .ok (.if_icmp .ne 5, 3) := by decide +kernel
theorem dX11_ahead_32 : decode cX11_ahead 32 = .ok (.iconst 0, 1) := by decide +kernel
theorem dX11_ahead_33 : decode cX11_ahead 33 = .ok (.ireturn, 1) := by decide +kernel
theorem dX11_ahead_34 : decode cX11_ahead 34 = .ok (.aload_n 0, 1) := by decide +kernel
theorem dX11_ahead_35 : decode cX11_ahead 35 = .ok (.getfield 25, 3) := by decide +kernel
theorem dX11_ahead_38 : decode cX11_ahead 38 = .ok (.iconst 4, 1) := by decide +kernel
theorem dX11_ahead_39 : decode cX11_ahead 39 = .ok (.bipush 6, 2) := by decide +kernel
theorem dX11_ahead_41 : decode cX11_ahead 41 = .ok (.iload_n 3, 1) := by decide +kernel
theorem dX11_ahead_42 : decode cX11_ahead 42 = .ok (.imul, 1) := by decide +kernel
theorem dX11_ahead_43 : decode cX11_ahead 43 = .ok (.iload 4, 2) := by decide +kernel
theorem dX11_ahead_45 : decode cX11_ahead 45 = .ok (.iadd, 1) := by decide +kernel
theorem dX11_ahead_46 : decode cX11_ahead 46 = .ok (.imul, 1) := by decide +kernel
theorem dX11_ahead_47 : decode cX11_ahead 47 = .ok (.iload_n 1, 1) := by decide +kernel
theorem dX11_ahead_48 : decode cX11_ahead 48 = .ok (.iadd, 1) := by decide +kernel
theorem dX11_ahead_49 : decode cX11_ahead 49 = .ok (.iaload, 1) := by decide +kernel
theorem dX11_ahead_50 : decode cX11_ahead 50 = .ok (.iload_n 2, 1) := by decide +kernel
theorem dX11_ahead_51 : decode cX11_ahead 51 = .ok (.if_icmp .le 5, 3) := by decide +kernel
theorem dX11_ahead_54 : decode cX11_ahead 54 = .ok (.iconst 1, 1) := by decide +kernel
theorem dX11_ahead_55 : decode cX11_ahead 55 = .ok (.ireturn, 1) := by decide +kernel
theorem dX11_ahead_56 : decode cX11_ahead 56 = .ok (.aload_n 0, 1) := by decide +kernel
theorem dX11_ahead_57 : decode cX11_ahead 57 = .ok (.getfield 25, 3) := by decide +kernel
theorem dX11_ahead_60 : decode cX11_ahead 60 = .ok (.iconst 4, 1) := by decide +kernel
theorem dX11_ahead_61 : decode cX11_ahead 61 = .ok (.bipush 6, 2) := by decide +kernel
theorem dX11_ahead_63 : decode cX11_ahead 63 = .ok (.iload_n 1, 1) := by decide +kernel
theorem dX11_ahead_64 : decode cX11_ahead 64 = .ok (.imul, 1) := by decide +kernel
theorem dX11_ahead_65 : decode cX11_ahead 65 = .ok (.iload_n 2, 1) := by decide +kernel
theorem dX11_ahead_66 : decode cX11_ahead 66 = .ok (.iadd, 1) := by decide +kernel
theorem dX11_ahead_67 : decode cX11_ahead 67 = .ok (.imul, 1) := by decide +kernel
theorem dX11_ahead_68 : decode cX11_ahead 68 = .ok (.iload_n 3, 1) := by decide +kernel
theorem dX11_ahead_69 : decode cX11_ahead 69 = .ok (.iadd, 1) := by decide +kernel
theorem dX11_ahead_70 : decode cX11_ahead 70 = .ok (.iaload, 1) := by decide +kernel
theorem dX11_ahead_71 : decode cX11_ahead 71 = .ok (.iload 4, 2) := by decide +kernel
theorem dX11_ahead_73 : decode cX11_ahead 73 = .ok (.if_icmp .le 7, 3) := by decide +kernel
theorem dX11_ahead_76 : decode cX11_ahead 76 = .ok (.iconst 2, 1) := by decide +kernel
theorem dX11_ahead_77 : decode cX11_ahead 77 = .ok (.goto 4, 3) := by decide +kernel
theorem dX11_ahead_80 : decode cX11_ahead 80 = .ok (.iconst 3, 1) := by decide +kernel
theorem dX11_ahead_81 : decode cX11_ahead 81 = .ok (.ireturn, 1) := by decide +kernel
theorem dX11_clock_0 : decode cX11_clock 0 = .ok (.aload_n 0, 1) := by decide +kernel
theorem dX11_clock_1 : decode cX11_clock 1 = .ok (.iload_n 1, 1) := by decide +kernel
theorem dX11_clock_2 : decode cX11_clock 2 = .ok (.iload_n 2, 1) := by decide +kernel
theorem dX11_clock_3 : decode cX11_clock 3 = .ok (.invokevirtual 101, 3) := by decide +kernel
theorem dX11_clock_6 : decode cX11_clock 6 = .ok (.ifCond .eq 11, 3) := by decide +kernel
theorem dX11_clock_9 : decode cX11_clock 9 = .ok (.aload_n 0, 1) := by decide +kernel
theorem dX11_clock_10 : decode cX11_clock 10 = .ok (.iload_n 3, 1) := by decide +kernel
theorem dX11_clock_11 : decode cX11_clock 11 = .ok (.invokevirtual 83, 3) := by decide +kernel
theorem dX11_clock_14 : decode cX11_clock 14 = .ok (.ifCond .ne 5, 3) := by decide +kernel
theorem dX11_clock_17 : decode cX11_clock 17 = .ok (.iconst (-1), 1) := by decide +kernel
theorem dX11_clock_18 : decode cX11_clock 18 = .ok (.ireturn, 1) := by decide +kernel
theorem dX11_clock_19 : decode cX11_clock 19 = .ok (.aload_n 0, 1) := by decide +kernel
theorem dX11_clock_20 : decode cX11_clock 20 = .ok (.getfield 25, 3) := by decide +kernel
theorem dX11_clock_23 : decode cX11_clock 23 = .ok (.iconst 4, 1) := by decide +kernel
theorem dX11_clock_24 : decode cX11_clock 24 = .ok (.bipush 6, 2) := by decide +kernel
theorem dX11_clock_26 : decode cX11_clock 26 = .ok (.iload_n 1, 1) := by decide +kernel
theorem dX11_clock_27 : decode cX11_clock 27 = .ok (.imul, 1) := by decide +kernel
theorem dX11_clock_28 : decode cX11_clock 28 = .ok (.iload_n 2, 1) := by decide +kernel
theorem dX11_clock_29 : decode cX11_clock 29 = .ok (.iadd, 1) := by decide +kernel
theorem dX11_clock_30 : decode cX11_clock 30 = .ok (.imul, 1) := by decide +kernel
theorem dX11_clock_31 : decode cX11_clock 31 = .ok (.iload_n 3, 1) := by decide +kernel
theorem dX11_clock_32 : decode cX11_clock 32 = .ok (.iadd, 1) := by decide +kernel
theorem dX11_clock_33 : decode cX11_clock 33 = .ok (.iaload, 1) := by decide +kernel
theorem dX11_clock_34 : decode cX11_clock 34 = .ok (.ireturn, 1) := by decide +kernel
theorem dX11_unit_0 : decode cX11_unit 0 = .ok (.iload_n 0, 1) := by decide +kernel
theorem dX11_unit_1 : decode cX11_unit 1 = .ok (.ifCond .ne 7, 3) := by decide +kernel
theorem dX11_unit_4 : decode cX11_unit 4 = .ok (.iconst 1, 1) := by decide +kernel
theorem dX11_unit_5 : decode cX11_unit 5 = .ok (.goto 26, 3) := by decide +kernel
theorem dX11_unit_8 : decode cX11_unit 8 = .ok (.iload_n 0, 1) := by decide +kernel
theorem dX11_unit_9 : decode cX11_unit 9 = .ok (.iconst 1, 1) := by decide +kernel
theorem dX11_unit_10 : decode cX11_unit 10 = .ok (.if_icmp .ne 8, 3) := by decide +kernel
theorem dX11_unit_13 : decode cX11_unit 13 = .ok (.bipush 7, 2) := by decide +kernel
theorem dX11_unit_15 : decode cX11_unit 15 = .ok (.goto 16, 3) := by decide +kernel
theorem dX11_unit_18 : decode cX11_unit 18 = .ok (.iload_n 0, 1) := by decide +kernel
theorem dX11_unit_19 : decode cX11_unit 19 = .ok (.iconst 2, 1) := by decide +kernel
theorem dX11_unit_20 : decode cX11_unit 20 = .ok (.if_icmp .ne 8, 3) := by decide +kernel
theorem dX11_unit_23 : decode cX11_unit 23 = .ok (.bipush 49, 2) := by decide +kernel
theorem dX11_unit_25 : decode cX11_unit 25 = .ok (.goto 6, 3) := by decide +kernel
theorem dX11_unit_28 : decode cX11_unit 28 = .ok (.sipush 343, 3) := by decide +kernel
theorem dX11_unit_31 : decode cX11_unit 31 = .ok (.ireturn, 1) := by decide +kernel
theorem dX11_part_0 : decode cX11_part 0 = .ok (.iload_n 0, 1) := by decide +kernel
theorem dX11_part_1 : decode cX11_part 1 = .ok (.iload_n 1, 1) := by decide +kernel
theorem dX11_part_2 : decode cX11_part 2 = .ok (.invokestatic 105, 3) := by decide +kernel
theorem dX11_part_5 : decode cX11_part 5 = .ok (.idiv, 1) := by decide +kernel
theorem dX11_part_6 : decode cX11_part 6 = .ok (.bipush 7, 2) := by decide +kernel
theorem dX11_part_8 : decode cX11_part 8 = .ok (.irem, 1) := by decide +kernel
theorem dX11_part_9 : decode cX11_part 9 = .ok (.ireturn, 1) := by decide +kernel
theorem dX11_isCut_0 : decode cX11_isCut 0 = .ok (.iload_n 1, 1) := by decide +kernel
theorem dX11_isCut_1 : decode cX11_isCut 1 = .ok (.iconst 0, 1) := by decide +kernel
theorem dX11_isCut_2 : decode cX11_isCut 2 = .ok (.sipush 2400, 3) := by decide +kernel
theorem dX11_isCut_5 : decode cX11_isCut 5 = .ok (.invokestatic 79, 3) := by decide +kernel
theorem dX11_isCut_8 : decode cX11_isCut 8 = .ok (.ifCond .ne 5, 3) := by decide +kernel
theorem dX11_isCut_11 : decode cX11_isCut 11 = .ok (.iconst 0, 1) := by decide +kernel
theorem dX11_isCut_12 : decode cX11_isCut 12 = .ok (.ireturn, 1) := by decide +kernel
theorem dX11_isCut_13 : decode cX11_isCut 13 = .ok (.iconst 0, 1) := by decide +kernel
theorem dX11_isCut_14 : decode cX11_isCut 14 = .ok (.istore_n 2, 1) := by decide +kernel
theorem dX11_isCut_15 : decode cX11_isCut 15 = .ok (.iload_n 2, 1) := by decide +kernel
theorem dX11_isCut_16 : decode cX11_isCut 16 = .ok (.iconst 4, 1) := by decide +kernel
theorem dX11_isCut_17 : decode cX11_isCut 17 = .ok (.if_icmp .ge 37, 3) := by decide +kernel
theorem dX11_isCut_20 : decode cX11_isCut 20 = .ok (.iload_n 1, 1) := by decide +kernel
theorem dX11_isCut_21 : decode cX11_isCut 21 = .ok (.iload_n 2, 1) := by decide +kernel
theorem dX11_isCut_22 : decode cX11_isCut 22 = .ok (.invokestatic 109, 3) := by decide +kernel
theorem dX11_isCut_25 : decode cX11_isCut 25 = .ok (.iload_n 2, 1) := by decide +kernel
theorem dX11_isCut_26 : decode cX11_isCut 26 = .ok (.aload_n 0, 1) := by decide +kernel
theorem dX11_isCut_27 : decode cX11_isCut 27 = .ok (.getfield 76, 3) := by decide +kernel
theorem dX11_isCut_30 : decode cX11_isCut 30 = .ok (.if_icmp .ge 12, 3) := by decide +kernel
theorem dX11_isCut_33 : decode cX11_isCut 33 = .ok (.aload_n 0, 1) := by decide +kernel
theorem dX11_isCut_34 : decode cX11_isCut 34 = .ok (.getfield 7, 3) := by decide +kernel
theorem dX11_isCut_37 : decode cX11_isCut 37 = .ok (.iload_n 2, 1) := by decide +kernel
theorem dX11_isCut_38 : decode cX11_isCut 38 = .ok (.iaload, 1) := by decide +kernel
theorem dX11_isCut_39 : decode cX11_isCut 39 = .ok (.goto 4, 3) := by decide +kernel
theorem dX11_isCut_42 : decode cX11_isCut 42 = .ok (.iconst 0, 1) := by decide +kernel
theorem dX11_isCut_43 : decode cX11_isCut 43 = .ok (.if_icmp .le 5, 3) := by decide +kernel
theorem dX11_isCut_46 : decode cX11_isCut 46 = .ok (.iconst 0, 1) := by decide +kernel
theorem dX11_isCut_47 : decode cX11_isCut 47 = .ok (.ireturn, 1) := by decide +kernel
theorem dX11_isCut_48 : decode cX11_isCut 48 = .ok (.iinc 2 1, 3) := by decide +kernel
theorem dX11_isCut_51 : decode cX11_isCut 51 = .ok (.goto (-36), 3) := by decide +kernel
theorem dX11_isCut_54 : decode cX11_isCut 54 = .ok (.iconst 1, 1) := by decide +kernel
theorem dX11_isCut_55 : decode cX11_isCut 55 = .ok (.ireturn, 1) := by decide +kernel
theorem dX11_sizeOf_0 : decode cX11_sizeOf 0 = .ok (.iconst 0, 1) := by decide +kernel
theorem dX11_sizeOf_1 : decode cX11_sizeOf 1 = .ok (.istore_n 1, 1) := by decide +kernel
theorem dX11_sizeOf_2 : decode cX11_sizeOf 2 = .ok (.iconst 0, 1) := by decide +kernel
theorem dX11_sizeOf_3 : decode cX11_sizeOf 3 = .ok (.istore_n 2, 1) := by decide +kernel
theorem dX11_sizeOf_4 : decode cX11_sizeOf 4 = .ok (.iload_n 2, 1) := by decide +kernel
theorem dX11_sizeOf_5 : decode cX11_sizeOf 5 = .ok (.iconst 4, 1) := by decide +kernel
theorem dX11_sizeOf_6 : decode cX11_sizeOf 6 = .ok (.if_icmp .ge 17, 3) := by decide +kernel
theorem dX11_sizeOf_9 : decode cX11_sizeOf 9 = .ok (.iload_n 1, 1) := by decide +kernel
theorem dX11_sizeOf_10 : decode cX11_sizeOf 10 = .ok (.iload_n 0, 1) := by decide +kernel
theorem dX11_sizeOf_11 : decode cX11_sizeOf 11 = .ok (.iload_n 2, 1) := by decide +kernel
theorem dX11_sizeOf_12 : decode cX11_sizeOf 12 = .ok (.invokestatic 109, 3) := by decide +kernel
theorem dX11_sizeOf_15 : decode cX11_sizeOf 15 = .ok (.iadd, 1) := by decide +kernel
theorem dX11_sizeOf_16 : decode cX11_sizeOf 16 = .ok (.istore_n 1, 1) := by decide +kernel
theorem dX11_sizeOf_17 : decode cX11_sizeOf 17 = .ok (.iinc 2 1, 3) := by decide +kernel
theorem dX11_sizeOf_20 : decode cX11_sizeOf 20 = .ok (.goto (-16), 3) := by decide +kernel
theorem dX11_sizeOf_23 : decode cX11_sizeOf 23 = .ok (.iload_n 1, 1) := by decide +kernel
theorem dX11_sizeOf_24 : decode cX11_sizeOf 24 = .ok (.ireturn, 1) := by decide +kernel
theorem dX11_isPossible_0 : decode cX11_isPossible 0 = .ok (.aload_n 0, 1) := by decide +kernel
theorem dX11_isPossible_1 : decode cX11_isPossible 1 = .ok (.iload_n 1, 1) := by decide +kernel
theorem dX11_isPossible_2 : decode cX11_isPossible 2 = .ok (.invokevirtual 113, 3) := by decide +kernel
theorem dX11_isPossible_5 : decode cX11_isPossible 5 = .ok (.ifCond .ne 5, 3) := by decide +kernel
theorem dX11_isPossible_8 : decode cX11_isPossible 8 = .ok (.iconst 0, 1) := by decide +kernel
theorem dX11_isPossible_9 : decode cX11_isPossible 9 = .ok (.ireturn, 1) := by decide +kernel
theorem dX11_isPossible_10 : decode cX11_isPossible 10 = .ok (.iconst 0, 1) := by decide +kernel
theorem dX11_isPossible_11 : decode cX11_isPossible 11 = .ok (.istore_n 2, 1) := by decide +kernel
theorem dX11_isPossible_12 : decode cX11_isPossible 12 = .ok (.iload_n 2, 1) := by decide +kernel
theorem dX11_isPossible_13 : decode cX11_isPossible 13 = .ok (.aload_n 0, 1) := by decide +kernel
theorem dX11_isPossible_14 : decode cX11_isPossible 14 = .ok (.getfield 76, 3) := by decide +kernel
theorem dX11_isPossible_17 : decode cX11_isPossible 17 = .ok (.if_icmp .ge 66, 3) := by decide +kernel
theorem dX11_isPossible_20 : decode cX11_isPossible 20 = .ok (.iload_n 1, 1) := by decide +kernel
theorem dX11_isPossible_21 : decode cX11_isPossible 21 = .ok (.iload_n 2, 1) := by decide +kernel
theorem dX11_isPossible_22 : decode cX11_isPossible 22 = .ok (.invokestatic 109, 3) := by decide +kernel
theorem dX11_isPossible_25 : decode cX11_isPossible 25 = .ok (.istore_n 3, 1) := by decide +kernel
theorem dX11_isPossible_26 : decode cX11_isPossible 26 = .ok (.iconst 0, 1) := by decide +kernel
theorem dX11_isPossible_27 : decode cX11_isPossible 27 = .ok (.istore 4, 2) := by decide +kernel
theorem dX11_isPossible_29 : decode cX11_isPossible 29 = .ok (.iload 4, 2) := by decide +kernel
theorem dX11_isPossible_31 : decode cX11_isPossible 31 = .ok (.aload_n 0, 1) := by decide +kernel
theorem dX11_isPossible_32 : decode cX11_isPossible 32 = .ok (.getfield 76, 3) := by decide +kernel
theorem dX11_isPossible_35 : decode cX11_isPossible 35 = .ok (.if_icmp .ge 42, 3) := by decide +kernel
theorem dX11_isPossible_38 : decode cX11_isPossible 38 = .ok (.iload_n 3, 1) := by decide +kernel
theorem dX11_isPossible_39 : decode cX11_isPossible 39 = .ok (.ifCond .le 38, 3) := by decide +kernel
theorem dX11_isPossible_42 : decode cX11_isPossible 42 = .ok (.aload_n 0, 1) := by decide +kernel
theorem dX11_isPossible_43 : decode cX11_isPossible 43 = .ok (.getfield 25, 3) := by decide +kernel
theorem dX11_isPossible_46 : decode cX11_isPossible 46 = .ok (.iconst 4, 1) := by decide +kernel
theorem dX11_isPossible_47 : decode cX11_isPossible 47 = .ok (.bipush 6, 2) := by decide +kernel
theorem dX11_isPossible_49 : decode cX11_isPossible 49 = .ok (.iload_n 2, 1) := by decide +kernel
theorem dX11_isPossible_50 : decode cX11_isPossible 50 = .ok (.imul, 1) := by decide +kernel
theorem dX11_isPossible_51 : decode cX11_isPossible 51 = .ok (.iload_n 3, 1) := by decide +kernel
theorem dX11_isPossible_52 : decode cX11_isPossible 52 = .ok (.iadd, 1) := by decide +kernel
theorem dX11_isPossible_53 : decode cX11_isPossible 53 = .ok (.iconst 1, 1) := by decide +kernel
theorem dX11_isPossible_54 : decode cX11_isPossible 54 = .ok (.isub, 1) := by decide +kernel
theorem dX11_isPossible_55 : decode cX11_isPossible 55 = .ok (.imul, 1) := by decide +kernel
theorem dX11_isPossible_56 : decode cX11_isPossible 56 = .ok (.iload 4, 2) := by decide +kernel
theorem dX11_isPossible_58 : decode cX11_isPossible 58 = .ok (.iadd, 1) := by decide +kernel
theorem dX11_isPossible_59 : decode cX11_isPossible 59 = .ok (.iaload, 1) := by decide +kernel
theorem dX11_isPossible_60 : decode cX11_isPossible 60 = .ok (.iload_n 1, 1) := by decide +kernel
theorem dX11_isPossible_61 : decode cX11_isPossible 61 = .ok (.iload 4, 2) := by decide +kernel
theorem dX11_isPossible_63 : decode cX11_isPossible 63 = .ok (.invokestatic 109, 3) := by decide +kernel
theorem dX11_isPossible_66 : decode cX11_isPossible 66 = .ok (.if_icmp .le 5, 3) := by decide +kernel
theorem dX11_isPossible_69 : decode cX11_isPossible 69 = .ok (.iconst 0, 1) := by decide +kernel
theorem dX11_isPossible_70 : decode cX11_isPossible 70 = .ok (.ireturn, 1) := by decide +kernel
theorem dX11_isPossible_71 : decode cX11_isPossible 71 = .ok (.iinc 4 1, 3) := by decide +kernel
theorem dX11_isPossible_74 : decode cX11_isPossible 74 = .ok (.goto (-45), 3) := by decide +kernel
theorem dX11_isPossible_77 : decode cX11_isPossible 77 = .ok (.iinc 2 1, 3) := by decide +kernel
theorem dX11_isPossible_80 : decode cX11_isPossible 80 = .ok (.goto (-68), 3) := by decide +kernel
theorem dX11_isPossible_83 : decode cX11_isPossible 83 = .ok (.iconst 1, 1) := by decide +kernel
theorem dX11_isPossible_84 : decode cX11_isPossible 84 = .ok (.ireturn, 1) := by decide +kernel
theorem dX11_whole_0 : decode cX11_whole 0 = .ok (.iconst 0, 1) := by decide +kernel
theorem dX11_whole_1 : decode cX11_whole 1 = .ok (.istore_n 1, 1) := by decide +kernel
theorem dX11_whole_2 : decode cX11_whole 2 = .ok (.iconst 0, 1) := by decide +kernel
theorem dX11_whole_3 : decode cX11_whole 3 = .ok (.istore_n 2, 1) := by decide +kernel
theorem dX11_whole_4 : decode cX11_whole 4 = .ok (.iload_n 2, 1) := by decide +kernel
theorem dX11_whole_5 : decode cX11_whole 5 = .ok (.aload_n 0, 1) := by decide +kernel
theorem dX11_whole_6 : decode cX11_whole 6 = .ok (.getfield 76, 3) := by decide +kernel
theorem dX11_whole_9 : decode cX11_whole 9 = .ok (.if_icmp .ge 23, 3) := by decide +kernel
theorem dX11_whole_12 : decode cX11_whole 12 = .ok (.iload_n 1, 1) := by decide +kernel
theorem dX11_whole_13 : decode cX11_whole 13 = .ok (.iload_n 2, 1) := by decide +kernel
theorem dX11_whole_14 : decode cX11_whole 14 = .ok (.invokestatic 105, 3) := by decide +kernel
theorem dX11_whole_17 : decode cX11_whole 17 = .ok (.aload_n 0, 1) := by decide +kernel
theorem dX11_whole_18 : decode cX11_whole 18 = .ok (.getfield 7, 3) := by decide +kernel
theorem dX11_whole_21 : decode cX11_whole 21 = .ok (.iload_n 2, 1) := by decide +kernel
theorem dX11_whole_22 : decode cX11_whole 22 = .ok (.iaload, 1) := by decide +kernel
theorem dX11_whole_23 : decode cX11_whole 23 = .ok (.imul, 1) := by decide +kernel
theorem dX11_whole_24 : decode cX11_whole 24 = .ok (.iadd, 1) := by decide +kernel
theorem dX11_whole_25 : decode cX11_whole 25 = .ok (.istore_n 1, 1) := by decide +kernel
theorem dX11_whole_26 : decode cX11_whole 26 = .ok (.iinc 2 1, 3) := by decide +kernel
theorem dX11_whole_29 : decode cX11_whole 29 = .ok (.goto (-25), 3) := by decide +kernel
theorem dX11_whole_32 : decode cX11_whole 32 = .ok (.iload_n 1, 1) := by decide +kernel
theorem dX11_whole_33 : decode cX11_whole 33 = .ok (.ireturn, 1) := by decide +kernel
theorem dX11_possible_0 : decode cX11_possible 0 = .ok (.aload_n 0, 1) := by decide +kernel
theorem dX11_possible_1 : decode cX11_possible 1 = .ok (.iload_n 1, 1) := by decide +kernel
theorem dX11_possible_2 : decode cX11_possible 2 = .ok (.invokevirtual 113, 3) := by decide +kernel
theorem dX11_possible_5 : decode cX11_possible 5 = .ok (.ifCond .ne 7, 3) := by decide +kernel
theorem dX11_possible_8 : decode cX11_possible 8 = .ok (.iconst (-1), 1) := by decide +kernel
theorem dX11_possible_9 : decode cX11_possible 9 = .ok (.goto 16, 3) := by decide +kernel
theorem dX11_possible_12 : decode cX11_possible 12 = .ok (.aload_n 0, 1) := by decide +kernel
theorem dX11_possible_13 : decode cX11_possible 13 = .ok (.iload_n 1, 1) := by decide +kernel
theorem dX11_possible_14 : decode cX11_possible 14 = .ok (.invokevirtual 116, 3) := by decide +kernel
theorem dX11_possible_17 : decode cX11_possible 17 = .ok (.ifCond .eq 7, 3) := by decide +kernel
theorem dX11_possible_20 : decode cX11_possible 20 = .ok (.iconst 1, 1) := by decide +kernel
theorem dX11_possible_21 : decode cX11_possible 21 = .ok (.goto 4, 3) := by decide +kernel
theorem dX11_possible_24 : decode cX11_possible 24 = .ok (.iconst 0, 1) := by decide +kernel
theorem dX11_possible_25 : decode cX11_possible 25 = .ok (.ireturn, 1) := by decide +kernel
theorem dX11_cuts_0 : decode cX11_cuts 0 = .ok (.iload_n 1, 1) := by decide +kernel
theorem dX11_cuts_1 : decode cX11_cuts 1 = .ok (.iconst (-1), 1) := by decide +kernel
theorem dX11_cuts_2 : decode cX11_cuts 2 = .ok (.if_icmp .ge 6, 3) := by decide +kernel
theorem dX11_cuts_5 : decode cX11_cuts 5 = .ok (.bipush (-2), 2) := by decide +kernel
theorem dX11_cuts_7 : decode cX11_cuts 7 = .ok (.ireturn, 1) := by decide +kernel
theorem dX11_cuts_8 : decode cX11_cuts 8 = .ok (.iconst 0, 1) := by decide +kernel
theorem dX11_cuts_9 : decode cX11_cuts 9 = .ok (.istore_n 2, 1) := by decide +kernel
theorem dX11_cuts_10 : decode cX11_cuts 10 = .ok (.iconst 0, 1) := by decide +kernel
theorem dX11_cuts_11 : decode cX11_cuts 11 = .ok (.istore_n 3, 1) := by decide +kernel
theorem dX11_cuts_12 : decode cX11_cuts 12 = .ok (.iload_n 3, 1) := by decide +kernel
theorem dX11_cuts_13 : decode cX11_cuts 13 = .ok (.sipush 2401, 3) := by decide +kernel
theorem dX11_cuts_16 : decode cX11_cuts 16 = .ok (.if_icmp .ge 38, 3) := by decide +kernel
theorem dX11_cuts_19 : decode cX11_cuts 19 = .ok (.iload_n 2, 1) := by decide +kernel
theorem dX11_cuts_20 : decode cX11_cuts 20 = .ok (.aload_n 0, 1) := by decide +kernel
theorem dX11_cuts_21 : decode cX11_cuts 21 = .ok (.iload_n 3, 1) := by decide +kernel
theorem dX11_cuts_22 : decode cX11_cuts 22 = .ok (.invokevirtual 116, 3) := by decide +kernel
theorem dX11_cuts_25 : decode cX11_cuts 25 = .ok (.ifCond .eq 20, 3) := by decide +kernel
theorem dX11_cuts_28 : decode cX11_cuts 28 = .ok (.iload_n 1, 1) := by decide +kernel
theorem dX11_cuts_29 : decode cX11_cuts 29 = .ok (.iconst (-1), 1) := by decide +kernel
theorem dX11_cuts_30 : decode cX11_cuts 30 = .ok (.if_icmp .eq 11, 3) := by decide +kernel
theorem dX11_cuts_33 : decode cX11_cuts 33 = .ok (.iload_n 3, 1) := by decide +kernel
theorem dX11_cuts_34 : decode cX11_cuts 34 = .ok (.invokestatic 119, 3) := by decide +kernel
theorem dX11_cuts_37 : decode cX11_cuts 37 = .ok (.iload_n 1, 1) := by decide +kernel
theorem dX11_cuts_38 : decode cX11_cuts 38 = .ok (.if_icmp .ne 7, 3) := by decide +kernel
theorem dX11_cuts_41 : decode cX11_cuts 41 = .ok (.iconst 1, 1) := by decide +kernel
theorem dX11_cuts_42 : decode cX11_cuts 42 = .ok (.goto 4, 3) := by decide +kernel
theorem dX11_cuts_45 : decode cX11_cuts 45 = .ok (.iconst 0, 1) := by decide +kernel
theorem dX11_cuts_46 : decode cX11_cuts 46 = .ok (.iadd, 1) := by decide +kernel
theorem dX11_cuts_47 : decode cX11_cuts 47 = .ok (.istore_n 2, 1) := by decide +kernel
theorem dX11_cuts_48 : decode cX11_cuts 48 = .ok (.iinc 3 1, 3) := by decide +kernel
theorem dX11_cuts_51 : decode cX11_cuts 51 = .ok (.goto (-39), 3) := by decide +kernel
theorem dX11_cuts_54 : decode cX11_cuts 54 = .ok (.iload_n 2, 1) := by decide +kernel
theorem dX11_cuts_55 : decode cX11_cuts 55 = .ok (.ireturn, 1) := by decide +kernel
theorem dX11_next_0 : decode cX11_next 0 = .ok (.iload_n 1, 1) := by decide +kernel
theorem dX11_next_1 : decode cX11_next 1 = .ok (.iconst (-1), 1) := by decide +kernel
theorem dX11_next_2 : decode cX11_next 2 = .ok (.if_icmp .eq 13, 3) := by decide +kernel
theorem dX11_next_5 : decode cX11_next 5 = .ok (.aload_n 0, 1) := by decide +kernel
theorem dX11_next_6 : decode cX11_next 6 = .ok (.iload_n 1, 1) := by decide +kernel
theorem dX11_next_7 : decode cX11_next 7 = .ok (.invokevirtual 113, 3) := by decide +kernel
theorem dX11_next_10 : decode cX11_next 10 = .ok (.ifCond .ne 5, 3) := by decide +kernel
theorem dX11_next_13 : decode cX11_next 13 = .ok (.iconst (-1), 1) := by decide +kernel
theorem dX11_next_14 : decode cX11_next 14 = .ok (.ireturn, 1) := by decide +kernel
theorem dX11_next_15 : decode cX11_next 15 = .ok (.iload_n 1, 1) := by decide +kernel
theorem dX11_next_16 : decode cX11_next 16 = .ok (.iconst (-1), 1) := by decide +kernel
theorem dX11_next_17 : decode cX11_next 17 = .ok (.if_icmp .ne 7, 3) := by decide +kernel
theorem dX11_next_20 : decode cX11_next 20 = .ok (.iconst (-1), 1) := by decide +kernel
theorem dX11_next_21 : decode cX11_next 21 = .ok (.goto 13, 3) := by decide +kernel
theorem dX11_next_24 : decode cX11_next 24 = .ok (.sipush 2401, 3) := by decide +kernel
theorem dX11_next_27 : decode cX11_next 27 = .ok (.iload_n 1, 1) := by decide +kernel
theorem dX11_next_28 : decode cX11_next 28 = .ok (.invokestatic 119, 3) := by decide +kernel
theorem dX11_next_31 : decode cX11_next 31 = .ok (.imul, 1) := by decide +kernel
theorem dX11_next_32 : decode cX11_next 32 = .ok (.iload_n 1, 1) := by decide +kernel
theorem dX11_next_33 : decode cX11_next 33 = .ok (.iadd, 1) := by decide +kernel
theorem dX11_next_34 : decode cX11_next 34 = .ok (.istore_n 2, 1) := by decide +kernel
theorem dX11_next_35 : decode cX11_next 35 = .ok (.iconst (-1), 1) := by decide +kernel
theorem dX11_next_36 : decode cX11_next 36 = .ok (.istore_n 3, 1) := by decide +kernel
theorem dX11_next_37 : decode cX11_next 37 = .ok (.iconst 0, 1) := by decide +kernel
theorem dX11_next_38 : decode cX11_next 38 = .ok (.istore 4, 2) := by decide +kernel
theorem dX11_next_40 : decode cX11_next 40 = .ok (.iload 4, 2) := by decide +kernel
theorem dX11_next_42 : decode cX11_next 42 = .ok (.sipush 2401, 3) := by decide +kernel
theorem dX11_next_45 : decode cX11_next 45 = .ok (.if_icmp .ge 61, 3) := by decide +kernel
theorem dX11_next_48 : decode cX11_next 48 = .ok (.sipush 2401, 3) := by decide +kernel
theorem dX11_next_51 : decode cX11_next 51 = .ok (.iload 4, 2) := by decide +kernel
theorem dX11_next_53 : decode cX11_next 53 = .ok (.invokestatic 119, 3) := by decide +kernel
theorem dX11_next_56 : decode cX11_next 56 = .ok (.imul, 1) := by decide +kernel
theorem dX11_next_57 : decode cX11_next 57 = .ok (.iload 4, 2) := by decide +kernel
theorem dX11_next_59 : decode cX11_next 59 = .ok (.iadd, 1) := by decide +kernel
theorem dX11_next_60 : decode cX11_next 60 = .ok (.istore 5, 2) := by decide +kernel
theorem dX11_next_62 : decode cX11_next 62 = .ok (.aload_n 0, 1) := by decide +kernel
theorem dX11_next_63 : decode cX11_next 63 = .ok (.iload 4, 2) := by decide +kernel
theorem dX11_next_65 : decode cX11_next 65 = .ok (.invokevirtual 116, 3) := by decide +kernel
theorem dX11_next_68 : decode cX11_next 68 = .ok (.ifCond .eq 32, 3) := by decide +kernel
theorem dX11_next_71 : decode cX11_next 71 = .ok (.iload 5, 2) := by decide +kernel
theorem dX11_next_73 : decode cX11_next 73 = .ok (.iload_n 2, 1) := by decide +kernel
theorem dX11_next_74 : decode cX11_next 74 = .ok (.if_icmp .le 26, 3) := by decide +kernel
theorem dX11_next_77 : decode cX11_next 77 = .ok (.iload_n 3, 1) := by decide +kernel
theorem dX11_next_78 : decode cX11_next 78 = .ok (.iconst (-1), 1) := by decide +kernel
theorem dX11_next_79 : decode cX11_next 79 = .ok (.if_icmp .eq 18, 3) := by decide +kernel
theorem dX11_next_82 : decode cX11_next 82 = .ok (.iload 5, 2) := by decide +kernel
theorem dX11_next_84 : decode cX11_next 84 = .ok (.sipush 2401, 3) := by decide +kernel
theorem dX11_next_87 : decode cX11_next 87 = .ok (.iload_n 3, 1) := by decide +kernel
theorem dX11_next_88 : decode cX11_next 88 = .ok (.invokestatic 119, 3) := by decide +kernel
theorem dX11_next_91 : decode cX11_next 91 = .ok (.imul, 1) := by decide +kernel
theorem dX11_next_92 : decode cX11_next 92 = .ok (.iload_n 3, 1) := by decide +kernel
theorem dX11_next_93 : decode cX11_next 93 = .ok (.iadd, 1) := by decide +kernel
theorem dX11_next_94 : decode cX11_next 94 = .ok (.if_icmp .ge 6, 3) := by decide +kernel
theorem dX11_next_97 : decode cX11_next 97 = .ok (.iload 4, 2) := by decide +kernel
theorem dX11_next_99 : decode cX11_next 99 = .ok (.istore_n 3, 1) := by decide +kernel
theorem dX11_next_100 : decode cX11_next 100 = .ok (.iinc 4 1, 3) := by decide +kernel
theorem dX11_next_103 : decode cX11_next 103 = .ok (.goto (-63), 3) := by decide +kernel
theorem dX11_next_106 : decode cX11_next 106 = .ok (.iload_n 3, 1) := by decide +kernel
theorem dX11_next_107 : decode cX11_next 107 = .ok (.ireturn, 1) := by decide +kernel
theorem dX11_joined_0 : decode cX11_joined 0 = .ok (.iconst 0, 1) := by decide +kernel
theorem dX11_joined_1 : decode cX11_joined 1 = .ok (.istore_n 3, 1) := by decide +kernel
theorem dX11_joined_2 : decode cX11_joined 2 = .ok (.iconst 0, 1) := by decide +kernel
theorem dX11_joined_3 : decode cX11_joined 3 = .ok (.istore 4, 2) := by decide +kernel
theorem dX11_joined_5 : decode cX11_joined 5 = .ok (.iload 4, 2) := by decide +kernel
theorem dX11_joined_7 : decode cX11_joined 7 = .ok (.iconst 4, 1) := by decide +kernel
theorem dX11_joined_8 : decode cX11_joined 8 = .ok (.if_icmp .ge 57, 3) := by decide +kernel
theorem dX11_joined_11 : decode cX11_joined 11 = .ok (.iload_n 0, 1) := by decide +kernel
theorem dX11_joined_12 : decode cX11_joined 12 = .ok (.iload 4, 2) := by decide +kernel
theorem dX11_joined_14 : decode cX11_joined 14 = .ok (.invokestatic 109, 3) := by decide +kernel
theorem dX11_joined_17 : decode cX11_joined 17 = .ok (.istore 5, 2) := by decide +kernel
theorem dX11_joined_19 : decode cX11_joined 19 = .ok (.iload_n 1, 1) := by decide +kernel
theorem dX11_joined_20 : decode cX11_joined 20 = .ok (.iload 4, 2) := by decide +kernel
theorem dX11_joined_22 : decode cX11_joined 22 = .ok (.invokestatic 109, 3) := by decide +kernel
theorem dX11_joined_25 : decode cX11_joined 25 = .ok (.istore 6, 2) := by decide +kernel
theorem dX11_joined_27 : decode cX11_joined 27 = .ok (.iload_n 3, 1) := by decide +kernel
theorem dX11_joined_28 : decode cX11_joined 28 = .ok (.iload 4, 2) := by decide +kernel
theorem dX11_joined_30 : decode cX11_joined 30 = .ok (.invokestatic 105, 3) := by decide +kernel
theorem dX11_joined_33 : decode cX11_joined 33 = .ok (.iload 5, 2) := by decide +kernel
theorem dX11_joined_35 : decode cX11_joined 35 = .ok (.iload 6, 2) := by decide +kernel
theorem dX11_joined_37 : decode cX11_joined 37 = .ok (.if_icmp .ge 7, 3) := by decide +kernel
theorem dX11_joined_40 : decode cX11_joined 40 = .ok (.iconst 1, 1) := by decide +kernel
theorem dX11_joined_41 : decode cX11_joined 41 = .ok (.goto 4, 3) := by decide +kernel
theorem dX11_joined_44 : decode cX11_joined 44 = .ok (.iconst 0, 1) := by decide +kernel
theorem dX11_joined_45 : decode cX11_joined 45 = .ok (.iload_n 2, 1) := by decide +kernel
theorem dX11_joined_46 : decode cX11_joined 46 = .ok (.if_icmp .ne 8, 3) := by decide +kernel
theorem dX11_joined_49 : decode cX11_joined 49 = .ok (.iload 5, 2) := by decide +kernel
theorem dX11_joined_51 : decode cX11_joined 51 = .ok (.goto 5, 3) := by decide +kernel
theorem dX11_joined_54 : decode cX11_joined 54 = .ok (.iload 6, 2) := by decide +kernel
theorem dX11_joined_56 : decode cX11_joined 56 = .ok (.imul, 1) := by decide +kernel
theorem dX11_joined_57 : decode cX11_joined 57 = .ok (.iadd, 1) := by decide +kernel
theorem dX11_joined_58 : decode cX11_joined 58 = .ok (.istore_n 3, 1) := by decide +kernel
theorem dX11_joined_59 : decode cX11_joined 59 = .ok (.iinc 4 1, 3) := by decide +kernel
theorem dX11_joined_62 : decode cX11_joined 62 = .ok (.goto (-57), 3) := by decide +kernel
theorem dX11_joined_65 : decode cX11_joined 65 = .ok (.iload_n 3, 1) := by decide +kernel
theorem dX11_joined_66 : decode cX11_joined 66 = .ok (.ireturn, 1) := by decide +kernel
theorem dX11_join_0 : decode cX11_join 0 = .ok (.aload_n 0, 1) := by decide +kernel
theorem dX11_join_1 : decode cX11_join 1 = .ok (.iload_n 1, 1) := by decide +kernel
theorem dX11_join_2 : decode cX11_join 2 = .ok (.invokevirtual 113, 3) := by decide +kernel
theorem dX11_join_5 : decode cX11_join 5 = .ok (.ifCond .eq 11, 3) := by decide +kernel
theorem dX11_join_8 : decode cX11_join 8 = .ok (.aload_n 0, 1) := by decide +kernel
theorem dX11_join_9 : decode cX11_join 9 = .ok (.iload_n 2, 1) := by decide +kernel
theorem dX11_join_10 : decode cX11_join 10 = .ok (.invokevirtual 113, 3) := by decide +kernel
theorem dX11_join_13 : decode cX11_join 13 = .ok (.ifCond .ne 5, 3) := by decide +kernel
theorem dX11_join_16 : decode cX11_join 16 = .ok (.iconst (-1), 1) := by decide +kernel
theorem dX11_join_17 : decode cX11_join 17 = .ok (.ireturn, 1) := by decide +kernel
theorem dX11_join_18 : decode cX11_join 18 = .ok (.iload_n 3, 1) := by decide +kernel
theorem dX11_join_19 : decode cX11_join 19 = .ok (.iconst 0, 1) := by decide +kernel
theorem dX11_join_20 : decode cX11_join 20 = .ok (.iconst 1, 1) := by decide +kernel
theorem dX11_join_21 : decode cX11_join 21 = .ok (.invokestatic 79, 3) := by decide +kernel
theorem dX11_join_24 : decode cX11_join 24 = .ok (.ifCond .eq 21, 3) := by decide +kernel
theorem dX11_join_27 : decode cX11_join 27 = .ok (.iload_n 1, 1) := by decide +kernel
theorem dX11_join_28 : decode cX11_join 28 = .ok (.iload_n 2, 1) := by decide +kernel
theorem dX11_join_29 : decode cX11_join 29 = .ok (.iload_n 3, 1) := by decide +kernel
theorem dX11_join_30 : decode cX11_join 30 = .ok (.iconst 1, 1) := by decide +kernel
theorem dX11_join_31 : decode cX11_join 31 = .ok (.if_icmp .ne 7, 3) := by decide +kernel
theorem dX11_join_34 : decode cX11_join 34 = .ok (.iconst 1, 1) := by decide +kernel
theorem dX11_join_35 : decode cX11_join 35 = .ok (.goto 4, 3) := by decide +kernel
theorem dX11_join_38 : decode cX11_join 38 = .ok (.iconst 0, 1) := by decide +kernel
theorem dX11_join_39 : decode cX11_join 39 = .ok (.invokestatic 122, 3) := by decide +kernel
theorem dX11_join_42 : decode cX11_join 42 = .ok (.goto 5, 3) := by decide +kernel
theorem dX11_join_45 : decode cX11_join 45 = .ok (.bipush (-2), 2) := by decide +kernel
theorem dX11_join_47 : decode cX11_join 47 = .ok (.ireturn, 1) := by decide +kernel
theorem dX11_least_0 : decode cX11_least 0 = .ok (.aload_n 0, 1) := by decide +kernel
theorem dX11_least_1 : decode cX11_least 1 = .ok (.iload_n 1, 1) := by decide +kernel
theorem dX11_least_2 : decode cX11_least 2 = .ok (.invokevirtual 83, 3) := by decide +kernel
theorem dX11_least_5 : decode cX11_least 5 = .ok (.ifCond .eq 17, 3) := by decide +kernel
theorem dX11_least_8 : decode cX11_least 8 = .ok (.iload_n 2, 1) := by decide +kernel
theorem dX11_least_9 : decode cX11_least 9 = .ok (.iconst 0, 1) := by decide +kernel
theorem dX11_least_10 : decode cX11_least 10 = .ok (.aload_n 0, 1) := by decide +kernel
theorem dX11_least_11 : decode cX11_least 11 = .ok (.getfield 7, 3) := by decide +kernel
theorem dX11_least_14 : decode cX11_least 14 = .ok (.iload_n 1, 1) := by decide +kernel
theorem dX11_least_15 : decode cX11_least 15 = .ok (.iaload, 1) := by decide +kernel
theorem dX11_least_16 : decode cX11_least 16 = .ok (.invokestatic 79, 3) := by decide +kernel
theorem dX11_least_19 : decode cX11_least 19 = .ok (.ifCond .ne 5, 3) := by decide +kernel
theorem dX11_least_22 : decode cX11_least 22 = .ok (.iconst (-1), 1) := by decide +kernel
theorem dX11_least_23 : decode cX11_least 23 = .ok (.ireturn, 1) := by decide +kernel
theorem dX11_least_24 : decode cX11_least 24 = .ok (.iconst 0, 1) := by decide +kernel
theorem dX11_least_25 : decode cX11_least 25 = .ok (.istore_n 3, 1) := by decide +kernel
theorem dX11_least_26 : decode cX11_least 26 = .ok (.iconst 0, 1) := by decide +kernel
theorem dX11_least_27 : decode cX11_least 27 = .ok (.istore 4, 2) := by decide +kernel
theorem dX11_least_29 : decode cX11_least 29 = .ok (.iload 4, 2) := by decide +kernel
theorem dX11_least_31 : decode cX11_least 31 = .ok (.iconst 4, 1) := by decide +kernel
theorem dX11_least_32 : decode cX11_least 32 = .ok (.if_icmp .ge 40, 3) := by decide +kernel
theorem dX11_least_35 : decode cX11_least 35 = .ok (.iload_n 2, 1) := by decide +kernel
theorem dX11_least_36 : decode cX11_least 36 = .ok (.ifCond .le 36, 3) := by decide +kernel
theorem dX11_least_39 : decode cX11_least 39 = .ok (.iload_n 3, 1) := by decide +kernel
theorem dX11_least_40 : decode cX11_least 40 = .ok (.iload 4, 2) := by decide +kernel
theorem dX11_least_42 : decode cX11_least 42 = .ok (.invokestatic 105, 3) := by decide +kernel
theorem dX11_least_45 : decode cX11_least 45 = .ok (.aload_n 0, 1) := by decide +kernel
theorem dX11_least_46 : decode cX11_least 46 = .ok (.getfield 25, 3) := by decide +kernel
theorem dX11_least_49 : decode cX11_least 49 = .ok (.iconst 4, 1) := by decide +kernel
theorem dX11_least_50 : decode cX11_least 50 = .ok (.bipush 6, 2) := by decide +kernel
theorem dX11_least_52 : decode cX11_least 52 = .ok (.iload_n 1, 1) := by decide +kernel
theorem dX11_least_53 : decode cX11_least 53 = .ok (.imul, 1) := by decide +kernel
theorem dX11_least_54 : decode cX11_least 54 = .ok (.iload_n 2, 1) := by decide +kernel
theorem dX11_least_55 : decode cX11_least 55 = .ok (.iadd, 1) := by decide +kernel
theorem dX11_least_56 : decode cX11_least 56 = .ok (.iconst 1, 1) := by decide +kernel
theorem dX11_least_57 : decode cX11_least 57 = .ok (.isub, 1) := by decide +kernel
theorem dX11_least_58 : decode cX11_least 58 = .ok (.imul, 1) := by decide +kernel
theorem dX11_least_59 : decode cX11_least 59 = .ok (.iload 4, 2) := by decide +kernel
theorem dX11_least_61 : decode cX11_least 61 = .ok (.iadd, 1) := by decide +kernel
theorem dX11_least_62 : decode cX11_least 62 = .ok (.iaload, 1) := by decide +kernel
theorem dX11_least_63 : decode cX11_least 63 = .ok (.imul, 1) := by decide +kernel
theorem dX11_least_64 : decode cX11_least 64 = .ok (.iadd, 1) := by decide +kernel
theorem dX11_least_65 : decode cX11_least 65 = .ok (.istore_n 3, 1) := by decide +kernel
theorem dX11_least_66 : decode cX11_least 66 = .ok (.iinc 4 1, 3) := by decide +kernel
theorem dX11_least_69 : decode cX11_least 69 = .ok (.goto (-40), 3) := by decide +kernel
theorem dX11_least_72 : decode cX11_least 72 = .ok (.iload_n 3, 1) := by decide +kernel
theorem dX11_least_73 : decode cX11_least 73 = .ok (.ireturn, 1) := by decide +kernel
theorem dX11_open_0 : decode cX11_open 0 = .ok (.iconst 0, 1) := by decide +kernel
theorem dX11_open_1 : decode cX11_open 1 = .ok (.istore_n 1, 1) := by decide +kernel
theorem dX11_open_2 : decode cX11_open 2 = .ok (.iload_n 1, 1) := by decide +kernel
theorem dX11_open_3 : decode cX11_open 3 = .ok (.sipush 2401, 3) := by decide +kernel
theorem dX11_open_6 : decode cX11_open 6 = .ok (.if_icmp .ge 16, 3) := by decide +kernel
theorem dX11_open_9 : decode cX11_open 9 = .ok (.aload_n 0, 1) := by decide +kernel
theorem dX11_open_10 : decode cX11_open 10 = .ok (.getfield 40, 3) := by decide +kernel
theorem dX11_open_13 : decode cX11_open 13 = .ok (.iload_n 1, 1) := by decide +kernel
theorem dX11_open_14 : decode cX11_open 14 = .ok (.iconst 0, 1) := by decide +kernel
theorem dX11_open_15 : decode cX11_open 15 = .ok (.bastore, 1) := by decide +kernel
theorem dX11_open_16 : decode cX11_open 16 = .ok (.iinc 1 1, 3) := by decide +kernel
theorem dX11_open_19 : decode cX11_open 19 = .ok (.goto (-17), 3) := by decide +kernel
theorem dX11_open_22 : decode cX11_open 22 = .ok (.return_, 1) := by decide +kernel
theorem dX11_count_0 : decode cX11_count 0 = .ok (.aload_n 0, 1) := by decide +kernel
theorem dX11_count_1 : decode cX11_count 1 = .ok (.invokevirtual 126, 3) := by decide +kernel
theorem dX11_count_4 : decode cX11_count 4 = .ok (.istore_n 1, 1) := by decide +kernel
theorem dX11_count_5 : decode cX11_count 5 = .ok (.sipush 2400, 3) := by decide +kernel
theorem dX11_count_8 : decode cX11_count 8 = .ok (.istore_n 2, 1) := by decide +kernel
theorem dX11_count_9 : decode cX11_count 9 = .ok (.iload_n 2, 1) := by decide +kernel
theorem dX11_count_10 : decode cX11_count 10 = .ok (.ifCond .lt 129, 3) := by decide +kernel
theorem dX11_count_13 : decode cX11_count 13 = .ok (.aload_n 0, 1) := by decide +kernel
theorem dX11_count_14 : decode cX11_count 14 = .ok (.getfield 44, 3) := by decide +kernel
theorem dX11_count_17 : decode cX11_count 17 = .ok (.iload_n 2, 1) := by decide +kernel
theorem dX11_count_18 : decode cX11_count 18 = .ok (.lconst 0, 1) := by decide +kernel
theorem dX11_count_19 : decode cX11_count 19 = .ok (.lastore, 1) := by decide +kernel
theorem dX11_count_20 : decode cX11_count 20 = .ok (.aload_n 0, 1) := by decide +kernel
theorem dX11_count_21 : decode cX11_count 21 = .ok (.iload_n 2, 1) := by decide +kernel
theorem dX11_count_22 : decode cX11_count 22 = .ok (.invokevirtual 116, 3) := by decide +kernel
theorem dX11_count_25 : decode cX11_count 25 = .ok (.ifCond .eq 108, 3) := by decide +kernel
theorem dX11_count_28 : decode cX11_count 28 = .ok (.aload_n 0, 1) := by decide +kernel
theorem dX11_count_29 : decode cX11_count 29 = .ok (.getfield 40, 3) := by decide +kernel
theorem dX11_count_32 : decode cX11_count 32 = .ok (.iload_n 2, 1) := by decide +kernel
theorem dX11_count_33 : decode cX11_count 33 = .ok (.baload, 1) := by decide +kernel
theorem dX11_count_34 : decode cX11_count 34 = .ok (.ifCond .eq 6, 3) := by decide +kernel
theorem dX11_count_37 : decode cX11_count 37 = .ok (.goto 96, 3) := by decide +kernel
theorem dX11_count_40 : decode cX11_count 40 = .ok (.iload_n 2, 1) := by decide +kernel
theorem dX11_count_41 : decode cX11_count 41 = .ok (.iload_n 1, 1) := by decide +kernel
theorem dX11_count_42 : decode cX11_count 42 = .ok (.if_icmp .ne 10, 3) := by decide +kernel
theorem dX11_count_45 : decode cX11_count 45 = .ok (.aload_n 0, 1) := by decide +kernel
theorem dX11_count_46 : decode cX11_count 46 = .ok (.getfield 44, 3) := by decide +kernel
theorem dX11_count_49 : decode cX11_count 49 = .ok (.iload_n 2, 1) := by decide +kernel
theorem dX11_count_50 : decode cX11_count 50 = .ok (.lconst 1, 1) := by decide +kernel
theorem dX11_count_51 : decode cX11_count 51 = .ok (.lastore, 1) := by decide +kernel
theorem dX11_count_52 : decode cX11_count 52 = .ok (.iconst 0, 1) := by decide +kernel
theorem dX11_count_53 : decode cX11_count 53 = .ok (.istore_n 3, 1) := by decide +kernel
theorem dX11_count_54 : decode cX11_count 54 = .ok (.iload_n 3, 1) := by decide +kernel
theorem dX11_count_55 : decode cX11_count 55 = .ok (.aload_n 0, 1) := by decide +kernel
theorem dX11_count_56 : decode cX11_count 56 = .ok (.getfield 76, 3) := by decide +kernel
theorem dX11_count_59 : decode cX11_count 59 = .ok (.if_icmp .ge 43, 3) := by decide +kernel
theorem dX11_count_62 : decode cX11_count 62 = .ok (.iload_n 2, 1) := by decide +kernel
theorem dX11_count_63 : decode cX11_count 63 = .ok (.iload_n 3, 1) := by decide +kernel
theorem dX11_count_64 : decode cX11_count 64 = .ok (.invokestatic 109, 3) := by decide +kernel
theorem dX11_count_67 : decode cX11_count 67 = .ok (.aload_n 0, 1) := by decide +kernel
theorem dX11_count_68 : decode cX11_count 68 = .ok (.getfield 7, 3) := by decide +kernel
theorem dX11_count_71 : decode cX11_count 71 = .ok (.iload_n 3, 1) := by decide +kernel
theorem dX11_count_72 : decode cX11_count 72 = .ok (.iaload, 1) := by decide +kernel
theorem dX11_count_73 : decode cX11_count 73 = .ok (.if_icmp .ge 23, 3) := by decide +kernel
theorem dX11_count_76 : decode cX11_count 76 = .ok (.aload_n 0, 1) := by decide +kernel
theorem dX11_count_77 : decode cX11_count 77 = .ok (.getfield 44, 3) := by decide +kernel
theorem dX11_count_80 : decode cX11_count 80 = .ok (.iload_n 2, 1) := by decide +kernel
theorem dX11_count_81 : decode cX11_count 81 = .ok (.dup2, 1) := by decide +kernel
theorem dX11_count_82 : decode cX11_count 82 = .ok (.laload, 1) := by decide +kernel
theorem dX11_count_83 : decode cX11_count 83 = .ok (.aload_n 0, 1) := by decide +kernel
theorem dX11_count_84 : decode cX11_count 84 = .ok (.getfield 44, 3) := by decide +kernel
theorem dX11_count_87 : decode cX11_count 87 = .ok (.iload_n 2, 1) := by decide +kernel
theorem dX11_count_88 : decode cX11_count 88 = .ok (.iload_n 3, 1) := by decide +kernel
theorem dX11_count_89 : decode cX11_count 89 = .ok (.invokestatic 105, 3) := by decide +kernel
theorem dX11_count_92 : decode cX11_count 92 = .ok (.iadd, 1) := by decide +kernel
theorem dX11_count_93 : decode cX11_count 93 = .ok (.laload, 1) := by decide +kernel
theorem dX11_count_94 : decode cX11_count 94 = .ok (.ladd, 1) := by decide +kernel
theorem dX11_count_95 : decode cX11_count 95 = .ok (.lastore, 1) := by decide +kernel
theorem dX11_count_96 : decode cX11_count 96 = .ok (.iinc 3 1, 3) := by decide +kernel
theorem dX11_count_99 : decode cX11_count 99 = .ok (.goto (-45), 3) := by decide +kernel
theorem dX11_count_102 : decode cX11_count 102 = .ok (.aload_n 0, 1) := by decide +kernel
theorem dX11_count_103 : decode cX11_count 103 = .ok (.getfield 44, 3) := by decide +kernel
theorem dX11_count_106 : decode cX11_count 106 = .ok (.iload_n 2, 1) := by decide +kernel
theorem dX11_count_107 : decode cX11_count 107 = .ok (.aload_n 0, 1) := by decide +kernel
theorem dX11_count_108 : decode cX11_count 108 = .ok (.getfield 44, 3) := by decide +kernel
theorem dX11_count_111 : decode cX11_count 111 = .ok (.iload_n 2, 1) := by decide +kernel
theorem dX11_count_112 : decode cX11_count 112 = .ok (.laload, 1) := by decide +kernel
theorem dX11_count_113 : decode cX11_count 113 = .ok (.ldc2_w 130, 3) := by decide +kernel
theorem dX11_count_116 : decode cX11_count 116 = .ok (.lcmp, 1) := by decide +kernel
theorem dX11_count_117 : decode cX11_count 117 = .ok (.ifCond .le 9, 3) := by decide +kernel
theorem dX11_count_120 : decode cX11_count 120 = .ok (.ldc2_w 130, 3) := by decide +kernel
theorem dX11_count_123 : decode cX11_count 123 = .ok (.goto 9, 3) := by decide +kernel
theorem dX11_count_126 : decode cX11_count 126 = .ok (.aload_n 0, 1) := by decide +kernel
theorem dX11_count_127 : decode cX11_count 127 = .ok (.getfield 44, 3) := by decide +kernel
theorem dX11_count_130 : decode cX11_count 130 = .ok (.iload_n 2, 1) := by decide +kernel
theorem dX11_count_131 : decode cX11_count 131 = .ok (.laload, 1) := by decide +kernel
theorem dX11_count_132 : decode cX11_count 132 = .ok (.lastore, 1) := by decide +kernel
theorem dX11_count_133 : decode cX11_count 133 = .ok (.iinc 2 (-1), 3) := by decide +kernel
theorem dX11_count_136 : decode cX11_count 136 = .ok (.goto (-127), 3) := by decide +kernel
theorem dX11_count_139 : decode cX11_count 139 = .ok (.return_, 1) := by decide +kernel
theorem dX11_orders_0 : decode cX11_orders 0 = .ok (.aload_n 0, 1) := by decide +kernel
theorem dX11_orders_1 : decode cX11_orders 1 = .ok (.invokevirtual 132, 3) := by decide +kernel
theorem dX11_orders_4 : decode cX11_orders 4 = .ok (.aload_n 0, 1) := by decide +kernel
theorem dX11_orders_5 : decode cX11_orders 5 = .ok (.invokevirtual 135, 3) := by decide +kernel
theorem dX11_orders_8 : decode cX11_orders 8 = .ok (.aload_n 0, 1) := by decide +kernel
theorem dX11_orders_9 : decode cX11_orders 9 = .ok (.getfield 44, 3) := by decide +kernel
theorem dX11_orders_12 : decode cX11_orders 12 = .ok (.iconst 0, 1) := by decide +kernel
theorem dX11_orders_13 : decode cX11_orders 13 = .ok (.laload, 1) := by decide +kernel
theorem dX11_orders_14 : decode cX11_orders 14 = .ok (.lreturn, 1) := by decide +kernel
theorem dX11_walk_0 : decode cX11_walk 0 = .ok (.iconst 0, 1) := by decide +kernel
theorem dX11_walk_1 : decode cX11_walk 1 = .ok (.istore 4, 2) := by decide +kernel
theorem dX11_walk_3 : decode cX11_walk 3 = .ok (.lload_n 1, 1) := by decide +kernel
theorem dX11_walk_4 : decode cX11_walk 4 = .ok (.lstore 5, 2) := by decide +kernel
theorem dX11_walk_6 : decode cX11_walk 6 = .ok (.iconst 0, 1) := by decide +kernel
theorem dX11_walk_7 : decode cX11_walk 7 = .ok (.istore 7, 2) := by decide +kernel
theorem dX11_walk_9 : decode cX11_walk 9 = .ok (.iload 7, 2) := by decide +kernel
theorem dX11_walk_11 : decode cX11_walk 11 = .ok (.iload_n 3, 1) := by decide +kernel
theorem dX11_walk_12 : decode cX11_walk 12 = .ok (.if_icmp .gt 112, 3) := by decide +kernel
theorem dX11_walk_15 : decode cX11_walk 15 = .ok (.iconst 0, 1) := by decide +kernel
theorem dX11_walk_16 : decode cX11_walk 16 = .ok (.istore 8, 2) := by decide +kernel
theorem dX11_walk_18 : decode cX11_walk 18 = .ok (.iload 4, 2) := by decide +kernel
theorem dX11_walk_20 : decode cX11_walk 20 = .ok (.iload 8, 2) := by decide +kernel
theorem dX11_walk_22 : decode cX11_walk 22 = .ok (.invokestatic 109, 3) := by decide +kernel
theorem dX11_walk_25 : decode cX11_walk 25 = .ok (.aload_n 0, 1) := by decide +kernel
theorem dX11_walk_26 : decode cX11_walk 26 = .ok (.getfield 7, 3) := by decide +kernel
theorem dX11_walk_29 : decode cX11_walk 29 = .ok (.iload 8, 2) := by decide +kernel
theorem dX11_walk_31 : decode cX11_walk 31 = .ok (.iaload, 1) := by decide +kernel
theorem dX11_walk_32 : decode cX11_walk 32 = .ok (.if_icmp .eq 22, 3) := by decide +kernel
theorem dX11_walk_35 : decode cX11_walk 35 = .ok (.lload 5, 2) := by decide +kernel
theorem dX11_walk_37 : decode cX11_walk 37 = .ok (.aload_n 0, 1) := by decide +kernel
theorem dX11_walk_38 : decode cX11_walk 38 = .ok (.getfield 44, 3) := by decide +kernel
theorem dX11_walk_41 : decode cX11_walk 41 = .ok (.iload 4, 2) := by decide +kernel
theorem dX11_walk_43 : decode cX11_walk 43 = .ok (.iload 8, 2) := by decide +kernel
theorem dX11_walk_45 : decode cX11_walk 45 = .ok (.invokestatic 105, 3) := by decide +kernel
theorem dX11_walk_48 : decode cX11_walk 48 = .ok (.iadd, 1) := by decide +kernel
theorem dX11_walk_49 : decode cX11_walk 49 = .ok (.laload, 1) := by decide +kernel
theorem dX11_walk_50 : decode cX11_walk 50 = .ok (.lcmp, 1) := by decide +kernel
theorem dX11_walk_51 : decode cX11_walk 51 = .ok (.ifCond .lt 48, 3) := by decide +kernel
theorem dX11_walk_54 : decode cX11_walk 54 = .ok (.lload 5, 2) := by decide +kernel
theorem dX11_walk_56 : decode cX11_walk 56 = .ok (.iload 4, 2) := by decide +kernel
theorem dX11_walk_58 : decode cX11_walk 58 = .ok (.iload 8, 2) := by decide +kernel
theorem dX11_walk_60 : decode cX11_walk 60 = .ok (.invokestatic 109, 3) := by decide +kernel
theorem dX11_walk_63 : decode cX11_walk 63 = .ok (.aload_n 0, 1) := by decide +kernel
theorem dX11_walk_64 : decode cX11_walk 64 = .ok (.getfield 7, 3) := by decide +kernel
theorem dX11_walk_67 : decode cX11_walk 67 = .ok (.iload 8, 2) := by decide +kernel
theorem dX11_walk_69 : decode cX11_walk 69 = .ok (.iaload, 1) := by decide +kernel
theorem dX11_walk_70 : decode cX11_walk 70 = .ok (.if_icmp .ne 7, 3) := by decide +kernel
theorem dX11_walk_73 : decode cX11_walk 73 = .ok (.lconst 0, 1) := by decide +kernel
theorem dX11_walk_74 : decode cX11_walk 74 = .ok (.goto 16, 3) := by decide +kernel
theorem dX11_walk_77 : decode cX11_walk 77 = .ok (.aload_n 0, 1) := by decide +kernel
theorem dX11_walk_78 : decode cX11_walk 78 = .ok (.getfield 44, 3) := by decide +kernel
theorem dX11_walk_81 : decode cX11_walk 81 = .ok (.iload 4, 2) := by decide +kernel
theorem dX11_walk_83 : decode cX11_walk 83 = .ok (.iload 8, 2) := by decide +kernel
theorem dX11_walk_85 : decode cX11_walk 85 = .ok (.invokestatic 105, 3) := by decide +kernel
theorem dX11_walk_88 : decode cX11_walk 88 = .ok (.iadd, 1) := by decide +kernel
theorem dX11_walk_89 : decode cX11_walk 89 = .ok (.laload, 1) := by decide +kernel
theorem dX11_walk_90 : decode cX11_walk 90 = .ok (.lsub, 1) := by decide +kernel
theorem dX11_walk_91 : decode cX11_walk 91 = .ok (.lstore 5, 2) := by decide +kernel
theorem dX11_walk_93 : decode cX11_walk 93 = .ok (.iinc 8 1, 3) := by decide +kernel
theorem dX11_walk_96 : decode cX11_walk 96 = .ok (.goto (-78), 3) := by decide +kernel
theorem dX11_walk_99 : decode cX11_walk 99 = .ok (.iload 4, 2) := by decide +kernel
theorem dX11_walk_101 : decode cX11_walk 101 = .ok (.iload 8, 2) := by decide +kernel
theorem dX11_walk_103 : decode cX11_walk 103 = .ok (.invokestatic 105, 3) := by decide +kernel
theorem dX11_walk_106 : decode cX11_walk 106 = .ok (.iadd, 1) := by decide +kernel
theorem dX11_walk_107 : decode cX11_walk 107 = .ok (.istore 4, 2) := by decide +kernel
theorem dX11_walk_109 : decode cX11_walk 109 = .ok (.iload 7, 2) := by decide +kernel
theorem dX11_walk_111 : decode cX11_walk 111 = .ok (.iload_n 3, 1) := by decide +kernel
theorem dX11_walk_112 : decode cX11_walk 112 = .ok (.if_icmp .ne 6, 3) := by decide +kernel
theorem dX11_walk_115 : decode cX11_walk 115 = .ok (.iload 8, 2) := by decide +kernel
theorem dX11_walk_117 : decode cX11_walk 117 = .ok (.ireturn, 1) := by decide +kernel
theorem dX11_walk_118 : decode cX11_walk 118 = .ok (.iinc 7 1, 3) := by decide +kernel
theorem dX11_walk_121 : decode cX11_walk 121 = .ok (.goto (-112), 3) := by decide +kernel
theorem dX11_walk_124 : decode cX11_walk 124 = .ok (.iconst (-1), 1) := by decide +kernel
theorem dX11_walk_125 : decode cX11_walk 125 = .ok (.ireturn, 1) := by decide +kernel
theorem dX11_order_0 : decode cX11_order 0 = .ok (.aload_n 0, 1) := by decide +kernel
theorem dX11_order_1 : decode cX11_order 1 = .ok (.invokevirtual 132, 3) := by decide +kernel
theorem dX11_order_4 : decode cX11_order 4 = .ok (.aload_n 0, 1) := by decide +kernel
theorem dX11_order_5 : decode cX11_order 5 = .ok (.invokevirtual 135, 3) := by decide +kernel
theorem dX11_order_8 : decode cX11_order 8 = .ok (.lload_n 1, 1) := by decide +kernel
theorem dX11_order_9 : decode cX11_order 9 = .ok (.lconst 0, 1) := by decide +kernel
theorem dX11_order_10 : decode cX11_order 10 = .ok (.lcmp, 1) := by decide +kernel
theorem dX11_order_11 : decode cX11_order 11 = .ok (.ifCond .lt 28, 3) := by decide +kernel
theorem dX11_order_14 : decode cX11_order 14 = .ok (.lload_n 1, 1) := by decide +kernel
theorem dX11_order_15 : decode cX11_order 15 = .ok (.aload_n 0, 1) := by decide +kernel
theorem dX11_order_16 : decode cX11_order 16 = .ok (.getfield 44, 3) := by decide +kernel
theorem dX11_order_19 : decode cX11_order 19 = .ok (.iconst 0, 1) := by decide +kernel
theorem dX11_order_20 : decode cX11_order 20 = .ok (.laload, 1) := by decide +kernel
theorem dX11_order_21 : decode cX11_order 21 = .ok (.lcmp, 1) := by decide +kernel
theorem dX11_order_22 : decode cX11_order 22 = .ok (.ifCond .ge 17, 3) := by decide +kernel
theorem dX11_order_25 : decode cX11_order 25 = .ok (.iload_n 3, 1) := by decide +kernel
theorem dX11_order_26 : decode cX11_order 26 = .ok (.iconst 0, 1) := by decide +kernel
theorem dX11_order_27 : decode cX11_order 27 = .ok (.aload_n 0, 1) := by decide +kernel
theorem dX11_order_28 : decode cX11_order 28 = .ok (.getfield 87, 3) := by decide +kernel
theorem dX11_order_31 : decode cX11_order 31 = .ok (.iconst 1, 1) := by decide +kernel
theorem dX11_order_32 : decode cX11_order 32 = .ok (.isub, 1) := by decide +kernel
theorem dX11_order_33 : decode cX11_order 33 = .ok (.invokestatic 79, 3) := by decide +kernel
theorem dX11_order_36 : decode cX11_order 36 = .ok (.ifCond .ne 5, 3) := by decide +kernel
theorem dX11_order_39 : decode cX11_order 39 = .ok (.iconst (-1), 1) := by decide +kernel
theorem dX11_order_40 : decode cX11_order 40 = .ok (.ireturn, 1) := by decide +kernel
theorem dX11_order_41 : decode cX11_order 41 = .ok (.aload_n 0, 1) := by decide +kernel
theorem dX11_order_42 : decode cX11_order 42 = .ok (.lload_n 1, 1) := by decide +kernel
theorem dX11_order_43 : decode cX11_order 43 = .ok (.iload_n 3, 1) := by decide +kernel
theorem dX11_order_44 : decode cX11_order 44 = .ok (.invokevirtual 138, 3) := by decide +kernel
theorem dX11_order_47 : decode cX11_order 47 = .ok (.ireturn, 1) := by decide +kernel
theorem dX11_push_0 : decode cX11_push 0 = .ok (.aload_n 0, 1) := by decide +kernel
theorem dX11_push_1 : decode cX11_push 1 = .ok (.getfield 142, 3) := by decide +kernel
theorem dX11_push_4 : decode cX11_push 4 = .ok (.bipush 6, 2) := by decide +kernel
theorem dX11_push_6 : decode cX11_push 6 = .ok (.if_icmp .ne 6, 3) := by decide +kernel
theorem dX11_push_9 : decode cX11_push 9 = .ok (.bipush (-4), 2) := by decide +kernel
theorem dX11_push_11 : decode cX11_push 11 = .ok (.ireturn, 1) := by decide +kernel
theorem dX11_push_12 : decode cX11_push 12 = .ok (.bipush 15, 2) := by decide +kernel
theorem dX11_push_14 : decode cX11_push 14 = .ok (.bipush 8, 2) := by decide +kernel
theorem dX11_push_16 : decode cX11_push 16 = .ok (.aload_n 0, 1) := by decide +kernel
theorem dX11_push_17 : decode cX11_push 17 = .ok (.getfield 142, 3) := by decide +kernel
theorem dX11_push_20 : decode cX11_push 20 = .ok (.iadd, 1) := by decide +kernel
theorem dX11_push_21 : decode cX11_push 21 = .ok (.imul, 1) := by decide +kernel
theorem dX11_push_22 : decode cX11_push 22 = .ok (.istore 4, 2) := by decide +kernel
theorem dX11_push_24 : decode cX11_push 24 = .ok (.aload_n 0, 1) := by decide +kernel
theorem dX11_push_25 : decode cX11_push 25 = .ok (.getfield 48, 3) := by decide +kernel
theorem dX11_push_28 : decode cX11_push 28 = .ok (.iload 4, 2) := by decide +kernel
theorem dX11_push_30 : decode cX11_push 30 = .ok (.iload_n 1, 1) := by decide +kernel
theorem dX11_push_31 : decode cX11_push 31 = .ok (.iastore, 1) := by decide +kernel
theorem dX11_push_32 : decode cX11_push 32 = .ok (.aload_n 0, 1) := by decide +kernel
theorem dX11_push_33 : decode cX11_push 33 = .ok (.getfield 51, 3) := by decide +kernel
theorem dX11_push_36 : decode cX11_push 36 = .ok (.iload 4, 2) := by decide +kernel
theorem dX11_push_38 : decode cX11_push 38 = .ok (.iload_n 2, 1) := by decide +kernel
theorem dX11_push_39 : decode cX11_push 39 = .ok (.iastore, 1) := by decide +kernel
theorem dX11_push_40 : decode cX11_push 40 = .ok (.aload_n 0, 1) := by decide +kernel
theorem dX11_push_41 : decode cX11_push 41 = .ok (.getfield 54, 3) := by decide +kernel
theorem dX11_push_44 : decode cX11_push 44 = .ok (.iload 4, 2) := by decide +kernel
theorem dX11_push_46 : decode cX11_push 46 = .ok (.iload_n 3, 1) := by decide +kernel
theorem dX11_push_47 : decode cX11_push 47 = .ok (.iastore, 1) := by decide +kernel
theorem dX11_push_48 : decode cX11_push 48 = .ok (.aload_n 0, 1) := by decide +kernel
theorem dX11_push_49 : decode cX11_push 49 = .ok (.getfield 57, 3) := by decide +kernel
theorem dX11_push_52 : decode cX11_push 52 = .ok (.bipush 8, 2) := by decide +kernel
theorem dX11_push_54 : decode cX11_push 54 = .ok (.aload_n 0, 1) := by decide +kernel
theorem dX11_push_55 : decode cX11_push 55 = .ok (.getfield 142, 3) := by decide +kernel
theorem dX11_push_58 : decode cX11_push 58 = .ok (.iadd, 1) := by decide +kernel
theorem dX11_push_59 : decode cX11_push 59 = .ok (.iconst 1, 1) := by decide +kernel
theorem dX11_push_60 : decode cX11_push 60 = .ok (.iastore, 1) := by decide +kernel
theorem dX11_push_61 : decode cX11_push 61 = .ok (.aload_n 0, 1) := by decide +kernel
theorem dX11_push_62 : decode cX11_push 62 = .ok (.dup, 1) := by decide +kernel
theorem dX11_push_63 : decode cX11_push 63 = .ok (.getfield 142, 3) := by decide +kernel
theorem dX11_push_66 : decode cX11_push 66 = .ok (.iconst 1, 1) := by decide +kernel
theorem dX11_push_67 : decode cX11_push 67 = .ok (.iadd, 1) := by decide +kernel
theorem dX11_push_68 : decode cX11_push 68 = .ok (.putfield 142, 3) := by decide +kernel
theorem dX11_push_71 : decode cX11_push 71 = .ok (.aload_n 0, 1) := by decide +kernel
theorem dX11_push_72 : decode cX11_push 72 = .ok (.getfield 142, 3) := by decide +kernel
theorem dX11_push_75 : decode cX11_push 75 = .ok (.ireturn, 1) := by decide +kernel
theorem dX11_number_0 : decode cX11_number 0 = .ok (.aload_n 0, 1) := by decide +kernel
theorem dX11_number_1 : decode cX11_number 1 = .ok (.bipush 10, 2) := by decide +kernel
theorem dX11_number_3 : decode cX11_number 3 = .ok (.iload_n 1, 1) := by decide +kernel
theorem dX11_number_4 : decode cX11_number 4 = .ok (.iconst 0, 1) := by decide +kernel
theorem dX11_number_5 : decode cX11_number 5 = .ok (.invokevirtual 145, 3) := by decide +kernel
theorem dX11_number_8 : decode cX11_number 8 = .ok (.ireturn, 1) := by decide +kernel
theorem dX11_part__0 : decode cX11_part_ 0 = .ok (.iload_n 1, 1) := by decide +kernel
theorem dX11_part__1 : decode cX11_part_ 1 = .ok (.iconst 0, 1) := by decide +kernel
theorem dX11_part__2 : decode cX11_part_ 2 = .ok (.iconst 2, 1) := by decide +kernel
theorem dX11_part__3 : decode cX11_part_ 3 = .ok (.invokestatic 79, 3) := by decide +kernel
theorem dX11_part__6 : decode cX11_part_ 6 = .ok (.ifCond .eq 29, 3) := by decide +kernel
theorem dX11_part__9 : decode cX11_part_ 9 = .ok (.iload_n 2, 1) := by decide +kernel
theorem dX11_part__10 : decode cX11_part_ 10 = .ok (.iconst 0, 1) := by decide +kernel
theorem dX11_part__11 : decode cX11_part_ 11 = .ok (.iconst 3, 1) := by decide +kernel
theorem dX11_part__12 : decode cX11_part_ 12 = .ok (.invokestatic 79, 3) := by decide +kernel
theorem dX11_part__15 : decode cX11_part_ 15 = .ok (.ifCond .eq 20, 3) := by decide +kernel
theorem dX11_part__18 : decode cX11_part_ 18 = .ok (.iload_n 3, 1) := by decide +kernel
theorem dX11_part__19 : decode cX11_part_ 19 = .ok (.iconst 0, 1) := by decide +kernel
theorem dX11_part__20 : decode cX11_part_ 20 = .ok (.iload_n 1, 1) := by decide +kernel
theorem dX11_part__21 : decode cX11_part_ 21 = .ok (.ifCond .ne 7, 3) := by decide +kernel
theorem dX11_part__24 : decode cX11_part_ 24 = .ok (.iconst 2, 1) := by decide +kernel
theorem dX11_part__25 : decode cX11_part_ 25 = .ok (.goto 4, 3) := by decide +kernel
theorem dX11_part__28 : decode cX11_part_ 28 = .ok (.iconst 3, 1) := by decide +kernel
theorem dX11_part__29 : decode cX11_part_ 29 = .ok (.invokestatic 79, 3) := by decide +kernel
theorem dX11_part__32 : decode cX11_part_ 32 = .ok (.ifCond .ne 5, 3) := by decide +kernel
theorem dX11_part__35 : decode cX11_part_ 35 = .ok (.iconst (-1), 1) := by decide +kernel
theorem dX11_part__36 : decode cX11_part_ 36 = .ok (.ireturn, 1) := by decide +kernel
theorem dX11_part__37 : decode cX11_part_ 37 = .ok (.iload_n 1, 1) := by decide +kernel
theorem dX11_part__38 : decode cX11_part_ 38 = .ok (.iconst 1, 1) := by decide +kernel
theorem dX11_part__39 : decode cX11_part_ 39 = .ok (.if_icmp .ne 8, 3) := by decide +kernel
theorem dX11_part__42 : decode cX11_part_ 42 = .ok (.iload_n 2, 1) := by decide +kernel
theorem dX11_part__43 : decode cX11_part_ 43 = .ok (.iload_n 3, 1) := by decide +kernel
theorem dX11_part__44 : decode cX11_part_ 44 = .ok (.if_icmp .eq 12, 3) := by decide +kernel
theorem dX11_part__47 : decode cX11_part_ 47 = .ok (.iload_n 1, 1) := by decide +kernel
theorem dX11_part__48 : decode cX11_part_ 48 = .ok (.iconst 2, 1) := by decide +kernel
theorem dX11_part__49 : decode cX11_part_ 49 = .ok (.if_icmp .ne 10, 3) := by decide +kernel
theorem dX11_part__52 : decode cX11_part_ 52 = .ok (.iload_n 3, 1) := by decide +kernel
theorem dX11_part__53 : decode cX11_part_ 53 = .ok (.ifCond .eq 6, 3) := by decide +kernel
theorem dX11_part__56 : decode cX11_part_ 56 = .ok (.bipush (-2), 2) := by decide +kernel
theorem dX11_part__58 : decode cX11_part_ 58 = .ok (.ireturn, 1) := by decide +kernel
theorem dX11_part__59 : decode cX11_part_ 59 = .ok (.aload_n 0, 1) := by decide +kernel
theorem dX11_part__60 : decode cX11_part_ 60 = .ok (.bipush 11, 2) := by decide +kernel
theorem dX11_part__62 : decode cX11_part_ 62 = .ok (.iload_n 1, 1) := by decide +kernel
theorem dX11_part__63 : decode cX11_part_ 63 = .ok (.iadd, 1) := by decide +kernel
theorem dX11_part__64 : decode cX11_part_ 64 = .ok (.iload_n 2, 1) := by decide +kernel
theorem dX11_part__65 : decode cX11_part_ 65 = .ok (.iload_n 3, 1) := by decide +kernel
theorem dX11_part__66 : decode cX11_part_ 66 = .ok (.invokevirtual 145, 3) := by decide +kernel
theorem dX11_part__69 : decode cX11_part_ 69 = .ok (.ireturn, 1) := by decide +kernel
theorem dX11_copy_0 : decode cX11_copy 0 = .ok (.iconst 0, 1) := by decide +kernel
theorem dX11_copy_1 : decode cX11_copy 1 = .ok (.istore_n 3, 1) := by decide +kernel
theorem dX11_copy_2 : decode cX11_copy 2 = .ok (.iload_n 3, 1) := by decide +kernel
theorem dX11_copy_3 : decode cX11_copy 3 = .ok (.aload_n 0, 1) := by decide +kernel
theorem dX11_copy_4 : decode cX11_copy 4 = .ok (.getfield 57, 3) := by decide +kernel
theorem dX11_copy_7 : decode cX11_copy 7 = .ok (.iload_n 1, 1) := by decide +kernel
theorem dX11_copy_8 : decode cX11_copy 8 = .ok (.iaload, 1) := by decide +kernel
theorem dX11_copy_9 : decode cX11_copy 9 = .ok (.if_icmp .ge 86, 3) := by decide +kernel
theorem dX11_copy_12 : decode cX11_copy 12 = .ok (.bipush 15, 2) := by decide +kernel
theorem dX11_copy_14 : decode cX11_copy 14 = .ok (.iload_n 2, 1) := by decide +kernel
theorem dX11_copy_15 : decode cX11_copy 15 = .ok (.imul, 1) := by decide +kernel
theorem dX11_copy_16 : decode cX11_copy 16 = .ok (.aload_n 0, 1) := by decide +kernel
theorem dX11_copy_17 : decode cX11_copy 17 = .ok (.getfield 57, 3) := by decide +kernel
theorem dX11_copy_20 : decode cX11_copy 20 = .ok (.iload_n 2, 1) := by decide +kernel
theorem dX11_copy_21 : decode cX11_copy 21 = .ok (.iaload, 1) := by decide +kernel
theorem dX11_copy_22 : decode cX11_copy 22 = .ok (.iadd, 1) := by decide +kernel
theorem dX11_copy_23 : decode cX11_copy 23 = .ok (.istore 4, 2) := by decide +kernel
theorem dX11_copy_25 : decode cX11_copy 25 = .ok (.aload_n 0, 1) := by decide +kernel
theorem dX11_copy_26 : decode cX11_copy 26 = .ok (.getfield 48, 3) := by decide +kernel
theorem dX11_copy_29 : decode cX11_copy 29 = .ok (.iload 4, 2) := by decide +kernel
theorem dX11_copy_31 : decode cX11_copy 31 = .ok (.aload_n 0, 1) := by decide +kernel
theorem dX11_copy_32 : decode cX11_copy 32 = .ok (.getfield 48, 3) := by decide +kernel
theorem dX11_copy_35 : decode cX11_copy 35 = .ok (.bipush 15, 2) := by decide +kernel
theorem dX11_copy_37 : decode cX11_copy 37 = .ok (.iload_n 1, 1) := by decide +kernel
theorem dX11_copy_38 : decode cX11_copy 38 = .ok (.imul, 1) := by decide +kernel
theorem dX11_copy_39 : decode cX11_copy 39 = .ok (.iload_n 3, 1) := by decide +kernel
theorem dX11_copy_40 : decode cX11_copy 40 = .ok (.iadd, 1) := by decide +kernel
theorem dX11_copy_41 : decode cX11_copy 41 = .ok (.iaload, 1) := by decide +kernel
theorem dX11_copy_42 : decode cX11_copy 42 = .ok (.iastore, 1) := by decide +kernel
theorem dX11_copy_43 : decode cX11_copy 43 = .ok (.aload_n 0, 1) := by decide +kernel
theorem dX11_copy_44 : decode cX11_copy 44 = .ok (.getfield 51, 3) := by decide +kernel
theorem dX11_copy_47 : decode cX11_copy 47 = .ok (.iload 4, 2) := by decide +kernel
theorem dX11_copy_49 : decode cX11_copy 49 = .ok (.aload_n 0, 1) := by decide +kernel
theorem dX11_copy_50 : decode cX11_copy 50 = .ok (.getfield 51, 3) := by decide +kernel
theorem dX11_copy_53 : decode cX11_copy 53 = .ok (.bipush 15, 2) := by decide +kernel
theorem dX11_copy_55 : decode cX11_copy 55 = .ok (.iload_n 1, 1) := by decide +kernel
theorem dX11_copy_56 : decode cX11_copy 56 = .ok (.imul, 1) := by decide +kernel
theorem dX11_copy_57 : decode cX11_copy 57 = .ok (.iload_n 3, 1) := by decide +kernel
theorem dX11_copy_58 : decode cX11_copy 58 = .ok (.iadd, 1) := by decide +kernel
theorem dX11_copy_59 : decode cX11_copy 59 = .ok (.iaload, 1) := by decide +kernel
theorem dX11_copy_60 : decode cX11_copy 60 = .ok (.iastore, 1) := by decide +kernel
theorem dX11_copy_61 : decode cX11_copy 61 = .ok (.aload_n 0, 1) := by decide +kernel
theorem dX11_copy_62 : decode cX11_copy 62 = .ok (.getfield 54, 3) := by decide +kernel
theorem dX11_copy_65 : decode cX11_copy 65 = .ok (.iload 4, 2) := by decide +kernel
theorem dX11_copy_67 : decode cX11_copy 67 = .ok (.aload_n 0, 1) := by decide +kernel
theorem dX11_copy_68 : decode cX11_copy 68 = .ok (.getfield 54, 3) := by decide +kernel
theorem dX11_copy_71 : decode cX11_copy 71 = .ok (.bipush 15, 2) := by decide +kernel
theorem dX11_copy_73 : decode cX11_copy 73 = .ok (.iload_n 1, 1) := by decide +kernel
theorem dX11_copy_74 : decode cX11_copy 74 = .ok (.imul, 1) := by decide +kernel
theorem dX11_copy_75 : decode cX11_copy 75 = .ok (.iload_n 3, 1) := by decide +kernel
theorem dX11_copy_76 : decode cX11_copy 76 = .ok (.iadd, 1) := by decide +kernel
theorem dX11_copy_77 : decode cX11_copy 77 = .ok (.iaload, 1) := by decide +kernel
theorem dX11_copy_78 : decode cX11_copy 78 = .ok (.iastore, 1) := by decide +kernel
theorem dX11_copy_79 : decode cX11_copy 79 = .ok (.aload_n 0, 1) := by decide +kernel
theorem dX11_copy_80 : decode cX11_copy 80 = .ok (.getfield 57, 3) := by decide +kernel
theorem dX11_copy_83 : decode cX11_copy 83 = .ok (.iload_n 2, 1) := by decide +kernel
theorem dX11_copy_84 : decode cX11_copy 84 = .ok (.dup2, 1) := by decide +kernel
theorem dX11_copy_85 : decode cX11_copy 85 = .ok (.iaload, 1) := by decide +kernel
theorem dX11_copy_86 : decode cX11_copy 86 = .ok (.iconst 1, 1) := by decide +kernel
theorem dX11_copy_87 : decode cX11_copy 87 = .ok (.iadd, 1) := by decide +kernel
theorem dX11_copy_88 : decode cX11_copy 88 = .ok (.iastore, 1) := by decide +kernel
theorem dX11_copy_89 : decode cX11_copy 89 = .ok (.iinc 3 1, 3) := by decide +kernel
theorem dX11_copy_92 : decode cX11_copy 92 = .ok (.goto (-90), 3) := by decide +kernel
theorem dX11_copy_95 : decode cX11_copy 95 = .ok (.return_, 1) := by decide +kernel
