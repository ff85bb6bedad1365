theorem dX10_undo_0 : decode cX10_undo 0 = .ok (.aload_n 0, 1) := by decide +kernel
theorem dX10_undo_1 : decode cX10_undo 1 = .ok (.getfield 10, 3) := by decide +kernel
theorem dX10_undo_4 : decode cX10_undo 4 = .ok (.getfield 117, 3) := by decide +kernel
theorem dX10_undo_7 : decode cX10_undo 7 = .ok (.ifCond .ne 8, 3) := by decide +kernel
theorem dX10_undo_10 : decode cX10_undo 10 = .ok (.bipush (-3), 2) := by decide +kernel
theorem dX10_undo_12 : decode cX10_undo 12 = .ok (.goto 10, 3) := by decide +kernel
theorem dX10_undo_15 : decode cX10_undo 15 = .ok (.aload_n 0, 1) := by decide +kernel
theorem dX10_undo_16 : decode cX10_undo 16 = .ok (.getfield 10, 3) := by decide +kernel
theorem dX10_undo_19 : decode cX10_undo 19 = .ok (.invokevirtual 120, 3) := by decide +kernel
theorem dX10_undo_22 : decode cX10_undo 22 = .ok (.ireturn, 1) := by decide +kernel
theorem dX10_event_0 : decode cX10_event 0 = .ok (.aload_n 0, 1) := by decide +kernel
theorem dX10_event_1 : decode cX10_event 1 = .ok (.getfield 10, 3) := by decide +kernel
theorem dX10_event_4 : decode cX10_event 4 = .ok (.iload_n 1, 1) := by decide +kernel
theorem dX10_event_5 : decode cX10_event 5 = .ok (.iload_n 2, 1) := by decide +kernel
theorem dX10_event_6 : decode cX10_event 6 = .ok (.invokevirtual 124, 3) := by decide +kernel
theorem dX10_event_9 : decode cX10_event 9 = .ok (.ifCond .ne 5, 3) := by decide +kernel
theorem dX10_event_12 : decode cX10_event 12 = .ok (.iconst (-1), 1) := by decide +kernel
theorem dX10_event_13 : decode cX10_event 13 = .ok (.ireturn, 1) := by decide +kernel
theorem dX10_event_14 : decode cX10_event 14 = .ok (.iload_n 1, 1) := by decide +kernel
theorem dX10_event_15 : decode cX10_event 15 = .ok (.iload_n 2, 1) := by decide +kernel
theorem dX10_event_16 : decode cX10_event 16 = .ok (.invokestatic 128, 3) := by decide +kernel
theorem dX10_event_19 : decode cX10_event 19 = .ok (.istore 4, 2) := by decide +kernel
theorem dX10_event_21 : decode cX10_event 21 = .ok (.iload_n 3, 1) := by decide +kernel
theorem dX10_event_22 : decode cX10_event 22 = .ok (.tableswitch 59 0 2 #[26, 37, 48], 26) := by decide +kernel
theorem dX10_event_48 : decode cX10_event 48 = .ok (.aload_n 0, 1) := by decide +kernel
theorem dX10_event_49 : decode cX10_event 49 = .ok (.getfield 10, 3) := by decide +kernel
theorem dX10_event_52 : decode cX10_event 52 = .ok (.getfield 131, 3) := by decide +kernel
theorem dX10_event_55 : decode cX10_event 55 = .ok (.iload 4, 2) := by decide +kernel
theorem dX10_event_57 : decode cX10_event 57 = .ok (.iaload, 1) := by decide +kernel
theorem dX10_event_58 : decode cX10_event 58 = .ok (.ireturn, 1) := by decide +kernel
theorem dX10_event_59 : decode cX10_event 59 = .ok (.aload_n 0, 1) := by decide +kernel
theorem dX10_event_60 : decode cX10_event 60 = .ok (.getfield 10, 3) := by decide +kernel
theorem dX10_event_63 : decode cX10_event 63 = .ok (.getfield 134, 3) := by decide +kernel
theorem dX10_event_66 : decode cX10_event 66 = .ok (.iload 4, 2) := by decide +kernel
theorem dX10_event_68 : decode cX10_event 68 = .ok (.iaload, 1) := by decide +kernel
theorem dX10_event_69 : decode cX10_event 69 = .ok (.ireturn, 1) := by decide +kernel
theorem dX10_event_70 : decode cX10_event 70 = .ok (.aload_n 0, 1) := by decide +kernel
theorem dX10_event_71 : decode cX10_event 71 = .ok (.getfield 10, 3) := by decide +kernel
theorem dX10_event_74 : decode cX10_event 74 = .ok (.getfield 137, 3) := by decide +kernel
theorem dX10_event_77 : decode cX10_event 77 = .ok (.iload 4, 2) := by decide +kernel
theorem dX10_event_79 : decode cX10_event 79 = .ok (.iaload, 1) := by decide +kernel
theorem dX10_event_80 : decode cX10_event 80 = .ok (.ireturn, 1) := by decide +kernel
theorem dX10_event_81 : decode cX10_event 81 = .ok (.iconst (-1), 1) := by decide +kernel
theorem dX10_event_82 : decode cX10_event 82 = .ok (.ireturn, 1) := by decide +kernel
theorem dX10_letter_0 : decode cX10_letter 0 = .ok (.aload_n 0, 1) := by decide +kernel
theorem dX10_letter_1 : decode cX10_letter 1 = .ok (.getfield 10, 3) := by decide +kernel
theorem dX10_letter_4 : decode cX10_letter 4 = .ok (.getfield 94, 3) := by decide +kernel
theorem dX10_letter_7 : decode cX10_letter 7 = .ok (.astore_n 3, 1) := by decide +kernel
theorem dX10_letter_8 : decode cX10_letter 8 = .ok (.aload_n 3, 1) := by decide +kernel
theorem dX10_letter_9 : decode cX10_letter 9 = .ok (.iload_n 1, 1) := by decide +kernel
theorem dX10_letter_10 : decode cX10_letter 10 = .ok (.invokevirtual 98, 3) := by decide +kernel
theorem dX10_letter_13 : decode cX10_letter 13 = .ok (.ifCond .ne 5, 3) := by decide +kernel
theorem dX10_letter_16 : decode cX10_letter 16 = .ok (.iconst (-1), 1) := by decide +kernel
theorem dX10_letter_17 : decode cX10_letter 17 = .ok (.ireturn, 1) := by decide +kernel
theorem dX10_letter_18 : decode cX10_letter 18 = .ok (.iload_n 2, 1) := by decide +kernel
theorem dX10_letter_19 : decode cX10_letter 19 = .ok (.tableswitch 57 0 3 #[29, 36, 43, 50], 29) := by decide +kernel
theorem dX10_letter_48 : decode cX10_letter 48 = .ok (.aload_n 3, 1) := by decide +kernel
theorem dX10_letter_49 : decode cX10_letter 49 = .ok (.getfield 140, 3) := by decide +kernel
theorem dX10_letter_52 : decode cX10_letter 52 = .ok (.iload_n 1, 1) := by decide +kernel
theorem dX10_letter_53 : decode cX10_letter 53 = .ok (.iaload, 1) := by decide +kernel
theorem dX10_letter_54 : decode cX10_letter 54 = .ok (.ireturn, 1) := by decide +kernel
theorem dX10_letter_55 : decode cX10_letter 55 = .ok (.aload_n 3, 1) := by decide +kernel
theorem dX10_letter_56 : decode cX10_letter 56 = .ok (.getfield 107, 3) := by decide +kernel
theorem dX10_letter_59 : decode cX10_letter 59 = .ok (.iload_n 1, 1) := by decide +kernel
theorem dX10_letter_60 : decode cX10_letter 60 = .ok (.iaload, 1) := by decide +kernel
theorem dX10_letter_61 : decode cX10_letter 61 = .ok (.ireturn, 1) := by decide +kernel
theorem dX10_letter_62 : decode cX10_letter 62 = .ok (.aload_n 3, 1) := by decide +kernel
theorem dX10_letter_63 : decode cX10_letter 63 = .ok (.getfield 143, 3) := by decide +kernel
theorem dX10_letter_66 : decode cX10_letter 66 = .ok (.iload_n 1, 1) := by decide +kernel
theorem dX10_letter_67 : decode cX10_letter 67 = .ok (.iaload, 1) := by decide +kernel
theorem dX10_letter_68 : decode cX10_letter 68 = .ok (.ireturn, 1) := by decide +kernel
theorem dX10_letter_69 : decode cX10_letter 69 = .ok (.aload_n 3, 1) := by decide +kernel
theorem dX10_letter_70 : decode cX10_letter 70 = .ok (.getfield 103, 3) := by decide +kernel
theorem dX10_letter_73 : decode cX10_letter 73 = .ok (.iload_n 1, 1) := by decide +kernel
theorem dX10_letter_74 : decode cX10_letter 74 = .ok (.iaload, 1) := by decide +kernel
theorem dX10_letter_75 : decode cX10_letter 75 = .ok (.ireturn, 1) := by decide +kernel
theorem dX10_letter_76 : decode cX10_letter 76 = .ok (.iconst (-1), 1) := by decide +kernel
theorem dX10_letter_77 : decode cX10_letter 77 = .ok (.ireturn, 1) := by decide +kernel
theorem dX10_ahead_0 : decode cX10_ahead 0 = .ok (.aload_n 0, 1) := by decide +kernel
theorem dX10_ahead_1 : decode cX10_ahead 1 = .ok (.getfield 10, 3) := by decide +kernel
theorem dX10_ahead_4 : decode cX10_ahead 4 = .ok (.iload_n 1, 1) := by decide +kernel
theorem dX10_ahead_5 : decode cX10_ahead 5 = .ok (.iload_n 2, 1) := by decide +kernel
theorem dX10_ahead_6 : decode cX10_ahead 6 = .ok (.invokevirtual 124, 3) := by decide +kernel
theorem dX10_ahead_9 : decode cX10_ahead 9 = .ok (.ifCond .eq 16, 3) := by decide +kernel
theorem dX10_ahead_12 : decode cX10_ahead 12 = .ok (.aload_n 0, 1) := by decide +kernel
theorem dX10_ahead_13 : decode cX10_ahead 13 = .ok (.getfield 10, 3) := by decide +kernel
theorem dX10_ahead_16 : decode cX10_ahead 16 = .ok (.iload_n 3, 1) := by decide +kernel
theorem dX10_ahead_17 : decode cX10_ahead 17 = .ok (.iload 4, 2) := by decide +kernel
theorem dX10_ahead_19 : decode cX10_ahead 19 = .ok (.invokevirtual 124, 3) := by decide +kernel
theorem dX10_ahead_22 : decode cX10_ahead 22 = .ok (.ifCond .ne 5, 3) := by decide +kernel
theorem dX10_ahead_25 : decode cX10_ahead 25 = .ok (.iconst (-1), 1) := by decide +kernel
theorem dX10_ahead_26 : decode cX10_ahead 26 = .ok (.ireturn, 1) := by decide +kernel
theorem dX10_ahead_27 : decode cX10_ahead 27 = .ok (.iload_n 1, 1) := by decide +kernel
theorem dX10_ahead_28 : decode cX10_ahead 28 = .ok (.iload_n 3, 1) := by decide +kernel
theorem dX10_ahead_29 : decode cX10_ahead 29 = .ok (.if_icmp .ne 11, 3) := by decide +kernel
theorem dX10_ahead_32 : decode cX10_ahead 32 = .ok (.iload_n 2, 1) := by decide +kernel
theorem dX10_ahead_33 : decode cX10_ahead 33 = .ok (.iload 4, 2) := by decide +kernel
theorem dX10_ahead_35 : decode cX10_ahead 35 = .ok (.if_icmp .ne 5, 3) := by decide +kernel
theorem dX10_ahead_38 : decode cX10_ahead 38 = .ok (.iconst 0, 1) := by decide +kernel
theorem dX10_ahead_39 : decode cX10_ahead 39 = .ok (.ireturn, 1) := by decide +kernel
theorem dX10_ahead_40 : decode cX10_ahead 40 = .ok (.aload_n 0, 1) := by decide +kernel
theorem dX10_ahead_41 : decode cX10_ahead 41 = .ok (.getfield 10, 3) := by decide +kernel
theorem dX10_ahead_44 : decode cX10_ahead 44 = .ok (.iload_n 3, 1) := by decide +kernel
theorem dX10_ahead_45 : decode cX10_ahead 45 = .ok (.iload 4, 2) := by decide +kernel
theorem dX10_ahead_47 : decode cX10_ahead 47 = .ok (.iload_n 1, 1) := by decide +kernel
theorem dX10_ahead_48 : decode cX10_ahead 48 = .ok (.invokevirtual 146, 3) := by decide +kernel
theorem dX10_ahead_51 : decode cX10_ahead 51 = .ok (.iload_n 2, 1) := by decide +kernel
theorem dX10_ahead_52 : decode cX10_ahead 52 = .ok (.if_icmp .le 5, 3) := by decide +kernel
theorem dX10_ahead_55 : decode cX10_ahead 55 = .ok (.iconst 1, 1) := by decide +kernel
theorem dX10_ahead_56 : decode cX10_ahead 56 = .ok (.ireturn, 1) := by decide +kernel
theorem dX10_ahead_57 : decode cX10_ahead 57 = .ok (.aload_n 0, 1) := by decide +kernel
theorem dX10_ahead_58 : decode cX10_ahead 58 = .ok (.getfield 10, 3) := by decide +kernel
theorem dX10_ahead_61 : decode cX10_ahead 61 = .ok (.iload_n 1, 1) := by decide +kernel
theorem dX10_ahead_62 : decode cX10_ahead 62 = .ok (.iload_n 2, 1) := by decide +kernel
theorem dX10_ahead_63 : decode cX10_ahead 63 = .ok (.iload_n 3, 1) := by decide +kernel
theorem dX10_ahead_64 : decode cX10_ahead 64 = .ok (.invokevirtual 146, 3) := by decide +kernel
theorem dX10_ahead_67 : decode cX10_ahead 67 = .ok (.iload 4, 2) := by decide +kernel
theorem dX10_ahead_69 : decode cX10_ahead 69 = .ok (.if_icmp .le 7, 3) := by decide +kernel
theorem dX10_ahead_72 : decode cX10_ahead 72 = .ok (.iconst 2, 1) := by decide +kernel
theorem dX10_ahead_73 : decode cX10_ahead 73 = .ok (.goto 4, 3) := by decide +kernel
theorem dX10_ahead_76 : decode cX10_ahead 76 = .ok (.iconst 3, 1) := by decide +kernel
theorem dX10_ahead_77 : decode cX10_ahead 77 = .ok (.ireturn, 1) := by decide +kernel
theorem dX10_clock_0 : decode cX10_clock 0 = .ok (.aload_n 0, 1) := by decide +kernel
theorem dX10_clock_1 : decode cX10_clock 1 = .ok (.getfield 10, 3) := by decide +kernel
theorem dX10_clock_4 : decode cX10_clock 4 = .ok (.iload_n 1, 1) := by decide +kernel
theorem dX10_clock_5 : decode cX10_clock 5 = .ok (.iload_n 2, 1) := by decide +kernel
theorem dX10_clock_6 : decode cX10_clock 6 = .ok (.invokevirtual 124, 3) := by decide +kernel
theorem dX10_clock_9 : decode cX10_clock 9 = .ok (.ifCond .eq 14, 3) := by decide +kernel
theorem dX10_clock_12 : decode cX10_clock 12 = .ok (.aload_n 0, 1) := by decide +kernel
theorem dX10_clock_13 : decode cX10_clock 13 = .ok (.getfield 10, 3) := by decide +kernel
theorem dX10_clock_16 : decode cX10_clock 16 = .ok (.iload_n 3, 1) := by decide +kernel
theorem dX10_clock_17 : decode cX10_clock 17 = .ok (.invokevirtual 76, 3) := by decide +kernel
theorem dX10_clock_20 : decode cX10_clock 20 = .ok (.ifCond .ne 5, 3) := by decide +kernel
theorem dX10_clock_23 : decode cX10_clock 23 = .ok (.iconst (-1), 1) := by decide +kernel
theorem dX10_clock_24 : decode cX10_clock 24 = .ok (.ireturn, 1) := by decide +kernel
theorem dX10_clock_25 : decode cX10_clock 25 = .ok (.aload_n 0, 1) := by decide +kernel
theorem dX10_clock_26 : decode cX10_clock 26 = .ok (.getfield 10, 3) := by decide +kernel
theorem dX10_clock_29 : decode cX10_clock 29 = .ok (.iload_n 1, 1) := by decide +kernel
theorem dX10_clock_30 : decode cX10_clock 30 = .ok (.iload_n 2, 1) := by decide +kernel
theorem dX10_clock_31 : decode cX10_clock 31 = .ok (.iload_n 3, 1) := by decide +kernel
theorem dX10_clock_32 : decode cX10_clock 32 = .ok (.invokevirtual 146, 3) := by decide +kernel
theorem dX10_clock_35 : decode cX10_clock 35 = .ok (.ireturn, 1) := by decide +kernel
theorem dX10_possible_0 : decode cX10_possible 0 = .ok (.aload_n 0, 1) := by decide +kernel
theorem dX10_possible_1 : decode cX10_possible 1 = .ok (.getfield 10, 3) := by decide +kernel
theorem dX10_possible_4 : decode cX10_possible 4 = .ok (.iload_n 1, 1) := by decide +kernel
theorem dX10_possible_5 : decode cX10_possible 5 = .ok (.invokevirtual 150, 3) := by decide +kernel
theorem dX10_possible_8 : decode cX10_possible 8 = .ok (.ifCond .ne 5, 3) := by decide +kernel
theorem dX10_possible_11 : decode cX10_possible 11 = .ok (.iconst (-1), 1) := by decide +kernel
theorem dX10_possible_12 : decode cX10_possible 12 = .ok (.ireturn, 1) := by decide +kernel
theorem dX10_possible_13 : decode cX10_possible 13 = .ok (.aload_n 0, 1) := by decide +kernel
theorem dX10_possible_14 : decode cX10_possible 14 = .ok (.invokevirtual 153, 3) := by decide +kernel
theorem dX10_possible_17 : decode cX10_possible 17 = .ok (.getfield 157, 3) := by decide +kernel
theorem dX10_possible_20 : decode cX10_possible 20 = .ok (.iload_n 1, 1) := by decide +kernel
theorem dX10_possible_21 : decode cX10_possible 21 = .ok (.baload, 1) := by decide +kernel
theorem dX10_possible_22 : decode cX10_possible 22 = .ok (.ifCond .eq 7, 3) := by decide +kernel
theorem dX10_possible_25 : decode cX10_possible 25 = .ok (.iconst 1, 1) := by decide +kernel
theorem dX10_possible_26 : decode cX10_possible 26 = .ok (.goto 4, 3) := by decide +kernel
theorem dX10_possible_29 : decode cX10_possible 29 = .ok (.iconst 0, 1) := by decide +kernel
theorem dX10_possible_30 : decode cX10_possible 30 = .ok (.ireturn, 1) := by decide +kernel
theorem dX10_cuts_0 : decode cX10_cuts 0 = .ok (.iload_n 1, 1) := by decide +kernel
theorem dX10_cuts_1 : decode cX10_cuts 1 = .ok (.iconst (-1), 1) := by decide +kernel
theorem dX10_cuts_2 : decode cX10_cuts 2 = .ok (.if_icmp .ge 6, 3) := by decide +kernel
theorem dX10_cuts_5 : decode cX10_cuts 5 = .ok (.bipush (-2), 2) := by decide +kernel
theorem dX10_cuts_7 : decode cX10_cuts 7 = .ok (.ireturn, 1) := by decide +kernel
theorem dX10_cuts_8 : decode cX10_cuts 8 = .ok (.aload_n 0, 1) := by decide +kernel
theorem dX10_cuts_9 : decode cX10_cuts 9 = .ok (.invokevirtual 153, 3) := by decide +kernel
theorem dX10_cuts_12 : decode cX10_cuts 12 = .ok (.astore_n 2, 1) := by decide +kernel
theorem dX10_cuts_13 : decode cX10_cuts 13 = .ok (.iload_n 1, 1) := by decide +kernel
theorem dX10_cuts_14 : decode cX10_cuts 14 = .ok (.iconst (-1), 1) := by decide +kernel
theorem dX10_cuts_15 : decode cX10_cuts 15 = .ok (.if_icmp .ne 10, 3) := by decide +kernel
theorem dX10_cuts_18 : decode cX10_cuts 18 = .ok (.aload_n 2, 1) := by decide +kernel
theorem dX10_cuts_19 : decode cX10_cuts 19 = .ok (.getfield 161, 3) := by decide +kernel
theorem dX10_cuts_22 : decode cX10_cuts 22 = .ok (.goto 8, 3) := by decide +kernel
theorem dX10_cuts_25 : decode cX10_cuts 25 = .ok (.aload_n 2, 1) := by decide +kernel
theorem dX10_cuts_26 : decode cX10_cuts 26 = .ok (.iload_n 1, 1) := by decide +kernel
theorem dX10_cuts_27 : decode cX10_cuts 27 = .ok (.invokevirtual 162, 3) := by decide +kernel
theorem dX10_cuts_30 : decode cX10_cuts 30 = .ok (.ireturn, 1) := by decide +kernel
theorem dX10_next_0 : decode cX10_next 0 = .ok (.iload_n 1, 1) := by decide +kernel
theorem dX10_next_1 : decode cX10_next 1 = .ok (.iconst (-1), 1) := by decide +kernel
theorem dX10_next_2 : decode cX10_next 2 = .ok (.if_icmp .eq 16, 3) := by decide +kernel
theorem dX10_next_5 : decode cX10_next 5 = .ok (.aload_n 0, 1) := by decide +kernel
theorem dX10_next_6 : decode cX10_next 6 = .ok (.getfield 10, 3) := by decide +kernel
theorem dX10_next_9 : decode cX10_next 9 = .ok (.iload_n 1, 1) := by decide +kernel
theorem dX10_next_10 : decode cX10_next 10 = .ok (.invokevirtual 150, 3) := by decide +kernel
theorem dX10_next_13 : decode cX10_next 13 = .ok (.ifCond .ne 5, 3) := by decide +kernel
theorem dX10_next_16 : decode cX10_next 16 = .ok (.iconst (-1), 1) := by decide +kernel
theorem dX10_next_17 : decode cX10_next 17 = .ok (.ireturn, 1) := by decide +kernel
theorem dX10_next_18 : decode cX10_next 18 = .ok (.iload_n 1, 1) := by decide +kernel
theorem dX10_next_19 : decode cX10_next 19 = .ok (.iconst (-1), 1) := by decide +kernel
theorem dX10_next_20 : decode cX10_next 20 = .ok (.if_icmp .ne 15, 3) := by decide +kernel
theorem dX10_next_23 : decode cX10_next 23 = .ok (.aload_n 0, 1) := by decide +kernel
theorem dX10_next_24 : decode cX10_next 24 = .ok (.invokevirtual 153, 3) := by decide +kernel
theorem dX10_next_27 : decode cX10_next 27 = .ok (.getfield 165, 3) := by decide +kernel
theorem dX10_next_30 : decode cX10_next 30 = .ok (.iconst 0, 1) := by decide +kernel
theorem dX10_next_31 : decode cX10_next 31 = .ok (.iaload, 1) := by decide +kernel
theorem dX10_next_32 : decode cX10_next 32 = .ok (.goto 11, 3) := by decide +kernel
theorem dX10_next_35 : decode cX10_next 35 = .ok (.aload_n 0, 1) := by decide +kernel
theorem dX10_next_36 : decode cX10_next 36 = .ok (.invokevirtual 153, 3) := by decide +kernel
theorem dX10_next_39 : decode cX10_next 39 = .ok (.iload_n 1, 1) := by decide +kernel
theorem dX10_next_40 : decode cX10_next 40 = .ok (.invokevirtual 168, 3) := by decide +kernel
theorem dX10_next_43 : decode cX10_next 43 = .ok (.ireturn, 1) := by decide +kernel
theorem dX10_join_0 : decode cX10_join 0 = .ok (.aload_n 0, 1) := by decide +kernel
theorem dX10_join_1 : decode cX10_join 1 = .ok (.getfield 10, 3) := by decide +kernel
theorem dX10_join_4 : decode cX10_join 4 = .ok (.iload_n 1, 1) := by decide +kernel
theorem dX10_join_5 : decode cX10_join 5 = .ok (.invokevirtual 150, 3) := by decide +kernel
theorem dX10_join_8 : decode cX10_join 8 = .ok (.ifCond .eq 14, 3) := by decide +kernel
theorem dX10_join_11 : decode cX10_join 11 = .ok (.aload_n 0, 1) := by decide +kernel
theorem dX10_join_12 : decode cX10_join 12 = .ok (.getfield 10, 3) := by decide +kernel
theorem dX10_join_15 : decode cX10_join 15 = .ok (.iload_n 2, 1) := by decide +kernel
theorem dX10_join_16 : decode cX10_join 16 = .ok (.invokevirtual 150, 3) := by decide +kernel
theorem dX10_join_19 : decode cX10_join 19 = .ok (.ifCond .ne 5, 3) := by decide +kernel
theorem dX10_join_22 : decode cX10_join 22 = .ok (.iconst (-1), 1) := by decide +kernel
theorem dX10_join_23 : decode cX10_join 23 = .ok (.ireturn, 1) := by decide +kernel
theorem dX10_join_24 : decode cX10_join 24 = .ok (.iload_n 3, 1) := by decide +kernel
theorem dX10_join_25 : decode cX10_join 25 = .ok (.ifCond .eq 11, 3) := by decide +kernel
theorem dX10_join_28 : decode cX10_join 28 = .ok (.iload_n 3, 1) := by decide +kernel
theorem dX10_join_29 : decode cX10_join 29 = .ok (.iconst 1, 1) := by decide +kernel
theorem dX10_join_30 : decode cX10_join 30 = .ok (.if_icmp .eq 6, 3) := by decide +kernel
theorem dX10_join_33 : decode cX10_join 33 = .ok (.bipush (-2), 2) := by decide +kernel
theorem dX10_join_35 : decode cX10_join 35 = .ok (.ireturn, 1) := by decide +kernel
theorem dX10_join_36 : decode cX10_join 36 = .ok (.iload_n 1, 1) := by decide +kernel
theorem dX10_join_37 : decode cX10_join 37 = .ok (.iload_n 2, 1) := by decide +kernel
theorem dX10_join_38 : decode cX10_join 38 = .ok (.iload_n 3, 1) := by decide +kernel
theorem dX10_join_39 : decode cX10_join 39 = .ok (.iconst 1, 1) := by decide +kernel
theorem dX10_join_40 : decode cX10_join 40 = .ok (.if_icmp .ne 7, 3) := by decide +kernel
theorem dX10_join_43 : decode cX10_join 43 = .ok (.iconst 1, 1) := by decide +kernel
theorem dX10_join_44 : decode cX10_join 44 = .ok (.goto 4, 3) := by decide +kernel
theorem dX10_join_47 : decode cX10_join 47 = .ok (.iconst 0, 1) := by decide +kernel
theorem dX10_join_48 : decode cX10_join 48 = .ok (.invokestatic 171, 3) := by decide +kernel
theorem dX10_join_51 : decode cX10_join 51 = .ok (.ireturn, 1) := by decide +kernel
theorem dX10_least_0 : decode cX10_least 0 = .ok (.aload_n 0, 1) := by decide +kernel
theorem dX10_least_1 : decode cX10_least 1 = .ok (.getfield 10, 3) := by decide +kernel
theorem dX10_least_4 : decode cX10_least 4 = .ok (.iload_n 1, 1) := by decide +kernel
theorem dX10_least_5 : decode cX10_least 5 = .ok (.invokevirtual 76, 3) := by decide +kernel
theorem dX10_least_8 : decode cX10_least 8 = .ok (.ifCond .eq 20, 3) := by decide +kernel
theorem dX10_least_11 : decode cX10_least 11 = .ok (.iload_n 2, 1) := by decide +kernel
theorem dX10_least_12 : decode cX10_least 12 = .ok (.ifCond .lt 16, 3) := by decide +kernel
theorem dX10_least_15 : decode cX10_least 15 = .ok (.iload_n 2, 1) := by decide +kernel
theorem dX10_least_16 : decode cX10_least 16 = .ok (.aload_n 0, 1) := by decide +kernel
theorem dX10_least_17 : decode cX10_least 17 = .ok (.getfield 10, 3) := by decide +kernel
theorem dX10_least_20 : decode cX10_least 20 = .ok (.getfield 175, 3) := by decide +kernel
theorem dX10_least_23 : decode cX10_least 23 = .ok (.iload_n 1, 1) := by decide +kernel
theorem dX10_least_24 : decode cX10_least 24 = .ok (.iaload, 1) := by decide +kernel
theorem dX10_least_25 : decode cX10_least 25 = .ok (.if_icmp .le 5, 3) := by decide +kernel
theorem dX10_least_28 : decode cX10_least 28 = .ok (.iconst (-1), 1) := by decide +kernel
theorem dX10_least_29 : decode cX10_least 29 = .ok (.ireturn, 1) := by decide +kernel
theorem dX10_least_30 : decode cX10_least 30 = .ok (.iload_n 2, 1) := by decide +kernel
theorem dX10_least_31 : decode cX10_least 31 = .ok (.ifCond .ne 7, 3) := by decide +kernel
theorem dX10_least_34 : decode cX10_least 34 = .ok (.iconst 0, 1) := by decide +kernel
theorem dX10_least_35 : decode cX10_least 35 = .ok (.goto 14, 3) := by decide +kernel
theorem dX10_least_38 : decode cX10_least 38 = .ok (.aload_n 0, 1) := by decide +kernel
theorem dX10_least_39 : decode cX10_least 39 = .ok (.getfield 10, 3) := by decide +kernel
theorem dX10_least_42 : decode cX10_least 42 = .ok (.iload_n 1, 1) := by decide +kernel
theorem dX10_least_43 : decode cX10_least 43 = .ok (.iload_n 2, 1) := by decide +kernel
theorem dX10_least_44 : decode cX10_least 44 = .ok (.iconst 1, 1) := by decide +kernel
theorem dX10_least_45 : decode cX10_least 45 = .ok (.isub, 1) := by decide +kernel
theorem dX10_least_46 : decode cX10_least 46 = .ok (.invokevirtual 178, 3) := by decide +kernel
theorem dX10_least_49 : decode cX10_least 49 = .ok (.ireturn, 1) := by decide +kernel
theorem dX10_orders_0 : decode cX10_orders 0 = .ok (.aload_n 0, 1) := by decide +kernel
theorem dX10_orders_1 : decode cX10_orders 1 = .ok (.invokevirtual 153, 3) := by decide +kernel
theorem dX10_orders_4 : decode cX10_orders 4 = .ok (.astore_n 1, 1) := by decide +kernel
theorem dX10_orders_5 : decode cX10_orders 5 = .ok (.aload_n 0, 1) := by decide +kernel
theorem dX10_orders_6 : decode cX10_orders 6 = .ok (.getfield 51, 3) := by decide +kernel
theorem dX10_orders_9 : decode cX10_orders 9 = .ok (.aload_n 1, 1) := by decide +kernel
theorem dX10_orders_10 : decode cX10_orders 10 = .ok (.invokevirtual 181, 3) := by decide +kernel
theorem dX10_orders_13 : decode cX10_orders 13 = .ok (.aload_n 0, 1) := by decide +kernel
theorem dX10_orders_14 : decode cX10_orders 14 = .ok (.getfield 58, 3) := by decide +kernel
theorem dX10_orders_17 : decode cX10_orders 17 = .ok (.aload_n 1, 1) := by decide +kernel
theorem dX10_orders_18 : decode cX10_orders 18 = .ok (.aload_n 0, 1) := by decide +kernel
theorem dX10_orders_19 : decode cX10_orders 19 = .ok (.getfield 51, 3) := by decide +kernel
theorem dX10_orders_22 : decode cX10_orders 22 = .ok (.getfield 185, 3) := by decide +kernel
theorem dX10_orders_25 : decode cX10_orders 25 = .ok (.invokevirtual 188, 3) := by decide +kernel
theorem dX10_orders_28 : decode cX10_orders 28 = .ok (.lreturn, 1) := by decide +kernel
theorem dX10_order_0 : decode cX10_order 0 = .ok (.lload_n 1, 1) := by decide +kernel
theorem dX10_order_1 : decode cX10_order 1 = .ok (.lconst 0, 1) := by decide +kernel
theorem dX10_order_2 : decode cX10_order 2 = .ok (.lcmp, 1) := by decide +kernel
theorem dX10_order_3 : decode cX10_order 3 = .ok (.ifCond .lt 27, 3) := by decide +kernel
theorem dX10_order_6 : decode cX10_order 6 = .ok (.iload_n 3, 1) := by decide +kernel
theorem dX10_order_7 : decode cX10_order 7 = .ok (.ifCond .lt 23, 3) := by decide +kernel
theorem dX10_order_10 : decode cX10_order 10 = .ok (.iload_n 3, 1) := by decide +kernel
theorem dX10_order_11 : decode cX10_order 11 = .ok (.aload_n 0, 1) := by decide +kernel
theorem dX10_order_12 : decode cX10_order 12 = .ok (.getfield 10, 3) := by decide +kernel
theorem dX10_order_15 : decode cX10_order 15 = .ok (.getfield 117, 3) := by decide +kernel
theorem dX10_order_18 : decode cX10_order 18 = .ok (.if_icmp .ge 12, 3) := by decide +kernel
theorem dX10_order_21 : decode cX10_order 21 = .ok (.lload_n 1, 1) := by decide +kernel
theorem dX10_order_22 : decode cX10_order 22 = .ok (.aload_n 0, 1) := by decide +kernel
theorem dX10_order_23 : decode cX10_order 23 = .ok (.invokevirtual 192, 3) := by decide +kernel
theorem dX10_order_26 : decode cX10_order 26 = .ok (.lcmp, 1) := by decide +kernel
theorem dX10_order_27 : decode cX10_order 27 = .ok (.ifCond .lt 5, 3) := by decide +kernel
theorem dX10_order_30 : decode cX10_order 30 = .ok (.iconst (-1), 1) := by decide +kernel
theorem dX10_order_31 : decode cX10_order 31 = .ok (.ireturn, 1) := by decide +kernel
theorem dX10_order_32 : decode cX10_order 32 = .ok (.aload_n 0, 1) := by decide +kernel
theorem dX10_order_33 : decode cX10_order 33 = .ok (.getfield 58, 3) := by decide +kernel
theorem dX10_order_36 : decode cX10_order 36 = .ok (.aload_n 0, 1) := by decide +kernel
theorem dX10_order_37 : decode cX10_order 37 = .ok (.invokevirtual 153, 3) := by decide +kernel
theorem dX10_order_40 : decode cX10_order 40 = .ok (.lload_n 1, 1) := by decide +kernel
theorem dX10_order_41 : decode cX10_order 41 = .ok (.iload_n 3, 1) := by decide +kernel
theorem dX10_order_42 : decode cX10_order 42 = .ok (.invokevirtual 196, 3) := by decide +kernel
theorem dX10_order_45 : decode cX10_order 45 = .ok (.ireturn, 1) := by decide +kernel
theorem dX10_number_0 : decode cX10_number 0 = .ok (.aload_n 0, 1) := by decide +kernel
theorem dX10_number_1 : decode cX10_number 1 = .ok (.getfield 28, 3) := by decide +kernel
theorem dX10_number_4 : decode cX10_number 4 = .ok (.getfield 200, 3) := by decide +kernel
theorem dX10_number_7 : decode cX10_number 7 = .ok (.bipush 6, 2) := by decide +kernel
theorem dX10_number_9 : decode cX10_number 9 = .ok (.if_icmp .lt 8, 3) := by decide +kernel
theorem dX10_number_12 : decode cX10_number 12 = .ok (.bipush (-4), 2) := by decide +kernel
theorem dX10_number_14 : decode cX10_number 14 = .ok (.goto 14, 3) := by decide +kernel
theorem dX10_number_17 : decode cX10_number 17 = .ok (.aload_n 0, 1) := by decide +kernel
theorem dX10_number_18 : decode cX10_number 18 = .ok (.getfield 28, 3) := by decide +kernel
theorem dX10_number_21 : decode cX10_number 21 = .ok (.bipush 11, 2) := by decide +kernel
theorem dX10_number_23 : decode cX10_number 23 = .ok (.iload_n 1, 1) := by decide +kernel
theorem dX10_number_24 : decode cX10_number 24 = .ok (.iconst 0, 1) := by decide +kernel
theorem dX10_number_25 : decode cX10_number 25 = .ok (.invokevirtual 203, 3) := by decide +kernel
theorem dX10_number_28 : decode cX10_number 28 = .ok (.ireturn, 1) := by decide +kernel
theorem dX10_part_0 : decode cX10_part 0 = .ok (.iload_n 1, 1) := by decide +kernel
theorem dX10_part_1 : decode cX10_part 1 = .ok (.ifCond .lt 31, 3) := by decide +kernel
theorem dX10_part_4 : decode cX10_part 4 = .ok (.iload_n 1, 1) := by decide +kernel
theorem dX10_part_5 : decode cX10_part 5 = .ok (.iconst 2, 1) := by decide +kernel
theorem dX10_part_6 : decode cX10_part 6 = .ok (.if_icmp .gt 26, 3) := by decide +kernel
theorem dX10_part_9 : decode cX10_part 9 = .ok (.iload_n 2, 1) := by decide +kernel
theorem dX10_part_10 : decode cX10_part 10 = .ok (.invokestatic 206, 3) := by decide +kernel
theorem dX10_part_13 : decode cX10_part 13 = .ok (.ifCond .eq 19, 3) := by decide +kernel
theorem dX10_part_16 : decode cX10_part 16 = .ok (.iload_n 3, 1) := by decide +kernel
theorem dX10_part_17 : decode cX10_part 17 = .ok (.invokestatic 206, 3) := by decide +kernel
theorem dX10_part_20 : decode cX10_part 20 = .ok (.ifCond .eq 12, 3) := by decide +kernel
theorem dX10_part_23 : decode cX10_part 23 = .ok (.iload_n 1, 1) := by decide +kernel
theorem dX10_part_24 : decode cX10_part 24 = .ok (.ifCond .ne 10, 3) := by decide +kernel
theorem dX10_part_27 : decode cX10_part 27 = .ok (.iload_n 3, 1) := by decide +kernel
theorem dX10_part_28 : decode cX10_part 28 = .ok (.iconst 3, 1) := by decide +kernel
theorem dX10_part_29 : decode cX10_part 29 = .ok (.if_icmp .lt 5, 3) := by decide +kernel
theorem dX10_part_32 : decode cX10_part 32 = .ok (.iconst (-1), 1) := by decide +kernel
theorem dX10_part_33 : decode cX10_part 33 = .ok (.ireturn, 1) := by decide +kernel
theorem dX10_part_34 : decode cX10_part 34 = .ok (.iload_n 1, 1) := by decide +kernel
theorem dX10_part_35 : decode cX10_part 35 = .ok (.iconst 1, 1) := by decide +kernel
theorem dX10_part_36 : decode cX10_part 36 = .ok (.if_icmp .ne 8, 3) := by decide +kernel
theorem dX10_part_39 : decode cX10_part 39 = .ok (.iload_n 2, 1) := by decide +kernel
theorem dX10_part_40 : decode cX10_part 40 = .ok (.iload_n 3, 1) := by decide +kernel
theorem dX10_part_41 : decode cX10_part 41 = .ok (.if_icmp .eq 12, 3) := by decide +kernel
theorem dX10_part_44 : decode cX10_part 44 = .ok (.iload_n 1, 1) := by decide +kernel
theorem dX10_part_45 : decode cX10_part 45 = .ok (.iconst 2, 1) := by decide +kernel
theorem dX10_part_46 : decode cX10_part 46 = .ok (.if_icmp .ne 10, 3) := by decide +kernel
theorem dX10_part_49 : decode cX10_part 49 = .ok (.iload_n 3, 1) := by decide +kernel
theorem dX10_part_50 : decode cX10_part 50 = .ok (.ifCond .eq 6, 3) := by decide +kernel
theorem dX10_part_53 : decode cX10_part 53 = .ok (.bipush (-2), 2) := by decide +kernel
theorem dX10_part_55 : decode cX10_part 55 = .ok (.ireturn, 1) := by decide +kernel
theorem dX10_part_56 : decode cX10_part 56 = .ok (.aload_n 0, 1) := by decide +kernel
theorem dX10_part_57 : decode cX10_part 57 = .ok (.getfield 28, 3) := by decide +kernel
theorem dX10_part_60 : decode cX10_part 60 = .ok (.getfield 200, 3) := by decide +kernel
theorem dX10_part_63 : decode cX10_part 63 = .ok (.bipush 6, 2) := by decide +kernel
theorem dX10_part_65 : decode cX10_part 65 = .ok (.if_icmp .lt 8, 3) := by decide +kernel
theorem dX10_part_68 : decode cX10_part 68 = .ok (.bipush (-4), 2) := by decide +kernel
theorem dX10_part_70 : decode cX10_part 70 = .ok (.goto 16, 3) := by decide +kernel
theorem dX10_part_73 : decode cX10_part 73 = .ok (.aload_n 0, 1) := by decide +kernel
theorem dX10_part_74 : decode cX10_part 74 = .ok (.getfield 28, 3) := by decide +kernel
theorem dX10_part_77 : decode cX10_part 77 = .ok (.bipush 8, 2) := by decide +kernel
theorem dX10_part_79 : decode cX10_part 79 = .ok (.iload_n 1, 1) := by decide +kernel
theorem dX10_part_80 : decode cX10_part 80 = .ok (.iadd, 1) := by decide +kernel
theorem dX10_part_81 : decode cX10_part 81 = .ok (.iload_n 2, 1) := by decide +kernel
theorem dX10_part_82 : decode cX10_part 82 = .ok (.iload_n 3, 1) := by decide +kernel
theorem dX10_part_83 : decode cX10_part 83 = .ok (.invokevirtual 203, 3) := by decide +kernel
theorem dX10_part_86 : decode cX10_part 86 = .ok (.ireturn, 1) := by decide +kernel
theorem dX10_mayBeProcess_0 : decode cX10_mayBeProcess 0 = .ok (.iload_n 0, 1) := by decide +kernel
theorem dX10_mayBeProcess_1 : decode cX10_mayBeProcess 1 = .ok (.ifCond .lt 12, 3) := by decide +kernel
theorem dX10_mayBeProcess_4 : decode cX10_mayBeProcess 4 = .ok (.iload_n 0, 1) := by decide +kernel
theorem dX10_mayBeProcess_5 : decode cX10_mayBeProcess 5 = .ok (.iconst 4, 1) := by decide +kernel
theorem dX10_mayBeProcess_6 : decode cX10_mayBeProcess 6 = .ok (.if_icmp .ge 7, 3) := by decide +kernel
theorem dX10_mayBeProcess_9 : decode cX10_mayBeProcess 9 = .ok (.iconst 1, 1) := by decide +kernel
theorem dX10_mayBeProcess_10 : decode cX10_mayBeProcess 10 = .ok (.goto 4, 3) := by decide +kernel
theorem dX10_mayBeProcess_13 : decode cX10_mayBeProcess 13 = .ok (.iconst 0, 1) := by decide +kernel
theorem dX10_mayBeProcess_14 : decode cX10_mayBeProcess 14 = .ok (.ireturn, 1) := by decide +kernel
theorem dX10_op_0 : decode cX10_op 0 = .ok (.iload_n 1, 1) := by decide +kernel
theorem dX10_op_1 : decode cX10_op 1 = .ok (.ifCond .lt 9, 3) := by decide +kernel
theorem dX10_op_4 : decode cX10_op 4 = .ok (.iload_n 1, 1) := by decide +kernel
theorem dX10_op_5 : decode cX10_op 5 = .ok (.bipush 7, 2) := by decide +kernel
theorem dX10_op_7 : decode cX10_op 7 = .ok (.if_icmp .le 5, 3) := by decide +kernel
theorem dX10_op_10 : decode cX10_op 10 = .ok (.iconst (-1), 1) := by decide +kernel
theorem dX10_op_11 : decode cX10_op 11 = .ok (.ireturn, 1) := by decide +kernel
theorem dX10_op_12 : decode cX10_op 12 = .ok (.aload_n 0, 1) := by decide +kernel
theorem dX10_op_13 : decode cX10_op 13 = .ok (.getfield 28, 3) := by decide +kernel
theorem dX10_op_16 : decode cX10_op 16 = .ok (.getfield 200, 3) := by decide +kernel
theorem dX10_op_19 : decode cX10_op 19 = .ok (.iload_n 1, 1) := by decide +kernel
theorem dX10_op_20 : decode cX10_op 20 = .ok (.invokestatic 209, 3) := by decide +kernel
theorem dX10_op_23 : decode cX10_op 23 = .ok (.if_icmp .ge 6, 3) := by decide +kernel
theorem dX10_op_26 : decode cX10_op 26 = .ok (.bipush (-3), 2) := by decide +kernel
theorem dX10_op_28 : decode cX10_op 28 = .ok (.ireturn, 1) := by decide +kernel
theorem dX10_op_29 : decode cX10_op 29 = .ok (.aload_n 0, 1) := by decide +kernel
theorem dX10_op_30 : decode cX10_op 30 = .ok (.getfield 28, 3) := by decide +kernel
theorem dX10_op_33 : decode cX10_op 33 = .ok (.iload_n 1, 1) := by decide +kernel
theorem dX10_op_34 : decode cX10_op 34 = .ok (.invokevirtual 214, 3) := by decide +kernel
theorem dX10_op_37 : decode cX10_op 37 = .ok (.bipush 15, 2) := by decide +kernel
theorem dX10_op_39 : decode cX10_op 39 = .ok (.if_icmp .le 8, 3) := by decide +kernel
theorem dX10_op_42 : decode cX10_op 42 = .ok (.bipush (-4), 2) := by decide +kernel
theorem dX10_op_44 : decode cX10_op 44 = .ok (.goto 11, 3) := by decide +kernel
theorem dX10_op_47 : decode cX10_op 47 = .ok (.aload_n 0, 1) := by decide +kernel
theorem dX10_op_48 : decode cX10_op 48 = .ok (.getfield 28, 3) := by decide +kernel
theorem dX10_op_51 : decode cX10_op 51 = .ok (.iload_n 1, 1) := by decide +kernel
theorem dX10_op_52 : decode cX10_op 52 = .ok (.invokevirtual 217, 3) := by decide +kernel
theorem dX10_op_55 : decode cX10_op 55 = .ok (.ireturn, 1) := by decide +kernel
theorem dX10_condition_0 : decode cX10_condition 0 = .ok (.aload_n 0, 1) := by decide +kernel
theorem dX10_condition_1 : decode cX10_condition 1 = .ok (.getfield 28, 3) := by decide +kernel
theorem dX10_condition_4 : decode cX10_condition 4 = .ok (.getfield 200, 3) := by decide +kernel
theorem dX10_condition_7 : decode cX10_condition 7 = .ok (.iconst 1, 1) := by decide +kernel
theorem dX10_condition_8 : decode cX10_condition 8 = .ok (.if_icmp .eq 6, 3) := by decide +kernel
theorem dX10_condition_11 : decode cX10_condition 11 = .ok (.bipush (-3), 2) := by decide +kernel
theorem dX10_condition_13 : decode cX10_condition 13 = .ok (.ireturn, 1) := by decide +kernel
theorem dX10_condition_14 : decode cX10_condition 14 = .ok (.aload_n 0, 1) := by decide +kernel
theorem dX10_condition_15 : decode cX10_condition 15 = .ok (.getfield 35, 3) := by decide +kernel
theorem dX10_condition_18 : decode cX10_condition 18 = .ok (.getfield 220, 3) := by decide +kernel
theorem dX10_condition_21 : decode cX10_condition 21 = .ok (.bipush 8, 2) := by decide +kernel
theorem dX10_condition_23 : decode cX10_condition 23 = .ok (.if_icmp .lt 6, 3) := by decide +kernel
theorem dX10_condition_26 : decode cX10_condition 26 = .ok (.bipush (-4), 2) := by decide +kernel
theorem dX10_condition_28 : decode cX10_condition 28 = .ok (.ireturn, 1) := by decide +kernel
theorem dX10_condition_29 : decode cX10_condition 29 = .ok (.aload_n 0, 1) := by decide +kernel
theorem dX10_condition_30 : decode cX10_condition 30 = .ok (.getfield 28, 3) := by decide +kernel
theorem dX10_condition_33 : decode cX10_condition 33 = .ok (.iconst 0, 1) := by decide +kernel
theorem dX10_condition_34 : decode cX10_condition 34 = .ok (.putfield 200, 3) := by decide +kernel
theorem dX10_condition_37 : decode cX10_condition 37 = .ok (.aload_n 0, 1) := by decide +kernel
theorem dX10_condition_38 : decode cX10_condition 38 = .ok (.getfield 35, 3) := by decide +kernel
theorem dX10_condition_41 : decode cX10_condition 41 = .ok (.aload_n 0, 1) := by decide +kernel
theorem dX10_condition_42 : decode cX10_condition 42 = .ok (.getfield 28, 3) := by decide +kernel
theorem dX10_condition_45 : decode cX10_condition 45 = .ok (.getfield 221, 3) := by decide +kernel
theorem dX10_condition_48 : decode cX10_condition 48 = .ok (.iconst 0, 1) := by decide +kernel
theorem dX10_condition_49 : decode cX10_condition 49 = .ok (.aaload, 1) := by decide +kernel
theorem dX10_condition_50 : decode cX10_condition 50 = .ok (.invokevirtual 225, 3) := by decide +kernel
theorem dX10_condition_53 : decode cX10_condition 53 = .ok (.ireturn, 1) := by decide +kernel
theorem dX10_clear_0 : decode cX10_clear 0 = .ok (.iload_n 1, 1) := by decide +kernel
theorem dX10_clear_1 : decode cX10_clear 1 = .ok (.ifCond .eq 11, 3) := by decide +kernel
theorem dX10_clear_4 : decode cX10_clear 4 = .ok (.iload_n 1, 1) := by decide +kernel
theorem dX10_clear_5 : decode cX10_clear 5 = .ok (.iconst 1, 1) := by decide +kernel
theorem dX10_clear_6 : decode cX10_clear 6 = .ok (.if_icmp .eq 6, 3) := by decide +kernel
theorem dX10_clear_9 : decode cX10_clear 9 = .ok (.bipush (-2), 2) := by decide +kernel
theorem dX10_clear_11 : decode cX10_clear 11 = .ok (.ireturn, 1) := by decide +kernel
theorem dX10_clear_12 : decode cX10_clear 12 = .ok (.aload_n 0, 1) := by decide +kernel
theorem dX10_clear_13 : decode cX10_clear 13 = .ok (.getfield 28, 3) := by decide +kernel
theorem dX10_clear_16 : decode cX10_clear 16 = .ok (.getfield 200, 3) := by decide +kernel
theorem dX10_clear_19 : decode cX10_clear 19 = .ok (.iload_n 1, 1) := by decide +kernel
theorem dX10_clear_20 : decode cX10_clear 20 = .ok (.iconst 1, 1) := by decide +kernel
theorem dX10_clear_21 : decode cX10_clear 21 = .ok (.if_icmp .ne 13, 3) := by decide +kernel
theorem dX10_clear_24 : decode cX10_clear 24 = .ok (.aload_n 0, 1) := by decide +kernel
theorem dX10_clear_25 : decode cX10_clear 25 = .ok (.getfield 35, 3) := by decide +kernel
theorem dX10_clear_28 : decode cX10_clear 28 = .ok (.getfield 220, 3) := by decide +kernel
theorem dX10_clear_31 : decode cX10_clear 31 = .ok (.goto 4, 3) := by decide +kernel
theorem dX10_clear_34 : decode cX10_clear 34 = .ok (.iconst 0, 1) := by decide +kernel
theorem dX10_clear_35 : decode cX10_clear 35 = .ok (.iadd, 1) := by decide +kernel
theorem dX10_clear_36 : decode cX10_clear 36 = .ok (.istore_n 2, 1) := by decide +kernel
theorem dX10_clear_37 : decode cX10_clear 37 = .ok (.aload_n 0, 1) := by decide +kernel
theorem dX10_clear_38 : decode cX10_clear 38 = .ok (.getfield 28, 3) := by decide +kernel
theorem dX10_clear_41 : decode cX10_clear 41 = .ok (.iconst 0, 1) := by decide +kernel
theorem dX10_clear_42 : decode cX10_clear 42 = .ok (.putfield 200, 3) := by decide +kernel
theorem dX10_clear_45 : decode cX10_clear 45 = .ok (.iload_n 1, 1) := by decide +kernel
theorem dX10_clear_46 : decode cX10_clear 46 = .ok (.iconst 1, 1) := by decide +kernel
theorem dX10_clear_47 : decode cX10_clear 47 = .ok (.if_icmp .ne 11, 3) := by decide +kernel
theorem dX10_clear_50 : decode cX10_clear 50 = .ok (.aload_n 0, 1) := by decide +kernel
theorem dX10_clear_51 : decode cX10_clear 51 = .ok (.getfield 35, 3) := by decide +kernel
theorem dX10_clear_54 : decode cX10_clear 54 = .ok (.iconst 0, 1) := by decide +kernel
theorem dX10_clear_55 : decode cX10_clear 55 = .ok (.putfield 220, 3) := by decide +kernel
theorem dX10_clear_58 : decode cX10_clear 58 = .ok (.iload_n 2, 1) := by decide +kernel
theorem dX10_clear_59 : decode cX10_clear 59 = .ok (.ireturn, 1) := by decide +kernel
theorem dX10_value_0 : decode cX10_value 0 = .ok (.aload_n 0, 1) := by decide +kernel
theorem dX10_value_1 : decode cX10_value 1 = .ok (.getfield 35, 3) := by decide +kernel
theorem dX10_value_4 : decode cX10_value 4 = .ok (.iload_n 1, 1) := by decide +kernel
theorem dX10_value_5 : decode cX10_value 5 = .ok (.invokevirtual 229, 3) := by decide +kernel
theorem dX10_value_8 : decode cX10_value 8 = .ok (.ifCond .eq 14, 3) := by decide +kernel
theorem dX10_value_11 : decode cX10_value 11 = .ok (.aload_n 0, 1) := by decide +kernel
theorem dX10_value_12 : decode cX10_value 12 = .ok (.getfield 10, 3) := by decide +kernel
theorem dX10_value_15 : decode cX10_value 15 = .ok (.iload_n 2, 1) := by decide +kernel
theorem dX10_value_16 : decode cX10_value 16 = .ok (.invokevirtual 150, 3) := by decide +kernel
theorem dX10_value_19 : decode cX10_value 19 = .ok (.ifCond .ne 10, 3) := by decide +kernel
theorem dX10_value_22 : decode cX10_value 22 = .ok (.aload_n 0, 1) := by decide +kernel
theorem dX10_value_23 : decode cX10_value 23 = .ok (.iconst (-1), 1) := by decide +kernel
theorem dX10_value_24 : decode cX10_value 24 = .ok (.putfield 69, 3) := by decide +kernel
theorem dX10_value_27 : decode cX10_value 27 = .ok (.iconst 0, 1) := by decide +kernel
theorem dX10_value_28 : decode cX10_value 28 = .ok (.ireturn, 1) := by decide +kernel
theorem dX10_value_29 : decode cX10_value 29 = .ok (.aload_n 0, 1) := by decide +kernel
theorem dX10_value_30 : decode cX10_value 30 = .ok (.iconst 0, 1) := by decide +kernel
theorem dX10_value_31 : decode cX10_value 31 = .ok (.putfield 69, 3) := by decide +kernel
theorem dX10_value_34 : decode cX10_value 34 = .ok (.aload_n 0, 1) := by decide +kernel
theorem dX10_value_35 : decode cX10_value 35 = .ok (.getfield 42, 3) := by decide +kernel
theorem dX10_value_38 : decode cX10_value 38 = .ok (.aload_n 0, 1) := by decide +kernel
theorem dX10_value_39 : decode cX10_value 39 = .ok (.getfield 35, 3) := by decide +kernel
theorem dX10_value_42 : decode cX10_value 42 = .ok (.getfield 230, 3) := by decide +kernel
theorem dX10_value_45 : decode cX10_value 45 = .ok (.iload_n 1, 1) := by decide +kernel
theorem dX10_value_46 : decode cX10_value 46 = .ok (.aaload, 1) := by decide +kernel
theorem dX10_value_47 : decode cX10_value 47 = .ok (.iload_n 2, 1) := by decide +kernel
theorem dX10_value_48 : decode cX10_value 48 = .ok (.invokevirtual 231, 3) := by decide +kernel
theorem dX10_value_51 : decode cX10_value 51 = .ok (.ireturn, 1) := by decide +kernel
theorem dX10_status_0 : decode cX10_status 0 = .ok (.aload_n 0, 1) := by decide +kernel
theorem dX10_status_1 : decode cX10_status 1 = .ok (.getfield 69, 3) := by decide +kernel
theorem dX10_status_4 : decode cX10_status 4 = .ok (.ireturn, 1) := by decide +kernel
theorem dX10_may_0 : decode cX10_may 0 = .ok (.aload_n 0, 1) := by decide +kernel
theorem dX10_may_1 : decode cX10_may 1 = .ok (.getfield 35, 3) := by decide +kernel
theorem dX10_may_4 : decode cX10_may 4 = .ok (.iload_n 1, 1) := by decide +kernel
theorem dX10_may_5 : decode cX10_may 5 = .ok (.invokevirtual 229, 3) := by decide +kernel
theorem dX10_may_8 : decode cX10_may 8 = .ok (.ifCond .eq 21, 3) := by decide +kernel
theorem dX10_may_11 : decode cX10_may 11 = .ok (.aload_n 0, 1) := by decide +kernel
theorem dX10_may_12 : decode cX10_may 12 = .ok (.iload_n 1, 1) := by decide +kernel
theorem dX10_may_13 : decode cX10_may 13 = .ok (.invokevirtual 235, 3) := by decide +kernel
theorem dX10_may_16 : decode cX10_may 16 = .ok (.aload_n 0, 1) := by decide +kernel
theorem dX10_may_17 : decode cX10_may 17 = .ok (.getfield 51, 3) := by decide +kernel
theorem dX10_may_20 : decode cX10_may 20 = .ok (.getfield 185, 3) := by decide +kernel
theorem dX10_may_23 : decode cX10_may 23 = .ok (.invokevirtual 239, 3) := by decide +kernel
theorem dX10_may_26 : decode cX10_may 26 = .ok (.goto 4, 3) := by decide +kernel
theorem dX10_may_29 : decode cX10_may 29 = .ok (.iconst (-1), 1) := by decide +kernel
theorem dX10_may_30 : decode cX10_may 30 = .ok (.ireturn, 1) := by decide +kernel
theorem dX10_last_0 : decode cX10_last 0 = .ok (.aload_n 0, 1) := by decide +kernel
theorem dX10_last_1 : decode cX10_last 1 = .ok (.getfield 35, 3) := by decide +kernel
theorem dX10_last_4 : decode cX10_last 4 = .ok (.iload_n 1, 1) := by decide +kernel
theorem dX10_last_5 : decode cX10_last 5 = .ok (.invokevirtual 229, 3) := by decide +kernel
theorem dX10_last_8 : decode cX10_last 8 = .ok (.ifCond .eq 21, 3) := by decide +kernel
theorem dX10_last_11 : decode cX10_last 11 = .ok (.aload_n 0, 1) := by decide +kernel
theorem dX10_last_12 : decode cX10_last 12 = .ok (.iload_n 1, 1) := by decide +kernel
theorem dX10_last_13 : decode cX10_last 13 = .ok (.invokevirtual 235, 3) := by decide +kernel
theorem dX10_last_16 : decode cX10_last 16 = .ok (.aload_n 0, 1) := by decide +kernel
theorem dX10_last_17 : decode cX10_last 17 = .ok (.getfield 51, 3) := by decide +kernel
theorem dX10_last_20 : decode cX10_last 20 = .ok (.getfield 185, 3) := by decide +kernel
theorem dX10_last_23 : decode cX10_last 23 = .ok (.invokevirtual 243, 3) := by decide +kernel
theorem dX10_last_26 : decode cX10_last 26 = .ok (.goto 4, 3) := by decide +kernel
theorem dX10_last_29 : decode cX10_last 29 = .ok (.iconst (-1), 1) := by decide +kernel
theorem dX10_last_30 : decode cX10_last 30 = .ok (.ireturn, 1) := by decide +kernel
theorem dX10_many_0 : decode cX10_many 0 = .ok (.aload_n 0, 1) := by decide +kernel
theorem dX10_many_1 : decode cX10_many 1 = .ok (.getfield 35, 3) := by decide +kernel
theorem dX10_many_4 : decode cX10_many 4 = .ok (.iload_n 1, 1) := by decide +kernel
theorem dX10_many_5 : decode cX10_many 5 = .ok (.invokevirtual 229, 3) := by decide +kernel
theorem dX10_many_8 : decode cX10_many 8 = .ok (.ifCond .eq 21, 3) := by decide +kernel
theorem dX10_many_11 : decode cX10_many 11 = .ok (.aload_n 0, 1) := by decide +kernel
theorem dX10_many_12 : decode cX10_many 12 = .ok (.iload_n 1, 1) := by decide +kernel
theorem dX10_many_13 : decode cX10_many 13 = .ok (.invokevirtual 235, 3) := by decide +kernel
theorem dX10_many_16 : decode cX10_many 16 = .ok (.aload_n 0, 1) := by decide +kernel
theorem dX10_many_17 : decode cX10_many 17 = .ok (.getfield 51, 3) := by decide +kernel
theorem dX10_many_20 : decode cX10_many 20 = .ok (.getfield 185, 3) := by decide +kernel
theorem dX10_many_23 : decode cX10_many 23 = .ok (.invokevirtual 246, 3) := by decide +kernel
theorem dX10_many_26 : decode cX10_many 26 = .ok (.goto 4, 3) := by decide +kernel
theorem dX10_many_29 : decode cX10_many 29 = .ok (.iconst (-1), 1) := by decide +kernel
theorem dX10_many_30 : decode cX10_many 30 = .ok (.ireturn, 1) := by decide +kernel
theorem dX10_sure_0 : decode cX10_sure 0 = .ok (.aload_n 0, 1) := by decide +kernel
theorem dX10_sure_1 : decode cX10_sure 1 = .ok (.getfield 35, 3) := by decide +kernel
theorem dX10_sure_4 : decode cX10_sure 4 = .ok (.iload_n 1, 1) := by decide +kernel
theorem dX10_sure_5 : decode cX10_sure 5 = .ok (.invokevirtual 229, 3) := by decide +kernel
theorem dX10_sure_8 : decode cX10_sure 8 = .ok (.ifCond .ne 5, 3) := by decide +kernel
theorem dX10_sure_11 : decode cX10_sure 11 = .ok (.iconst (-1), 1) := by decide +kernel
theorem dX10_sure_12 : decode cX10_sure 12 = .ok (.ireturn, 1) := by decide +kernel
theorem dX10_sure_13 : decode cX10_sure 13 = .ok (.aload_n 0, 1) := by decide +kernel
theorem dX10_sure_14 : decode cX10_sure 14 = .ok (.iload_n 1, 1) := by decide +kernel
theorem dX10_sure_15 : decode cX10_sure 15 = .ok (.invokevirtual 249, 3) := by decide +kernel
theorem dX10_sure_18 : decode cX10_sure 18 = .ok (.lconst 0, 1) := by decide +kernel
theorem dX10_sure_19 : decode cX10_sure 19 = .ok (.lcmp, 1) := by decide +kernel
theorem dX10_sure_20 : decode cX10_sure 20 = .ok (.ifCond .ne 7, 3) := by decide +kernel
theorem dX10_sure_23 : decode cX10_sure 23 = .ok (.iconst 1, 1) := by decide +kernel
theorem dX10_sure_24 : decode cX10_sure 24 = .ok (.goto 4, 3) := by decide +kernel
theorem dX10_sure_27 : decode cX10_sure 27 = .ok (.iconst 0, 1) := by decide +kernel
theorem dX10_sure_28 : decode cX10_sure 28 = .ok (.ireturn, 1) := by decide +kernel
theorem dX10_avoid_0 : decode cX10_avoid 0 = .ok (.aload_n 0, 1) := by decide +kernel
theorem dX10_avoid_1 : decode cX10_avoid 1 = .ok (.getfield 35, 3) := by decide +kernel
theorem dX10_avoid_4 : decode cX10_avoid 4 = .ok (.iload_n 1, 1) := by decide +kernel
theorem dX10_avoid_5 : decode cX10_avoid 5 = .ok (.invokevirtual 229, 3) := by decide +kernel
theorem dX10_avoid_8 : decode cX10_avoid 8 = .ok (.ifCond .eq 28, 3) := by decide +kernel
theorem dX10_avoid_11 : decode cX10_avoid 11 = .ok (.iload_n 2, 1) := by decide +kernel
theorem dX10_avoid_12 : decode cX10_avoid 12 = .ok (.ifCond .lt 24, 3) := by decide +kernel
theorem dX10_avoid_15 : decode cX10_avoid 15 = .ok (.iload_n 2, 1) := by decide +kernel
theorem dX10_avoid_16 : decode cX10_avoid 16 = .ok (.aload_n 0, 1) := by decide +kernel
theorem dX10_avoid_17 : decode cX10_avoid 17 = .ok (.getfield 10, 3) := by decide +kernel
theorem dX10_avoid_20 : decode cX10_avoid 20 = .ok (.getfield 117, 3) := by decide +kernel
theorem dX10_avoid_23 : decode cX10_avoid 23 = .ok (.if_icmp .ge 13, 3) := by decide +kernel
theorem dX10_avoid_26 : decode cX10_avoid 26 = .ok (.aload_n 0, 1) := by decide +kernel
theorem dX10_avoid_27 : decode cX10_avoid 27 = .ok (.iload_n 1, 1) := by decide +kernel
theorem dX10_avoid_28 : decode cX10_avoid 28 = .ok (.invokevirtual 249, 3) := by decide +kernel
theorem dX10_avoid_31 : decode cX10_avoid 31 = .ok (.lconst 0, 1) := by decide +kernel
theorem dX10_avoid_32 : decode cX10_avoid 32 = .ok (.lcmp, 1) := by decide +kernel
theorem dX10_avoid_33 : decode cX10_avoid 33 = .ok (.ifCond .ne 5, 3) := by decide +kernel
theorem dX10_avoid_36 : decode cX10_avoid 36 = .ok (.iconst (-1), 1) := by decide +kernel
theorem dX10_avoid_37 : decode cX10_avoid 37 = .ok (.ireturn, 1) := by decide +kernel
theorem dX10_avoid_38 : decode cX10_avoid 38 = .ok (.aload_n 0, 1) := by decide +kernel
theorem dX10_avoid_39 : decode cX10_avoid 39 = .ok (.getfield 58, 3) := by decide +kernel
theorem dX10_avoid_42 : decode cX10_avoid 42 = .ok (.aload_n 0, 1) := by decide +kernel
theorem dX10_avoid_43 : decode cX10_avoid 43 = .ok (.invokevirtual 153, 3) := by decide +kernel
theorem dX10_avoid_46 : decode cX10_avoid 46 = .ok (.lconst 0, 1) := by decide +kernel
theorem dX10_avoid_47 : decode cX10_avoid 47 = .ok (.iload_n 2, 1) := by decide +kernel
theorem dX10_avoid_48 : decode cX10_avoid 48 = .ok (.invokevirtual 196, 3) := by decide +kernel
theorem dX10_avoid_51 : decode cX10_avoid 51 = .ok (.ireturn, 1) := by decide +kernel
theorem dX10_avoids_0 : decode cX10_avoids 0 = .ok (.aload_n 0, 1) := by decide +kernel
theorem dX10_avoids_1 : decode cX10_avoids 1 = .ok (.getfield 35, 3) := by decide +kernel
theorem dX10_avoids_4 : decode cX10_avoids 4 = .ok (.iload_n 1, 1) := by decide +kernel
theorem dX10_avoids_5 : decode cX10_avoids 5 = .ok (.invokevirtual 229, 3) := by decide +kernel
theorem dX10_avoids_8 : decode cX10_avoids 8 = .ok (.ifCond .eq 25, 3) := by decide +kernel
theorem dX10_avoids_11 : decode cX10_avoids 11 = .ok (.aload_n 0, 1) := by decide +kernel
theorem dX10_avoids_12 : decode cX10_avoids 12 = .ok (.getfield 58, 3) := by decide +kernel
theorem dX10_avoids_15 : decode cX10_avoids 15 = .ok (.aload_n 0, 1) := by decide +kernel
theorem dX10_avoids_16 : decode cX10_avoids 16 = .ok (.iload_n 1, 1) := by decide +kernel
theorem dX10_avoids_17 : decode cX10_avoids 17 = .ok (.invokevirtual 235, 3) := by decide +kernel
theorem dX10_avoids_20 : decode cX10_avoids 20 = .ok (.aload_n 0, 1) := by decide +kernel
theorem dX10_avoids_21 : decode cX10_avoids 21 = .ok (.getfield 51, 3) := by decide +kernel
theorem dX10_avoids_24 : decode cX10_avoids 24 = .ok (.getfield 185, 3) := by decide +kernel
theorem dX10_avoids_27 : decode cX10_avoids 27 = .ok (.invokevirtual 188, 3) := by decide +kernel
theorem dX10_avoids_30 : decode cX10_avoids 30 = .ok (.goto 6, 3) := by decide +kernel
theorem dX10_avoids_33 : decode cX10_avoids 33 = .ok (.ldc2_w 253, 3) := by decide +kernel
theorem dX10_avoids_36 : decode cX10_avoids 36 = .ok (.lreturn, 1) := by decide +kernel
theorem dX10_is_0 : decode cX10_is 0 = .ok (.aload_n 0, 1) := by decide +kernel
theorem dX10_is_1 : decode cX10_is 1 = .ok (.getfield 35, 3) := by decide +kernel
theorem dX10_is_4 : decode cX10_is 4 = .ok (.iload_n 1, 1) := by decide +kernel
theorem dX10_is_5 : decode cX10_is 5 = .ok (.invokevirtual 229, 3) := by decide +kernel
theorem dX10_is_8 : decode cX10_is 8 = .ok (.ifCond .eq 12, 3) := by decide +kernel
theorem dX10_is_11 : decode cX10_is 11 = .ok (.iload_n 2, 1) := by decide +kernel
theorem dX10_is_12 : decode cX10_is 12 = .ok (.ifCond .lt 8, 3) := by decide +kernel
theorem dX10_is_15 : decode cX10_is 15 = .ok (.iload_n 2, 1) := by decide +kernel
theorem dX10_is_16 : decode cX10_is 16 = .ok (.iconst 2, 1) := by decide +kernel
theorem dX10_is_17 : decode cX10_is 17 = .ok (.if_icmp .le 5, 3) := by decide +kernel
theorem dX10_is_20 : decode cX10_is 20 = .ok (.iconst (-1), 1) := by decide +kernel
theorem dX10_is_21 : decode cX10_is 21 = .ok (.ireturn, 1) := by decide +kernel
theorem dX10_is_22 : decode cX10_is 22 = .ok (.aload_n 0, 1) := by decide +kernel
theorem dX10_is_23 : decode cX10_is 23 = .ok (.iload_n 1, 1) := by decide +kernel
theorem dX10_is_24 : decode cX10_is 24 = .ok (.invokevirtual 235, 3) := by decide +kernel
theorem dX10_is_27 : decode cX10_is 27 = .ok (.astore_n 3, 1) := by decide +kernel
theorem dX10_is_28 : decode cX10_is 28 = .ok (.iload_n 2, 1) := by decide +kernel
theorem dX10_is_29 : decode cX10_is 29 = .ok (.ifCond .ne 14, 3) := by decide +kernel
theorem dX10_is_32 : decode cX10_is 32 = .ok (.aload_n 0, 1) := by decide +kernel
theorem dX10_is_33 : decode cX10_is 33 = .ok (.getfield 51, 3) := by decide +kernel
theorem dX10_is_36 : decode cX10_is 36 = .ok (.aload_n 3, 1) := by decide +kernel
theorem dX10_is_37 : decode cX10_is 37 = .ok (.invokevirtual 255, 3) := by decide +kernel
theorem dX10_is_40 : decode cX10_is 40 = .ok (.goto 27, 3) := by decide +kernel
theorem dX10_is_43 : decode cX10_is 43 = .ok (.iload_n 2, 1) := by decide +kernel
theorem dX10_is_44 : decode cX10_is 44 = .ok (.iconst 1, 1) := by decide +kernel
theorem dX10_is_45 : decode cX10_is 45 = .ok (.if_icmp .ne 14, 3) := by decide +kernel
theorem dX10_is_48 : decode cX10_is 48 = .ok (.aload_n 0, 1) := by decide +kernel
theorem dX10_is_49 : decode cX10_is 49 = .ok (.getfield 51, 3) := by decide +kernel
theorem dX10_is_52 : decode cX10_is 52 = .ok (.aload_n 3, 1) := by decide +kernel
theorem dX10_is_53 : decode cX10_is 53 = .ok (.invokevirtual 259, 3) := by decide +kernel
theorem dX10_is_56 : decode cX10_is 56 = .ok (.goto 11, 3) := by decide +kernel
theorem dX10_is_59 : decode cX10_is 59 = .ok (.aload_n 0, 1) := by decide +kernel
theorem dX10_is_60 : decode cX10_is 60 = .ok (.getfield 51, 3) := by decide +kernel
theorem dX10_is_63 : decode cX10_is 63 = .ok (.aload_n 3, 1) := by decide +kernel
theorem dX10_is_64 : decode cX10_is 64 = .ok (.invokevirtual 262, 3) := by decide +kernel
theorem dX10_is_67 : decode cX10_is 67 = .ok (.istore 4, 2) := by decide +kernel
theorem dX10_is_69 : decode cX10_is 69 = .ok (.iload 4, 2) := by decide +kernel
theorem dX10_is_71 : decode cX10_is 71 = .ok (.ifCond .eq 7, 3) := by decide +kernel
theorem dX10_is_74 : decode cX10_is 74 = .ok (.iconst 1, 1) := by decide +kernel
theorem dX10_is_75 : decode cX10_is 75 = .ok (.goto 4, 3) := by decide +kernel
theorem dX10_is_78 : decode cX10_is 78 = .ok (.iconst 0, 1) := by decide +kernel
theorem dX10_is_79 : decode cX10_is 79 = .ok (.ireturn, 1) := by decide +kernel
theorem dX10_before_0 : decode cX10_before 0 = .ok (.aload_n 0, 1) := by decide +kernel
theorem dX10_before_1 : decode cX10_before 1 = .ok (.getfield 35, 3) := by decide +kernel
theorem dX10_before_4 : decode cX10_before 4 = .ok (.iload_n 1, 1) := by decide +kernel
theorem dX10_before_5 : decode cX10_before 5 = .ok (.invokevirtual 229, 3) := by decide +kernel
theorem dX10_before_8 : decode cX10_before 8 = .ok (.ifCond .eq 14, 3) := by decide +kernel
theorem dX10_before_11 : decode cX10_before 11 = .ok (.aload_n 0, 1) := by decide +kernel
theorem dX10_before_12 : decode cX10_before 12 = .ok (.getfield 35, 3) := by decide +kernel
theorem dX10_before_15 : decode cX10_before 15 = .ok (.iload_n 2, 1) := by decide +kernel
theorem dX10_before_16 : decode cX10_before 16 = .ok (.invokevirtual 229, 3) := by decide +kernel
theorem dX10_before_19 : decode cX10_before 19 = .ok (.ifCond .ne 5, 3) := by decide +kernel
theorem dX10_before_22 : decode cX10_before 22 = .ok (.iconst (-1), 1) := by decide +kernel
theorem dX10_before_23 : decode cX10_before 23 = .ok (.ireturn, 1) := by decide +kernel
theorem dX10_before_24 : decode cX10_before 24 = .ok (.aload_n 0, 1) := by decide +kernel
theorem dX10_before_25 : decode cX10_before 25 = .ok (.getfield 58, 3) := by decide +kernel
theorem dX10_before_28 : decode cX10_before 28 = .ok (.aload_n 0, 1) := by decide +kernel
theorem dX10_before_29 : decode cX10_before 29 = .ok (.iload_n 1, 1) := by decide +kernel
theorem dX10_before_30 : decode cX10_before 30 = .ok (.invokevirtual 235, 3) := by decide +kernel
theorem dX10_before_33 : decode cX10_before 33 = .ok (.aload_n 0, 1) := by decide +kernel
theorem dX10_before_34 : decode cX10_before 34 = .ok (.getfield 51, 3) := by decide +kernel
theorem dX10_before_37 : decode cX10_before 37 = .ok (.getfield 185, 3) := by decide +kernel
theorem dX10_before_40 : decode cX10_before 40 = .ok (.aload_n 0, 1) := by decide +kernel
theorem dX10_before_41 : decode cX10_before 41 = .ok (.getfield 42, 3) := by decide +kernel
theorem dX10_before_44 : decode cX10_before 44 = .ok (.aload_n 0, 1) := by decide +kernel
theorem dX10_before_45 : decode cX10_before 45 = .ok (.getfield 35, 3) := by decide +kernel
theorem dX10_before_48 : decode cX10_before 48 = .ok (.getfield 230, 3) := by decide +kernel
theorem dX10_before_51 : decode cX10_before 51 = .ok (.iload_n 2, 1) := by decide +kernel
theorem dX10_before_52 : decode cX10_before 52 = .ok (.aaload, 1) := by decide +kernel
theorem dX10_before_53 : decode cX10_before 53 = .ok (.invokevirtual 265, 3) := by decide +kernel
theorem dX10_before_56 : decode cX10_before 56 = .ok (.lstore_n 3, 1) := by decide +kernel
theorem dX10_before_57 : decode cX10_before 57 = .ok (.lload_n 3, 1) := by decide +kernel
theorem dX10_before_58 : decode cX10_before 58 = .ok (.lconst 0, 1) := by decide +kernel
theorem dX10_before_59 : decode cX10_before 59 = .ok (.lcmp, 1) := by decide +kernel
theorem dX10_before_60 : decode cX10_before 60 = .ok (.ifCond .ne 7, 3) := by decide +kernel
theorem dX10_before_63 : decode cX10_before 63 = .ok (.iconst 1, 1) := by decide +kernel
theorem dX10_before_64 : decode cX10_before 64 = .ok (.goto 4, 3) := by decide +kernel
theorem dX10_before_67 : decode cX10_before 67 = .ok (.iconst 0, 1) := by decide +kernel
theorem dX10_before_68 : decode cX10_before 68 = .ok (.ireturn, 1) := by decide +kernel
theorem dX10_say_0 : decode cX10_say 0 = .ok (.iload_n 1, 1) := by decide +kernel
theorem dX10_say_1 : decode cX10_say 1 = .ok (.invokestatic 206, 3) := by decide +kernel
theorem dX10_say_4 : decode cX10_say 4 = .ok (.ifCond .ne 6, 3) := by decide +kernel
theorem dX10_say_7 : decode cX10_say 7 = .ok (.bipush (-2), 2) := by decide +kernel
theorem dX10_say_9 : decode cX10_say 9 = .ok (.ireturn, 1) := by decide +kernel
theorem dX10_say_10 : decode cX10_say 10 = .ok (.aload_n 0, 1) := by decide +kernel
theorem dX10_say_11 : decode cX10_say 11 = .ok (.getfield 65, 3) := by decide +kernel
theorem dX10_say_14 : decode cX10_say 14 = .ok (.getfield 269, 3) := by decide +kernel
theorem dX10_say_17 : decode cX10_say 17 = .ok (.bipush 24, 2) := by decide +kernel
theorem dX10_say_19 : decode cX10_say 19 = .ok (.if_icmp .lt 8, 3) := by decide +kernel
theorem dX10_say_22 : decode cX10_say 22 = .ok (.bipush (-4), 2) := by decide +kernel
theorem dX10_say_24 : decode cX10_say 24 = .ok (.goto 11, 3) := by decide +kernel
theorem dX10_say_27 : decode cX10_say 27 = .ok (.aload_n 0, 1) := by decide +kernel
theorem dX10_say_28 : decode cX10_say 28 = .ok (.getfield 65, 3) := by decide +kernel
theorem dX10_say_31 : decode cX10_say 31 = .ok (.iload_n 1, 1) := by decide +kernel
theorem dX10_say_32 : decode cX10_say 32 = .ok (.invokevirtual 272, 3) := by decide +kernel
theorem dX10_say_35 : decode cX10_say 35 = .ok (.ireturn, 1) := by decide +kernel
theorem dX10_check_0 : decode cX10_check 0 = .ok (.aload_n 0, 1) := by decide +kernel
theorem dX10_check_1 : decode cX10_check 1 = .ok (.getfield 65, 3) := by decide +kernel
theorem dX10_check_4 : decode cX10_check 4 = .ok (.getfield 269, 3) := by decide +kernel
theorem dX10_check_7 : decode cX10_check 7 = .ok (.istore_n 1, 1) := by decide +kernel
theorem dX10_check_8 : decode cX10_check 8 = .ok (.aload_n 0, 1) := by decide +kernel
theorem dX10_check_9 : decode cX10_check 9 = .ok (.getfield 65, 3) := by decide +kernel
theorem dX10_check_12 : decode cX10_check 12 = .ok (.aload_n 0, 1) := by decide +kernel
theorem dX10_check_13 : decode cX10_check 13 = .ok (.invokevirtual 153, 3) := by decide +kernel
theorem dX10_check_16 : decode cX10_check 16 = .ok (.invokevirtual 275, 3) := by decide +kernel
theorem dX10_check_19 : decode cX10_check 19 = .ok (.istore_n 2, 1) := by decide +kernel
theorem dX10_check_20 : decode cX10_check 20 = .ok (.aload_n 0, 1) := by decide +kernel
theorem dX10_check_21 : decode cX10_check 21 = .ok (.getfield 65, 3) := by decide +kernel
theorem dX10_check_24 : decode cX10_check 24 = .ok (.iconst 0, 1) := by decide +kernel
theorem dX10_check_25 : decode cX10_check 25 = .ok (.putfield 269, 3) := by decide +kernel
theorem dX10_check_28 : decode cX10_check 28 = .ok (.iload_n 2, 1) := by decide +kernel
theorem dX10_check_29 : decode cX10_check 29 = .ok (.iload_n 1, 1) := by decide +kernel
theorem dX10_check_30 : decode cX10_check 30 = .ok (.if_icmp .ne 19, 3) := by decide +kernel
theorem dX10_check_33 : decode cX10_check 33 = .ok (.iload_n 1, 1) := by decide +kernel
theorem dX10_check_34 : decode cX10_check 34 = .ok (.aload_n 0, 1) := by decide +kernel
theorem dX10_check_35 : decode cX10_check 35 = .ok (.getfield 10, 3) := by decide +kernel
theorem dX10_check_38 : decode cX10_check 38 = .ok (.getfield 117, 3) := by decide +kernel
theorem dX10_check_41 : decode cX10_check 41 = .ok (.if_icmp .ne 8, 3) := by decide +kernel
theorem dX10_check_44 : decode cX10_check 44 = .ok (.bipush 100, 2) := by decide +kernel
theorem dX10_check_46 : decode cX10_check 46 = .ok (.goto 4, 3) := by decide +kernel
theorem dX10_check_49 : decode cX10_check 49 = .ok (.iload_n 2, 1) := by decide +kernel
theorem dX10_check_50 : decode cX10_check 50 = .ok (.ireturn, 1) := by decide +kernel
theorem dX10_passes_0 : decode cX10_passes 0 = .ok (.aload_n 0, 1) := by decide +kernel
theorem dX10_passes_1 : decode cX10_passes 1 = .ok (.getfield 35, 3) := by decide +kernel
theorem dX10_passes_4 : decode cX10_passes 4 = .ok (.iload_n 1, 1) := by decide +kernel
theorem dX10_passes_5 : decode cX10_passes 5 = .ok (.invokevirtual 229, 3) := by decide +kernel
theorem dX10_passes_8 : decode cX10_passes 8 = .ok (.ifCond .ne 5, 3) := by decide +kernel
theorem dX10_passes_11 : decode cX10_passes 11 = .ok (.iconst (-1), 1) := by decide +kernel
theorem dX10_passes_12 : decode cX10_passes 12 = .ok (.ireturn, 1) := by decide +kernel
theorem dX10_passes_13 : decode cX10_passes 13 = .ok (.aload_n 0, 1) := by decide +kernel
theorem dX10_passes_14 : decode cX10_passes 14 = .ok (.getfield 65, 3) := by decide +kernel
theorem dX10_passes_17 : decode cX10_passes 17 = .ok (.aload_n 0, 1) := by decide +kernel
theorem dX10_passes_18 : decode cX10_passes 18 = .ok (.invokevirtual 153, 3) := by decide +kernel
theorem dX10_passes_21 : decode cX10_passes 21 = .ok (.invokevirtual 275, 3) := by decide +kernel
theorem dX10_passes_24 : decode cX10_passes 24 = .ok (.aload_n 0, 1) := by decide +kernel
theorem dX10_passes_25 : decode cX10_passes 25 = .ok (.getfield 65, 3) := by decide +kernel
theorem dX10_passes_28 : decode cX10_passes 28 = .ok (.getfield 269, 3) := by decide +kernel
theorem dX10_passes_31 : decode cX10_passes 31 = .ok (.if_icmp .ge 6, 3) := by decide +kernel
theorem dX10_passes_34 : decode cX10_passes 34 = .ok (.bipush (-3), 2) := by decide +kernel
theorem dX10_passes_36 : decode cX10_passes 36 = .ok (.ireturn, 1) := by decide +kernel
theorem dX10_passes_37 : decode cX10_passes 37 = .ok (.aload_n 0, 1) := by decide +kernel
theorem dX10_passes_38 : decode cX10_passes 38 = .ok (.getfield 65, 3) := by decide +kernel
theorem dX10_passes_41 : decode cX10_passes 41 = .ok (.aload_n 0, 1) := by decide +kernel
theorem dX10_passes_42 : decode cX10_passes 42 = .ok (.getfield 42, 3) := by decide +kernel
theorem dX10_passes_45 : decode cX10_passes 45 = .ok (.aload_n 0, 1) := by decide +kernel
theorem dX10_passes_46 : decode cX10_passes 46 = .ok (.getfield 35, 3) := by decide +kernel
theorem dX10_passes_49 : decode cX10_passes 49 = .ok (.getfield 230, 3) := by decide +kernel
theorem dX10_passes_52 : decode cX10_passes 52 = .ok (.iload_n 1, 1) := by decide +kernel
theorem dX10_passes_53 : decode cX10_passes 53 = .ok (.aaload, 1) := by decide +kernel
theorem dX10_passes_54 : decode cX10_passes 54 = .ok (.invokevirtual 279, 3) := by decide +kernel
theorem dX10_passes_57 : decode cX10_passes 57 = .ok (.ireturn, 1) := by decide +kernel
theorem dX10_count_0 : decode cX10_count 0 = .ok (.iload_n 1, 1) := by decide +kernel
theorem dX10_count_1 : decode cX10_count 1 = .ok (.tableswitch 105 0 6 #[43, 51, 59, 70, 81, 89, 97], 43) := by decide +kernel
theorem dX10_count_44 : decode cX10_count 44 = .ok (.aload_n 0, 1) := by decide +kernel
theorem dX10_count_45 : decode cX10_count 45 = .ok (.getfield 10, 3) := by decide +kernel
theorem dX10_count_48 : decode cX10_count 48 = .ok (.getfield 73, 3) := by decide +kernel
theorem dX10_count_51 : decode cX10_count 51 = .ok (.ireturn, 1) := by decide +kernel
theorem dX10_count_52 : decode cX10_count 52 = .ok (.aload_n 0, 1) := by decide +kernel
theorem dX10_count_53 : decode cX10_count 53 = .ok (.getfield 10, 3) := by decide +kernel
theorem dX10_count_56 : decode cX10_count 56 = .ok (.getfield 117, 3) := by decide +kernel
theorem dX10_count_59 : decode cX10_count 59 = .ok (.ireturn, 1) := by decide +kernel
theorem dX10_count_60 : decode cX10_count 60 = .ok (.aload_n 0, 1) := by decide +kernel
theorem dX10_count_61 : decode cX10_count 61 = .ok (.getfield 10, 3) := by decide +kernel
theorem dX10_count_64 : decode cX10_count 64 = .ok (.getfield 94, 3) := by decide +kernel
theorem dX10_count_67 : decode cX10_count 67 = .ok (.getfield 283, 3) := by decide +kernel
theorem dX10_count_70 : decode cX10_count 70 = .ok (.ireturn, 1) := by decide +kernel
theorem dX10_count_71 : decode cX10_count 71 = .ok (.aload_n 0, 1) := by decide +kernel
theorem dX10_count_72 : decode cX10_count 72 = .ok (.getfield 10, 3) := by decide +kernel
theorem dX10_count_75 : decode cX10_count 75 = .ok (.getfield 94, 3) := by decide +kernel
theorem dX10_count_78 : decode cX10_count 78 = .ok (.invokevirtual 284, 3) := by decide +kernel
theorem dX10_count_81 : decode cX10_count 81 = .ok (.ireturn, 1) := by decide +kernel
theorem dX10_count_82 : decode cX10_count 82 = .ok (.aload_n 0, 1) := by decide +kernel
theorem dX10_count_83 : decode cX10_count 83 = .ok (.getfield 35, 3) := by decide +kernel
theorem dX10_count_86 : decode cX10_count 86 = .ok (.getfield 220, 3) := by decide +kernel
theorem dX10_count_89 : decode cX10_count 89 = .ok (.ireturn, 1) := by decide +kernel
theorem dX10_count_90 : decode cX10_count 90 = .ok (.aload_n 0, 1) := by decide +kernel
theorem dX10_count_91 : decode cX10_count 91 = .ok (.getfield 28, 3) := by decide +kernel
theorem dX10_count_94 : decode cX10_count 94 = .ok (.getfield 200, 3) := by decide +kernel
theorem dX10_count_97 : decode cX10_count 97 = .ok (.ireturn, 1) := by decide +kernel
theorem dX10_count_98 : decode cX10_count 98 = .ok (.aload_n 0, 1) := by decide +kernel
theorem dX10_count_99 : decode cX10_count 99 = .ok (.getfield 65, 3) := by decide +kernel
theorem dX10_count_102 : decode cX10_count 102 = .ok (.getfield 269, 3) := by decide +kernel
theorem dX10_count_105 : decode cX10_count 105 = .ok (.ireturn, 1) := by decide +kernel
theorem dX10_count_106 : decode cX10_count 106 = .ok (.iconst (-1), 1) := by decide +kernel
theorem dX10_count_107 : decode cX10_count 107 = .ok (.ireturn, 1) := by decide +kernel
theorem dX10_freshNet_0 : decode cX10_freshNet 0 = .ok (.aload_n 0, 1) := by decide +kernel
theorem dX10_freshNet_1 : decode cX10_freshNet 1 = .ok (.getfield 21, 3) := by decide +kernel
theorem dX10_freshNet_4 : decode cX10_freshNet 4 = .ok (.invokevirtual 287, 3) := by decide +kernel
theorem dX10_freshNet_7 : decode cX10_freshNet 7 = .ok (.aload_n 0, 1) := by decide +kernel
theorem dX10_freshNet_8 : decode cX10_freshNet 8 = .ok (.getfield 21, 3) := by decide +kernel
theorem dX10_freshNet_11 : decode cX10_freshNet 11 = .ok (.areturn, 1) := by decide +kernel
theorem dX10_markedNet_0 : decode cX10_markedNet 0 = .ok (.aload_n 0, 1) := by decide +kernel
theorem dX10_markedNet_1 : decode cX10_markedNet 1 = .ok (.invokevirtual 153, 3) := by decide +kernel
theorem dX10_markedNet_4 : decode cX10_markedNet 4 = .ok (.astore_n 2, 1) := by decide +kernel
theorem dX10_markedNet_5 : decode cX10_markedNet 5 = .ok (.aload_n 0, 1) := by decide +kernel
theorem dX10_markedNet_6 : decode cX10_markedNet 6 = .ok (.getfield 51, 3) := by decide +kernel
theorem dX10_markedNet_9 : decode cX10_markedNet 9 = .ok (.aload_n 2, 1) := by decide +kernel
theorem dX10_markedNet_10 : decode cX10_markedNet 10 = .ok (.aload_n 0, 1) := by decide +kernel
theorem dX10_markedNet_11 : decode cX10_markedNet 11 = .ok (.getfield 35, 3) := by decide +kernel
theorem dX10_markedNet_14 : decode cX10_markedNet 14 = .ok (.getfield 230, 3) := by decide +kernel
theorem dX10_markedNet_17 : decode cX10_markedNet 17 = .ok (.iload_n 1, 1) := by decide +kernel
theorem dX10_markedNet_18 : decode cX10_markedNet 18 = .ok (.aaload, 1) := by decide +kernel
theorem dX10_markedNet_19 : decode cX10_markedNet 19 = .ok (.invokevirtual 290, 3) := by decide +kernel
theorem dX10_markedNet_22 : decode cX10_markedNet 22 = .ok (.aload_n 2, 1) := by decide +kernel
theorem dX10_markedNet_23 : decode cX10_markedNet 23 = .ok (.areturn, 1) := by decide +kernel
theorem dX11_init_0 : decode cX11_init 0 = .ok (.aload_n 0, 1) := by decide +kernel
theorem dX11_init_1 : decode cX11_init 1 = .ok (.invokespecial 1, 3) := by decide +kernel
theorem dX11_init_4 : decode cX11_init 4 = .ok (.aload_n 0, 1) := by decide +kernel
theorem dX11_init_5 : decode cX11_init 5 = .ok (.iconst 4, 1) := by decide +kernel
theorem dX11_init_6 : decode cX11_init 6 = .ok (.newarray .int, 2) := by decide +kernel
theorem dX11_init_8 : decode cX11_init 8 = .ok (.putfield 7, 3) := by decide +kernel
theorem dX11_init_11 : decode cX11_init 11 = .ok (.aload_n 0, 1) := by decide +kernel
theorem dX11_init_12 : decode cX11_init 12 = .ok (.bipush 24, 2) := by decide +kernel
theorem dX11_init_14 : decode cX11_init 14 = .ok (.newarray .int, 2) := by decide +kernel
theorem dX11_init_16 : decode cX11_init 16 = .ok (.putfield 13, 3) := by decide +kernel
theorem dX11_init_19 : decode cX11_init 19 = .ok (.aload_n 0, 1) := by decide +kernel
theorem dX11_init_20 : decode cX11_init 20 = .ok (.bipush 24, 2) := by decide +kernel
theorem dX11_init_22 : decode cX11_init 22 = .ok (.newarray .int, 2) := by decide +kernel
theorem dX11_init_24 : decode cX11_init 24 = .ok (.putfield 16, 3) := by decide +kernel
theorem dX11_init_27 : decode cX11_init 27 = .ok (.aload_n 0, 1) := by decide +kernel
theorem dX11_init_28 : decode cX11_init 28 = .ok (.bipush 24, 2) := by decide +kernel
theorem dX11_init_30 : decode cX11_init 30 = .ok (.newarray .int, 2) := by decide +kernel
theorem dX11_init_32 : decode cX11_init 32 = .ok (.putfield 19, 3) := by decide +kernel
theorem dX11_init_35 : decode cX11_init 35 = .ok (.aload_n 0, 1) := by decide +kernel
theorem dX11_init_36 : decode cX11_init 36 = .ok (.bipush 24, 2) := by decide +kernel
theorem dX11_init_38 : decode cX11_init 38 = .ok (.newarray .int, 2) := by decide +kernel
theorem dX11_init_40 : decode cX11_init 40 = .ok (.putfield 22, 3) := by decide +kernel
theorem dX11_init_43 : decode cX11_init 43 = .ok (.aload_n 0, 1) := by decide +kernel
theorem dX11_init_44 : decode cX11_init 44 = .ok (.bipush 96, 2) := by decide +kernel
theorem dX11_init_46 : decode cX11_init 46 = .ok (.newarray .int, 2) := by decide +kernel
theorem dX11_init_48 : decode cX11_init 48 = .ok (.putfield 25, 3) := by decide +kernel
theorem dX11_init_51 : decode cX11_init 51 = .ok (.aload_n 0, 1) := by decide +kernel
theorem dX11_init_52 : decode cX11_init 52 = .ok (.bipush 24, 2) := by decide +kernel
theorem dX11_init_54 : decode cX11_init 54 = .ok (.newarray .int, 2) := by decide +kernel
theorem dX11_init_56 : decode cX11_init 56 = .ok (.putfield 28, 3) := by decide +kernel
theorem dX11_init_59 : decode cX11_init 59 = .ok (.aload_n 0, 1) := by decide +kernel
theorem dX11_init_60 : decode cX11_init 60 = .ok (.bipush 24, 2) := by decide +kernel
theorem dX11_init_62 : decode cX11_init 62 = .ok (.newarray .int, 2) := by decide +kernel
theorem dX11_init_64 : decode cX11_init 64 = .ok (.putfield 31, 3) := by decide +kernel
theorem dX11_init_67 : decode cX11_init 67 = .ok (.aload_n 0, 1) := by decide +kernel
theorem dX11_init_68 : decode cX11_init 68 = .ok (.bipush 24, 2) := by decide +kernel
theorem dX11_init_70 : decode cX11_init 70 = .ok (.newarray .int, 2) := by decide +kernel
theorem dX11_init_72 : decode cX11_init 72 = .ok (.putfield 34, 3) := by decide +kernel
theorem dX11_init_75 : decode cX11_init 75 = .ok (.aload_n 0, 1) := by decide +kernel
theorem dX11_init_76 : decode cX11_init 76 = .ok (.bipush 24, 2) := by decide +kernel
theorem dX11_init_78 : decode cX11_init 78 = .ok (.newarray .int, 2) := by decide +kernel
theorem dX11_init_80 : decode cX11_init 80 = .ok (.putfield 37, 3) := by decide +kernel
theorem dX11_init_83 : decode cX11_init 83 = .ok (.aload_n 0, 1) := by decide +kernel
theorem dX11_init_84 : decode cX11_init 84 = .ok (.sipush 2401, 3) := by decide +kernel
theorem dX11_init_87 : decode cX11_init 87 = .ok (.newarray .boolean, 2) := by decide +kernel
theorem dX11_init_89 : decode cX11_init 89 = .ok (.putfield 40, 3) := by decide +kernel
theorem dX11_init_92 : decode cX11_init 92 = .ok (.aload_n 0, 1) := by decide +kernel
theorem dX11_init_93 : decode cX11_init 93 = .ok (.sipush 2401, 3) := by decide +kernel
theorem dX11_init_96 : decode cX11_init 96 = .ok (.newarray .long, 2) := by decide +kernel
theorem dX11_init_98 : decode cX11_init 98 = .ok (.putfield 44, 3) := by decide +kernel
theorem dX11_init_101 : decode cX11_init 101 = .ok (.aload_n 0, 1) := by decide +kernel
theorem dX11_init_102 : decode cX11_init 102 = .ok (.sipush 240, 3) := by decide +kernel
theorem dX11_init_105 : decode cX11_init 105 = .ok (.newarray .int, 2) := by decide +kernel
theorem dX11_init_107 : decode cX11_init 107 = .ok (.putfield 48, 3) := by decide +kernel
theorem dX11_init_110 : decode cX11_init 110 = .ok (.aload_n 0, 1) := by decide +kernel
theorem dX11_init_111 : decode cX11_init 111 = .ok (.sipush 240, 3) := by decide +kernel
theorem dX11_init_114 : decode cX11_init 114 = .ok (.newarray .int, 2) := by decide +kernel
theorem dX11_init_116 : decode cX11_init 116 = .ok (.putfield 51, 3) := by decide +kernel
theorem dX11_init_119 : decode cX11_init 119 = .ok (.aload_n 0, 1) := by decide +kernel
theorem dX11_init_120 : decode cX11_init 120 = .ok (.sipush 240, 3) := by decide +kernel
theorem dX11_init_123 : decode cX11_init 123 = .ok (.newarray .int, 2) := by decide +kernel
theorem dX11_init_125 : decode cX11_init 125 = .ok (.putfield 54, 3) := by decide +kernel
theorem dX11_init_128 : decode cX11_init 128 = .ok (.aload_n 0, 1) := by decide +kernel
theorem dX11_init_129 : decode cX11_init 129 = .ok (.bipush 16, 2) := by decide +kernel
theorem dX11_init_131 : decode cX11_init 131 = .ok (.newarray .int, 2) := by decide +kernel
theorem dX11_init_133 : decode cX11_init 133 = .ok (.putfield 57, 3) := by decide +kernel
theorem dX11_init_136 : decode cX11_init 136 = .ok (.aload_n 0, 1) := by decide +kernel
theorem dX11_init_137 : decode cX11_init 137 = .ok (.bipush 16, 2) := by decide +kernel
theorem dX11_init_139 : decode cX11_init 139 = .ok (.newarray .int, 2) := by decide +kernel
theorem dX11_init_141 : decode cX11_init 141 = .ok (.putfield 60, 3) := by decide +kernel
theorem dX11_init_144 : decode cX11_init 144 = .ok (.aload_n 0, 1) := by decide +kernel
theorem dX11_init_145 : decode cX11_init 145 = .ok (.sipush 2401, 3) := by decide +kernel
theorem dX11_init_148 : decode cX11_init 148 = .ok (.newarray .boolean, 2) := by decide +kernel
theorem dX11_init_150 : decode cX11_init 150 = .ok (.putfield 63, 3) := by decide +kernel
theorem dX11_init_153 : decode cX11_init 153 = .ok (.aload_n 0, 1) := by decide +kernel
theorem dX11_init_154 : decode cX11_init 154 = .ok (.sipush 2401, 3) := by decide +kernel
theorem dX11_init_157 : decode cX11_init 157 = .ok (.newarray .boolean, 2) := by decide +kernel
theorem dX11_init_159 : decode cX11_init 159 = .ok (.putfield 66, 3) := by decide +kernel
theorem dX11_init_162 : decode cX11_init 162 = .ok (.aload_n 0, 1) := by decide +kernel
theorem dX11_init_163 : decode cX11_init 163 = .ok (.bipush 24, 2) := by decide +kernel
theorem dX11_init_165 : decode cX11_init 165 = .ok (.newarray .int, 2) := by decide +kernel
theorem dX11_init_167 : decode cX11_init 167 = .ok (.putfield 69, 3) := by decide +kernel
theorem dX11_init_170 : decode cX11_init 170 = .ok (.return_, 1) := by decide +kernel
theorem dX11_in_0 : decode cX11_in 0 = .ok (.iload_n 0, 1) := by decide +kernel
theorem dX11_in_1 : decode cX11_in 1 = .ok (.iload_n 1, 1) := by decide +kernel
theorem dX11_in_2 : decode cX11_in 2 = .ok (.if_icmp .lt 12, 3) := by decide +kernel
theorem dX11_in_5 : decode cX11_in 5 = .ok (.iload_n 0, 1) := by decide +kernel
theorem dX11_in_6 : decode cX11_in 6 = .ok (.iload_n 2, 1) := by decide +kernel
theorem dX11_in_7 : decode cX11_in 7 = .ok (.if_icmp .gt 7, 3) := by decide +kernel
theorem dX11_in_10 : decode cX11_in 10 = .ok (.iconst 1, 1) := by decide +kernel
theorem dX11_in_11 : decode cX11_in 11 = .ok (.goto 4, 3) := by decide +kernel
theorem dX11_in_14 : decode cX11_in 14 = .ok (.iconst 0, 1) := by decide +kernel
theorem dX11_in_15 : decode cX11_in 15 = .ok (.ireturn, 1) := by decide +kernel
theorem dX11_isProcess_0 : decode cX11_isProcess 0 = .ok (.iload_n 1, 1) := by decide +kernel
theorem dX11_isProcess_1 : decode cX11_isProcess 1 = .ok (.iconst 0, 1) := by decide +kernel
theorem dX11_isProcess_2 : decode cX11_isProcess 2 = .ok (.aload_n 0, 1) := by decide +kernel
theorem dX11_isProcess_3 : decode cX11_isProcess 3 = .ok (.getfield 76, 3) := by decide +kernel
theorem dX11_isProcess_6 : decode cX11_isProcess 6 = .ok (.iconst 1, 1) := by decide +kernel
theorem dX11_isProcess_7 : decode cX11_isProcess 7 = .ok (.isub, 1) := by decide +kernel
theorem dX11_isProcess_8 : decode cX11_isProcess 8 = .ok (.invokestatic 79, 3) := by decide +kernel
theorem dX11_isProcess_11 : decode cX11_isProcess 11 = .ok (.ireturn, 1) := by decide +kernel
theorem dX11_isEvent_0 : decode cX11_isEvent 0 = .ok (.aload_n 0, 1) := by decide +kernel
theorem dX11_isEvent_1 : decode cX11_isEvent 1 = .ok (.iload_n 1, 1) := by decide +kernel
theorem dX11_isEvent_2 : decode cX11_isEvent 2 = .ok (.invokevirtual 83, 3) := by decide +kernel
theorem dX11_isEvent_5 : decode cX11_isEvent 5 = .ok (.ifCond .eq 23, 3) := by decide +kernel
theorem dX11_isEvent_8 : decode cX11_isEvent 8 = .ok (.iload_n 2, 1) := by decide +kernel
theorem dX11_isEvent_9 : decode cX11_isEvent 9 = .ok (.iconst 0, 1) := by decide +kernel
theorem dX11_isEvent_10 : decode cX11_isEvent 10 = .ok (.aload_n 0, 1) := by decide +kernel
theorem dX11_isEvent_11 : decode cX11_isEvent 11 = .ok (.getfield 7, 3) := by decide +kernel
theorem dX11_isEvent_14 : decode cX11_isEvent 14 = .ok (.iload_n 1, 1) := by decide +kernel
theorem dX11_isEvent_15 : decode cX11_isEvent 15 = .ok (.iaload, 1) := by decide +kernel
theorem dX11_isEvent_16 : decode cX11_isEvent 16 = .ok (.iconst 1, 1) := by decide +kernel
theorem dX11_isEvent_17 : decode cX11_isEvent 17 = .ok (.isub, 1) := by decide +kernel
theorem dX11_isEvent_18 : decode cX11_isEvent 18 = .ok (.invokestatic 79, 3) := by decide +kernel
theorem dX11_isEvent_21 : decode cX11_isEvent 21 = .ok (.ifCond .eq 7, 3) := by decide +kernel
theorem dX11_isEvent_24 : decode cX11_isEvent 24 = .ok (.iconst 1, 1) := by decide +kernel
theorem dX11_isEvent_25 : decode cX11_isEvent 25 = .ok (.goto 4, 3) := by decide +kernel
theorem dX11_isEvent_28 : decode cX11_isEvent 28 = .ok (.iconst 0, 1) := by decide +kernel
theorem dX11_isEvent_29 : decode cX11_isEvent 29 = .ok (.ireturn, 1) := by decide +kernel
theorem dX11_process_0 : decode cX11_process 0 = .ok (.aload_n 0, 1) := by decide +kernel
theorem dX11_process_1 : decode cX11_process 1 = .ok (.getfield 76, 3) := by decide +kernel
theorem dX11_process_4 : decode cX11_process 4 = .ok (.iconst 4, 1) := by decide +kernel
theorem dX11_process_5 : decode cX11_process 5 = .ok (.if_icmp .ne 6, 3) := by decide +kernel
theorem dX11_process_8 : decode cX11_process 8 = .ok (.bipush (-4), 2) := by decide +kernel
theorem dX11_process_10 : decode cX11_process 10 = .ok (.ireturn, 1) := by decide +kernel
theorem dX11_process_11 : decode cX11_process 11 = .ok (.aload_n 0, 1) := by decide +kernel
theorem dX11_process_12 : decode cX11_process 12 = .ok (.getfield 7, 3) := by decide +kernel
theorem dX11_process_15 : decode cX11_process 15 = .ok (.aload_n 0, 1) := by decide +kernel
theorem dX11_process_16 : decode cX11_process 16 = .ok (.getfield 76, 3) := by decide +kernel
theorem dX11_process_19 : decode cX11_process 19 = .ok (.iconst 0, 1) := by decide +kernel
theorem dX11_process_20 : decode cX11_process 20 = .ok (.iastore, 1) := by decide +kernel
theorem dX11_process_21 : decode cX11_process 21 = .ok (.aload_n 0, 1) := by decide +kernel
theorem dX11_process_22 : decode cX11_process 22 = .ok (.dup, 1) := by decide +kernel
theorem dX11_process_23 : decode cX11_process 23 = .ok (.getfield 76, 3) := by decide +kernel
theorem dX11_process_26 : decode cX11_process 26 = .ok (.iconst 1, 1) := by decide +kernel
theorem dX11_process_27 : decode cX11_process 27 = .ok (.iadd, 1) := by decide +kernel
theorem dX11_process_28 : decode cX11_process 28 = .ok (.putfield 76, 3) := by decide +kernel
theorem dX11_process_31 : decode cX11_process 31 = .ok (.aload_n 0, 1) := by decide +kernel
theorem dX11_process_32 : decode cX11_process 32 = .ok (.getfield 76, 3) := by decide +kernel
theorem dX11_process_35 : decode cX11_process 35 = .ok (.iconst 1, 1) := by decide +kernel
theorem dX11_process_36 : decode cX11_process 36 = .ok (.isub, 1) := by decide +kernel
theorem dX11_process_37 : decode cX11_process 37 = .ok (.ireturn, 1) := by decide +kernel
theorem dX11_comes_0 : decode cX11_comes 0 = .ok (.bipush 6, 2) := by decide +kernel
theorem dX11_comes_2 : decode cX11_comes 2 = .ok (.iload_n 1, 1) := by decide +kernel
theorem dX11_comes_3 : decode cX11_comes 3 = .ok (.imul, 1) := by decide +kernel
theorem dX11_comes_4 : decode cX11_comes 4 = .ok (.aload_n 0, 1) := by decide +kernel
theorem dX11_comes_5 : decode cX11_comes 5 = .ok (.getfield 7, 3) := by decide +kernel
theorem dX11_comes_8 : decode cX11_comes 8 = .ok (.iload_n 1, 1) := by decide +kernel
theorem dX11_comes_9 : decode cX11_comes 9 = .ok (.iaload, 1) := by decide +kernel
theorem dX11_comes_10 : decode cX11_comes 10 = .ok (.iadd, 1) := by decide +kernel
theorem dX11_comes_11 : decode cX11_comes 11 = .ok (.istore 5, 2) := by decide +kernel
theorem dX11_comes_13 : decode cX11_comes 13 = .ok (.aload_n 0, 1) := by decide +kernel
theorem dX11_comes_14 : decode cX11_comes 14 = .ok (.getfield 13, 3) := by decide +kernel
theorem dX11_comes_17 : decode cX11_comes 17 = .ok (.iload 5, 2) := by decide +kernel
theorem dX11_comes_19 : decode cX11_comes 19 = .ok (.iload_n 2, 1) := by decide +kernel
theorem dX11_comes_20 : decode cX11_comes 20 = .ok (.iastore, 1) := by decide +kernel
theorem dX11_comes_21 : decode cX11_comes 21 = .ok (.aload_n 0, 1) := by decide +kernel
theorem dX11_comes_22 : decode cX11_comes 22 = .ok (.getfield 16, 3) := by decide +kernel
theorem dX11_comes_25 : decode cX11_comes 25 = .ok (.iload 5, 2) := by decide +kernel
theorem dX11_comes_27 : decode cX11_comes 27 = .ok (.iload_n 3, 1) := by decide +kernel
theorem dX11_comes_28 : decode cX11_comes 28 = .ok (.iastore, 1) := by decide +kernel
theorem dX11_comes_29 : decode cX11_comes 29 = .ok (.aload_n 0, 1) := by decide +kernel
theorem dX11_comes_30 : decode cX11_comes 30 = .ok (.getfield 19, 3) := by decide +kernel
theorem dX11_comes_33 : decode cX11_comes 33 = .ok (.iload 5, 2) := by decide +kernel
theorem dX11_comes_35 : decode cX11_comes 35 = .ok (.iload 4, 2) := by decide +kernel
theorem dX11_comes_37 : decode cX11_comes 37 = .ok (.iastore, 1) := by decide +kernel
theorem dX11_comes_38 : decode cX11_comes 38 = .ok (.aload_n 0, 1) := by decide +kernel
theorem dX11_comes_39 : decode cX11_comes 39 = .ok (.getfield 22, 3) := by decide +kernel
theorem dX11_comes_42 : decode cX11_comes 42 = .ok (.iload 5, 2) := by decide +kernel
theorem dX11_comes_44 : decode cX11_comes 44 = .ok (.aload_n 0, 1) := by decide +kernel
theorem dX11_comes_45 : decode cX11_comes 45 = .ok (.getfield 87, 3) := by decide +kernel
theorem dX11_comes_48 : decode cX11_comes 48 = .ok (.iastore, 1) := by decide +kernel
theorem dX11_comes_49 : decode cX11_comes 49 = .ok (.iconst 0, 1) := by decide +kernel
theorem dX11_comes_50 : decode cX11_comes 50 = .ok (.istore 6, 2) := by decide +kernel
theorem dX11_comes_52 : decode cX11_comes 52 = .ok (.iload 6, 2) := by decide +kernel
theorem dX11_comes_54 : decode cX11_comes 54 = .ok (.iconst 4, 1) := by decide +kernel
theorem dX11_comes_55 : decode cX11_comes 55 = .ok (.if_icmp .ge 48, 3) := by decide +kernel
theorem dX11_comes_58 : decode cX11_comes 58 = .ok (.aload_n 0, 1) := by decide +kernel
theorem dX11_comes_59 : decode cX11_comes 59 = .ok (.getfield 25, 3) := by decide +kernel
theorem dX11_comes_62 : decode cX11_comes 62 = .ok (.iconst 4, 1) := by decide +kernel
theorem dX11_comes_63 : decode cX11_comes 63 = .ok (.iload 5, 2) := by decide +kernel
theorem dX11_comes_65 : decode cX11_comes 65 = .ok (.imul, 1) := by decide +kernel
theorem dX11_comes_66 : decode cX11_comes 66 = .ok (.iload 6, 2) := by decide +kernel
theorem dX11_comes_68 : decode cX11_comes 68 = .ok (.iadd, 1) := by decide +kernel
theorem dX11_comes_69 : decode cX11_comes 69 = .ok (.aload_n 0, 1) := by decide +kernel
theorem dX11_comes_70 : decode cX11_comes 70 = .ok (.getfield 7, 3) := by decide +kernel
theorem dX11_comes_73 : decode cX11_comes 73 = .ok (.iload_n 1, 1) := by decide +kernel
theorem dX11_comes_74 : decode cX11_comes 74 = .ok (.iaload, 1) := by decide +kernel
theorem dX11_comes_75 : decode cX11_comes 75 = .ok (.ifCond .ne 7, 3) := by decide +kernel
theorem dX11_comes_78 : decode cX11_comes 78 = .ok (.iconst 0, 1) := by decide +kernel
theorem dX11_comes_79 : decode cX11_comes 79 = .ok (.goto 17, 3) := by decide +kernel
theorem dX11_comes_82 : decode cX11_comes 82 = .ok (.aload_n 0, 1) := by decide +kernel
theorem dX11_comes_83 : decode cX11_comes 83 = .ok (.getfield 25, 3) := by decide +kernel
theorem dX11_comes_86 : decode cX11_comes 86 = .ok (.iconst 4, 1) := by decide +kernel
theorem dX11_comes_87 : decode cX11_comes 87 = .ok (.iload 5, 2) := by decide +kernel
theorem dX11_comes_89 : decode cX11_comes 89 = .ok (.imul, 1) := by decide +kernel
theorem dX11_comes_90 : decode cX11_comes 90 = .ok (.iconst 4, 1) := by decide +kernel
theorem dX11_comes_91 : decode cX11_comes 91 = .ok (.isub, 1) := by decide +kernel
theorem dX11_comes_92 : decode cX11_comes 92 = .ok (.iload 6, 2) := by decide +kernel
theorem dX11_comes_94 : decode cX11_comes 94 = .ok (.iadd, 1) := by decide +kernel
theorem dX11_comes_95 : decode cX11_comes 95 = .ok (.iaload, 1) := by decide +kernel
theorem dX11_comes_96 : decode cX11_comes 96 = .ok (.iastore, 1) := by decide +kernel
theorem dX11_comes_97 : decode cX11_comes 97 = .ok (.iinc 6 1, 3) := by decide +kernel
theorem dX11_comes_100 : decode cX11_comes 100 = .ok (.goto (-48), 3) := by decide +kernel
theorem dX11_comes_103 : decode cX11_comes 103 = .ok (.aload_n 0, 1) := by decide +kernel
theorem dX11_comes_104 : decode cX11_comes 104 = .ok (.getfield 7, 3) := by decide +kernel
theorem dX11_comes_107 : decode cX11_comes 107 = .ok (.iload_n 1, 1) := by decide +kernel
theorem dX11_comes_108 : decode cX11_comes 108 = .ok (.dup2, 1) := by decide +kernel
theorem dX11_comes_109 : decode cX11_comes 109 = .ok (.iaload, 1) := by decide +kernel
theorem dX11_comes_110 : decode cX11_comes 110 = .ok (.iconst 1, 1) := by decide +kernel
theorem dX11_comes_111 : decode cX11_comes 111 = .ok (.iadd, 1) := by decide +kernel
theorem dX11_comes_112 : decode cX11_comes 112 = .ok (.iastore, 1) := by decide +kernel
theorem dX11_comes_113 : decode cX11_comes 113 = .ok (.aload_n 0, 1) := by decide +kernel
theorem dX11_comes_114 : decode cX11_comes 114 = .ok (.getfield 25, 3) := by decide +kernel
theorem dX11_comes_117 : decode cX11_comes 117 = .ok (.iconst 4, 1) := by decide +kernel
theorem dX11_comes_118 : decode cX11_comes 118 = .ok (.iload 5, 2) := by decide +kernel
theorem dX11_comes_120 : decode cX11_comes 120 = .ok (.imul, 1) := by decide +kernel
theorem dX11_comes_121 : decode cX11_comes 121 = .ok (.iload_n 1, 1) := by decide +kernel
theorem dX11_comes_122 : decode cX11_comes 122 = .ok (.iadd, 1) := by decide +kernel
theorem dX11_comes_123 : decode cX11_comes 123 = .ok (.aload_n 0, 1) := by decide +kernel
theorem dX11_comes_124 : decode cX11_comes 124 = .ok (.getfield 7, 3) := by decide +kernel
theorem dX11_comes_127 : decode cX11_comes 127 = .ok (.iload_n 1, 1) := by decide +kernel
theorem dX11_comes_128 : decode cX11_comes 128 = .ok (.iaload, 1) := by decide +kernel
theorem dX11_comes_129 : decode cX11_comes 129 = .ok (.iastore, 1) := by decide +kernel
theorem dX11_comes_130 : decode cX11_comes 130 = .ok (.aload_n 0, 1) := by decide +kernel
theorem dX11_comes_131 : decode cX11_comes 131 = .ok (.dup, 1) := by decide +kernel
theorem dX11_comes_132 : decode cX11_comes 132 = .ok (.getfield 87, 3) := by decide +kernel
theorem dX11_comes_135 : decode cX11_comes 135 = .ok (.iconst 1, 1) := by decide +kernel
theorem dX11_comes_136 : decode cX11_comes 136 = .ok (.iadd, 1) := by decide +kernel
theorem dX11_comes_137 : decode cX11_comes 137 = .ok (.putfield 87, 3) := by decide +kernel
theorem dX11_comes_140 : decode cX11_comes 140 = .ok (.iload 5, 2) := by decide +kernel
theorem dX11_comes_142 : decode cX11_comes 142 = .ok (.ireturn, 1) := by decide +kernel
theorem dX11_joins_0 : decode cX11_joins 0 = .ok (.iconst 0, 1) := by decide +kernel
theorem dX11_joins_1 : decode cX11_joins 1 = .ok (.istore_n 3, 1) := by decide +kernel
theorem dX11_joins_2 : decode cX11_joins 2 = .ok (.iload_n 3, 1) := by decide +kernel
theorem dX11_joins_3 : decode cX11_joins 3 = .ok (.iconst 4, 1) := by decide +kernel
theorem dX11_joins_4 : decode cX11_joins 4 = .ok (.if_icmp .ge 52, 3) := by decide +kernel
theorem dX11_joins_7 : decode cX11_joins 7 = .ok (.aload_n 0, 1) := by decide +kernel
theorem dX11_joins_8 : decode cX11_joins 8 = .ok (.getfield 25, 3) := by decide +kernel
theorem dX11_joins_11 : decode cX11_joins 11 = .ok (.iconst 4, 1) := by decide +kernel
theorem dX11_joins_12 : decode cX11_joins 12 = .ok (.iload_n 2, 1) := by decide +kernel
theorem dX11_joins_13 : decode cX11_joins 13 = .ok (.imul, 1) := by decide +kernel
theorem dX11_joins_14 : decode cX11_joins 14 = .ok (.iload_n 3, 1) := by decide +kernel
theorem dX11_joins_15 : decode cX11_joins 15 = .ok (.iadd, 1) := by decide +kernel
theorem dX11_joins_16 : decode cX11_joins 16 = .ok (.iaload, 1) := by decide +kernel
theorem dX11_joins_17 : decode cX11_joins 17 = .ok (.aload_n 0, 1) := by decide +kernel
theorem dX11_joins_18 : decode cX11_joins 18 = .ok (.getfield 25, 3) := by decide +kernel
theorem dX11_joins_21 : decode cX11_joins 21 = .ok (.iconst 4, 1) := by decide +kernel
theorem dX11_joins_22 : decode cX11_joins 22 = .ok (.iload_n 1, 1) := by decide +kernel
theorem dX11_joins_23 : decode cX11_joins 23 = .ok (.imul, 1) := by decide +kernel
theorem dX11_joins_24 : decode cX11_joins 24 = .ok (.iload_n 3, 1) := by decide +kernel
theorem dX11_joins_25 : decode cX11_joins 25 = .ok (.iadd, 1) := by decide +kernel
theorem dX11_joins_26 : decode cX11_joins 26 = .ok (.iaload, 1) := by decide +kernel
theorem dX11_joins_27 : decode cX11_joins 27 = .ok (.if_icmp .le 23, 3) := by decide +kernel
theorem dX11_joins_30 : decode cX11_joins 30 = .ok (.aload_n 0, 1) := by decide +kernel
theorem dX11_joins_31 : decode cX11_joins 31 = .ok (.getfield 25, 3) := by decide +kernel
theorem dX11_joins_34 : decode cX11_joins 34 = .ok (.iconst 4, 1) := by decide +kernel
theorem dX11_joins_35 : decode cX11_joins 35 = .ok (.iload_n 1, 1) := by decide +kernel
theorem dX11_joins_36 : decode cX11_joins 36 = .ok (.imul, 1) := by decide +kernel
theorem dX11_joins_37 : decode cX11_joins 37 = .ok (.iload_n 3, 1) := by decide +kernel
theorem dX11_joins_38 : decode cX11_joins 38 = .ok (.iadd, 1) := by decide +kernel
theorem dX11_joins_39 : decode cX11_joins 39 = .ok (.aload_n 0, 1) := by decide +kernel
theorem dX11_joins_40 : decode cX11_joins 40 = .ok (.getfield 25, 3) := by decide +kernel
theorem dX11_joins_43 : decode cX11_joins 43 = .ok (.iconst 4, 1) := by decide +kernel
theorem dX11_joins_44 : decode cX11_joins 44 = .ok (.iload_n 2, 1) := by decide +kernel
theorem dX11_joins_45 : decode cX11_joins 45 = .ok (.imul, 1) := by decide +kernel
theorem dX11_joins_46 : decode cX11_joins 46 = .ok (.iload_n 3, 1) := by decide +kernel
theorem dX11_joins_47 : decode cX11_joins 47 = .ok (.iadd, 1) := by decide +kernel
theorem dX11_joins_48 : decode cX11_joins 48 = .ok (.iaload, 1) := by decide +kernel
theorem dX11_joins_49 : decode cX11_joins 49 = .ok (.iastore, 1) := by decide +kernel
theorem dX11_joins_50 : decode cX11_joins 50 = .ok (.iinc 3 1, 3) := by decide +kernel
theorem dX11_joins_53 : decode cX11_joins 53 = .ok (.goto (-51), 3) := by decide +kernel
theorem dX11_joins_56 : decode cX11_joins 56 = .ok (.return_, 1) := by decide +kernel
theorem dX11_own_0 : decode cX11_own 0 = .ok (.aload_n 0, 1) := by decide +kernel
theorem dX11_own_1 : decode cX11_own 1 = .ok (.iload_n 1, 1) := by decide +kernel
theorem dX11_own_2 : decode cX11_own 2 = .ok (.invokevirtual 83, 3) := by decide +kernel
theorem dX11_own_5 : decode cX11_own 5 = .ok (.ifCond .eq 12, 3) := by decide +kernel
theorem dX11_own_8 : decode cX11_own 8 = .ok (.iload_n 2, 1) := by decide +kernel
theorem dX11_own_9 : decode cX11_own 9 = .ok (.iconst 0, 1) := by decide +kernel
theorem dX11_own_10 : decode cX11_own 10 = .ok (.iconst 2, 1) := by decide +kernel
theorem dX11_own_11 : decode cX11_own 11 = .ok (.invokestatic 79, 3) := by decide +kernel
theorem dX11_own_14 : decode cX11_own 14 = .ok (.ifCond .ne 5, 3) := by decide +kernel
theorem dX11_own_17 : decode cX11_own 17 = .ok (.iconst (-1), 1) := by decide +kernel
theorem dX11_own_18 : decode cX11_own 18 = .ok (.ireturn, 1) := by decide +kernel
theorem dX11_own_19 : decode cX11_own 19 = .ok (.iload 4, 2) := by decide +kernel
theorem dX11_own_21 : decode cX11_own 21 = .ok (.iconst 0, 1) := by decide +kernel
theorem dX11_own_22 : decode cX11_own 22 = .ok (.iconst 1, 1) := by decide +kernel
theorem dX11_own_23 : decode cX11_own 23 = .ok (.invokestatic 79, 3) := by decide +kernel
theorem dX11_own_26 : decode cX11_own 26 = .ok (.ifCond .ne 6, 3) := by decide +kernel
theorem dX11_own_29 : decode cX11_own 29 = .ok (.bipush (-2), 2) := by decide +kernel
theorem dX11_own_31 : decode cX11_own 31 = .ok (.ireturn, 1) := by decide +kernel
theorem dX11_own_32 : decode cX11_own 32 = .ok (.aload_n 0, 1) := by decide +kernel
theorem dX11_own_33 : decode cX11_own 33 = .ok (.getfield 7, 3) := by decide +kernel
theorem dX11_own_36 : decode cX11_own 36 = .ok (.iload_n 1, 1) := by decide +kernel
theorem dX11_own_37 : decode cX11_own 37 = .ok (.iaload, 1) := by decide +kernel
theorem dX11_own_38 : decode cX11_own 38 = .ok (.bipush 6, 2) := by decide +kernel
theorem dX11_own_40 : decode cX11_own 40 = .ok (.if_icmp .ne 6, 3) := by decide +kernel
theorem dX11_own_43 : decode cX11_own 43 = .ok (.bipush (-4), 2) := by decide +kernel
theorem dX11_own_45 : decode cX11_own 45 = .ok (.ireturn, 1) := by decide +kernel
theorem dX11_own_46 : decode cX11_own 46 = .ok (.aload_n 0, 1) := by decide +kernel
theorem dX11_own_47 : decode cX11_own 47 = .ok (.iload_n 1, 1) := by decide +kernel
theorem dX11_own_48 : decode cX11_own 48 = .ok (.iload 4, 2) := by decide +kernel
theorem dX11_own_50 : decode cX11_own 50 = .ok (.iconst 1, 1) := by decide +kernel
theorem dX11_own_51 : decode cX11_own 51 = .ok (.if_icmp .ne 7, 3) := by decide +kernel
theorem dX11_own_54 : decode cX11_own 54 = .ok (.iconst 1, 1) := by decide +kernel
theorem dX11_own_55 : decode cX11_own 55 = .ok (.goto 4, 3) := by decide +kernel
theorem dX11_own_58 : decode cX11_own 58 = .ok (.iconst 0, 1) := by decide +kernel
theorem dX11_own_59 : decode cX11_own 59 = .ok (.iload_n 2, 1) := by decide +kernel
theorem dX11_own_60 : decode cX11_own 60 = .ok (.iload_n 3, 1) := by decide +kernel
theorem dX11_own_61 : decode cX11_own 61 = .ok (.invokevirtual 90, 3) := by decide +kernel
theorem dX11_own_64 : decode cX11_own 64 = .ok (.istore 5, 2) := by decide +kernel
theorem dX11_own_66 : decode cX11_own 66 = .ok (.aload_n 0, 1) := by decide +kernel
theorem dX11_own_67 : decode cX11_own 67 = .ok (.getfield 7, 3) := by decide +kernel
theorem dX11_own_70 : decode cX11_own 70 = .ok (.iload_n 1, 1) := by decide +kernel
theorem dX11_own_71 : decode cX11_own 71 = .ok (.iaload, 1) := by decide +kernel
theorem dX11_own_72 : decode cX11_own 72 = .ok (.ireturn, 1) := by decide +kernel
