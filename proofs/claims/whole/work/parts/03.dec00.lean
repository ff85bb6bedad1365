theorem dX0_init_0 : decode cX0_init 0 = .ok (.aload_n 0, 1) := by decide +kernel
theorem dX0_init_1 : decode cX0_init 1 = .ok (.invokespecial 3, 3) := by decide +kernel
theorem dX0_init_4 : decode cX0_init 4 = .ok (.aload_n 0, 1) := by decide +kernel
theorem dX0_init_5 : decode cX0_init 5 = .ok (.bipush 8, 2) := by decide +kernel
theorem dX0_init_7 : decode cX0_init 7 = .ok (.anewarray 9, 3) := by decide +kernel
theorem dX0_init_10 : decode cX0_init 10 = .ok (.putfield 11, 3) := by decide +kernel
theorem dX0_init_13 : decode cX0_init 13 = .ok (.iconst 0, 1) := by decide +kernel
theorem dX0_init_14 : decode cX0_init 14 = .ok (.istore_n 1, 1) := by decide +kernel
theorem dX0_init_15 : decode cX0_init 15 = .ok (.iload_n 1, 1) := by decide +kernel
theorem dX0_init_16 : decode cX0_init 16 = .ok (.bipush 8, 2) := by decide +kernel
theorem dX0_init_18 : decode cX0_init 18 = .ok (.if_icmp .ge 22, 3) := by decide +kernel
theorem dX0_init_21 : decode cX0_init 21 = .ok (.aload_n 0, 1) := by decide +kernel
theorem dX0_init_22 : decode cX0_init 22 = .ok (.getfield 11, 3) := by decide +kernel
theorem dX0_init_25 : decode cX0_init 25 = .ok (.iload_n 1, 1) := by decide +kernel
theorem dX0_init_26 : decode cX0_init 26 = .ok (.new 9, 3) := by decide +kernel
theorem dX0_init_29 : decode cX0_init 29 = .ok (.dup, 1) := by decide +kernel
theorem dX0_init_30 : decode cX0_init 30 = .ok (.invokespecial 17, 3) := by decide +kernel
theorem dX0_init_33 : decode cX0_init 33 = .ok (.aastore, 1) := by decide +kernel
theorem dX0_init_34 : decode cX0_init 34 = .ok (.iinc 1 1, 3) := by decide +kernel
theorem dX0_init_37 : decode cX0_init 37 = .ok (.goto (-22), 3) := by decide +kernel
theorem dX0_init_40 : decode cX0_init 40 = .ok (.return_, 1) := by decide +kernel
theorem dX0_has_0 : decode cX0_has 0 = .ok (.iload_n 1, 1) := by decide +kernel
theorem dX0_has_1 : decode cX0_has 1 = .ok (.ifCond .lt 15, 3) := by decide +kernel
theorem dX0_has_4 : decode cX0_has 4 = .ok (.iload_n 1, 1) := by decide +kernel
theorem dX0_has_5 : decode cX0_has 5 = .ok (.aload_n 0, 1) := by decide +kernel
theorem dX0_has_6 : decode cX0_has 6 = .ok (.getfield 18, 3) := by decide +kernel
theorem dX0_has_9 : decode cX0_has 9 = .ok (.if_icmp .ge 7, 3) := by decide +kernel
theorem dX0_has_12 : decode cX0_has 12 = .ok (.iconst 1, 1) := by decide +kernel
theorem dX0_has_13 : decode cX0_has 13 = .ok (.goto 4, 3) := by decide +kernel
theorem dX0_has_16 : decode cX0_has 16 = .ok (.iconst 0, 1) := by decide +kernel
theorem dX0_has_17 : decode cX0_has 17 = .ok (.ireturn, 1) := by decide +kernel
theorem dX0_keep_0 : decode cX0_keep 0 = .ok (.aload_n 0, 1) := by decide +kernel
theorem dX0_keep_1 : decode cX0_keep 1 = .ok (.getfield 11, 3) := by decide +kernel
theorem dX0_keep_4 : decode cX0_keep 4 = .ok (.aload_n 0, 1) := by decide +kernel
theorem dX0_keep_5 : decode cX0_keep 5 = .ok (.getfield 18, 3) := by decide +kernel
theorem dX0_keep_8 : decode cX0_keep 8 = .ok (.aaload, 1) := by decide +kernel
theorem dX0_keep_9 : decode cX0_keep 9 = .ok (.iconst 0, 1) := by decide +kernel
theorem dX0_keep_10 : decode cX0_keep 10 = .ok (.putfield 22, 3) := by decide +kernel
theorem dX0_keep_13 : decode cX0_keep 13 = .ok (.aload_n 0, 1) := by decide +kernel
theorem dX0_keep_14 : decode cX0_keep 14 = .ok (.getfield 11, 3) := by decide +kernel
theorem dX0_keep_17 : decode cX0_keep 17 = .ok (.aload_n 0, 1) := by decide +kernel
theorem dX0_keep_18 : decode cX0_keep 18 = .ok (.getfield 18, 3) := by decide +kernel
theorem dX0_keep_21 : decode cX0_keep 21 = .ok (.aaload, 1) := by decide +kernel
theorem dX0_keep_22 : decode cX0_keep 22 = .ok (.aload_n 1, 1) := by decide +kernel
theorem dX0_keep_23 : decode cX0_keep 23 = .ok (.invokevirtual 25, 3) := by decide +kernel
theorem dX0_keep_26 : decode cX0_keep 26 = .ok (.aload_n 0, 1) := by decide +kernel
theorem dX0_keep_27 : decode cX0_keep 27 = .ok (.dup, 1) := by decide +kernel
theorem dX0_keep_28 : decode cX0_keep 28 = .ok (.getfield 18, 3) := by decide +kernel
theorem dX0_keep_31 : decode cX0_keep 31 = .ok (.iconst 1, 1) := by decide +kernel
theorem dX0_keep_32 : decode cX0_keep 32 = .ok (.iadd, 1) := by decide +kernel
theorem dX0_keep_33 : decode cX0_keep 33 = .ok (.putfield 18, 3) := by decide +kernel
theorem dX0_keep_36 : decode cX0_keep 36 = .ok (.aload_n 0, 1) := by decide +kernel
theorem dX0_keep_37 : decode cX0_keep 37 = .ok (.getfield 18, 3) := by decide +kernel
theorem dX0_keep_40 : decode cX0_keep 40 = .ok (.iconst 1, 1) := by decide +kernel
theorem dX0_keep_41 : decode cX0_keep 41 = .ok (.isub, 1) := by decide +kernel
theorem dX0_keep_42 : decode cX0_keep 42 = .ok (.ireturn, 1) := by decide +kernel
theorem dX1_init_0 : decode cX1_init 0 = .ok (.aload_n 0, 1) := by decide +kernel
theorem dX1_init_1 : decode cX1_init 1 = .ok (.invokespecial 3, 3) := by decide +kernel
theorem dX1_init_4 : decode cX1_init 4 = .ok (.aload_n 0, 1) := by decide +kernel
theorem dX1_init_5 : decode cX1_init 5 = .ok (.bipush 15, 2) := by decide +kernel
theorem dX1_init_7 : decode cX1_init 7 = .ok (.newarray .int, 2) := by decide +kernel
theorem dX1_init_9 : decode cX1_init 9 = .ok (.putfield 9, 3) := by decide +kernel
theorem dX1_init_12 : decode cX1_init 12 = .ok (.aload_n 0, 1) := by decide +kernel
theorem dX1_init_13 : decode cX1_init 13 = .ok (.bipush 15, 2) := by decide +kernel
theorem dX1_init_15 : decode cX1_init 15 = .ok (.newarray .int, 2) := by decide +kernel
theorem dX1_init_17 : decode cX1_init 17 = .ok (.putfield 15, 3) := by decide +kernel
theorem dX1_init_20 : decode cX1_init 20 = .ok (.aload_n 0, 1) := by decide +kernel
theorem dX1_init_21 : decode cX1_init 21 = .ok (.bipush 15, 2) := by decide +kernel
theorem dX1_init_23 : decode cX1_init 23 = .ok (.newarray .int, 2) := by decide +kernel
theorem dX1_init_25 : decode cX1_init 25 = .ok (.putfield 18, 3) := by decide +kernel
theorem dX1_init_28 : decode cX1_init 28 = .ok (.return_, 1) := by decide +kernel
theorem dX1_sidesOf_0 : decode cX1_sidesOf 0 = .ok (.iload_n 0, 1) := by decide +kernel
theorem dX1_sidesOf_1 : decode cX1_sidesOf 1 = .ok (.bipush 7, 2) := by decide +kernel
theorem dX1_sidesOf_3 : decode cX1_sidesOf 3 = .ok (.if_icmp .ge 7, 3) := by decide +kernel
theorem dX1_sidesOf_6 : decode cX1_sidesOf 6 = .ok (.iconst 2, 1) := by decide +kernel
theorem dX1_sidesOf_7 : decode cX1_sidesOf 7 = .ok (.goto 14, 3) := by decide +kernel
theorem dX1_sidesOf_10 : decode cX1_sidesOf 10 = .ok (.iload_n 0, 1) := by decide +kernel
theorem dX1_sidesOf_11 : decode cX1_sidesOf 11 = .ok (.bipush 7, 2) := by decide +kernel
theorem dX1_sidesOf_13 : decode cX1_sidesOf 13 = .ok (.if_icmp .ne 7, 3) := by decide +kernel
theorem dX1_sidesOf_16 : decode cX1_sidesOf 16 = .ok (.iconst 1, 1) := by decide +kernel
theorem dX1_sidesOf_17 : decode cX1_sidesOf 17 = .ok (.goto 4, 3) := by decide +kernel
theorem dX1_sidesOf_20 : decode cX1_sidesOf 20 = .ok (.iconst 0, 1) := by decide +kernel
theorem dX1_sidesOf_21 : decode cX1_sidesOf 21 = .ok (.ireturn, 1) := by decide +kernel
theorem dX1_append_0 : decode cX1_append 0 = .ok (.aload_n 0, 1) := by decide +kernel
theorem dX1_append_1 : decode cX1_append 1 = .ok (.getfield 9, 3) := by decide +kernel
theorem dX1_append_4 : decode cX1_append 4 = .ok (.aload_n 0, 1) := by decide +kernel
theorem dX1_append_5 : decode cX1_append 5 = .ok (.getfield 21, 3) := by decide +kernel
theorem dX1_append_8 : decode cX1_append 8 = .ok (.iload_n 1, 1) := by decide +kernel
theorem dX1_append_9 : decode cX1_append 9 = .ok (.iastore, 1) := by decide +kernel
theorem dX1_append_10 : decode cX1_append 10 = .ok (.aload_n 0, 1) := by decide +kernel
theorem dX1_append_11 : decode cX1_append 11 = .ok (.getfield 15, 3) := by decide +kernel
theorem dX1_append_14 : decode cX1_append 14 = .ok (.aload_n 0, 1) := by decide +kernel
theorem dX1_append_15 : decode cX1_append 15 = .ok (.getfield 21, 3) := by decide +kernel
theorem dX1_append_18 : decode cX1_append 18 = .ok (.iload_n 2, 1) := by decide +kernel
theorem dX1_append_19 : decode cX1_append 19 = .ok (.iastore, 1) := by decide +kernel
theorem dX1_append_20 : decode cX1_append 20 = .ok (.aload_n 0, 1) := by decide +kernel
theorem dX1_append_21 : decode cX1_append 21 = .ok (.getfield 18, 3) := by decide +kernel
theorem dX1_append_24 : decode cX1_append 24 = .ok (.aload_n 0, 1) := by decide +kernel
theorem dX1_append_25 : decode cX1_append 25 = .ok (.getfield 21, 3) := by decide +kernel
theorem dX1_append_28 : decode cX1_append 28 = .ok (.iload_n 3, 1) := by decide +kernel
theorem dX1_append_29 : decode cX1_append 29 = .ok (.iastore, 1) := by decide +kernel
theorem dX1_append_30 : decode cX1_append 30 = .ok (.aload_n 0, 1) := by decide +kernel
theorem dX1_append_31 : decode cX1_append 31 = .ok (.dup, 1) := by decide +kernel
theorem dX1_append_32 : decode cX1_append 32 = .ok (.getfield 21, 3) := by decide +kernel
theorem dX1_append_35 : decode cX1_append 35 = .ok (.iconst 1, 1) := by decide +kernel
theorem dX1_append_36 : decode cX1_append 36 = .ok (.iadd, 1) := by decide +kernel
theorem dX1_append_37 : decode cX1_append 37 = .ok (.putfield 21, 3) := by decide +kernel
theorem dX1_append_40 : decode cX1_append 40 = .ok (.return_, 1) := by decide +kernel
theorem dX1_appendAll_0 : decode cX1_appendAll 0 = .ok (.iconst 0, 1) := by decide +kernel
theorem dX1_appendAll_1 : decode cX1_appendAll 1 = .ok (.istore_n 2, 1) := by decide +kernel
theorem dX1_appendAll_2 : decode cX1_appendAll 2 = .ok (.iload_n 2, 1) := by decide +kernel
theorem dX1_appendAll_3 : decode cX1_appendAll 3 = .ok (.aload_n 1, 1) := by decide +kernel
theorem dX1_appendAll_4 : decode cX1_appendAll 4 = .ok (.getfield 21, 3) := by decide +kernel
theorem dX1_appendAll_7 : decode cX1_appendAll 7 = .ok (.if_icmp .ge 31, 3) := by decide +kernel
theorem dX1_appendAll_10 : decode cX1_appendAll 10 = .ok (.aload_n 0, 1) := by decide +kernel
theorem dX1_appendAll_11 : decode cX1_appendAll 11 = .ok (.aload_n 1, 1) := by decide +kernel
theorem dX1_appendAll_12 : decode cX1_appendAll 12 = .ok (.getfield 9, 3) := by decide +kernel
theorem dX1_appendAll_15 : decode cX1_appendAll 15 = .ok (.iload_n 2, 1) := by decide +kernel
theorem dX1_appendAll_16 : decode cX1_appendAll 16 = .ok (.iaload, 1) := by decide +kernel
theorem dX1_appendAll_17 : decode cX1_appendAll 17 = .ok (.aload_n 1, 1) := by decide +kernel
theorem dX1_appendAll_18 : decode cX1_appendAll 18 = .ok (.getfield 15, 3) := by decide +kernel
theorem dX1_appendAll_21 : decode cX1_appendAll 21 = .ok (.iload_n 2, 1) := by decide +kernel
theorem dX1_appendAll_22 : decode cX1_appendAll 22 = .ok (.iaload, 1) := by decide +kernel
theorem dX1_appendAll_23 : decode cX1_appendAll 23 = .ok (.aload_n 1, 1) := by decide +kernel
theorem dX1_appendAll_24 : decode cX1_appendAll 24 = .ok (.getfield 18, 3) := by decide +kernel
theorem dX1_appendAll_27 : decode cX1_appendAll 27 = .ok (.iload_n 2, 1) := by decide +kernel
theorem dX1_appendAll_28 : decode cX1_appendAll 28 = .ok (.iaload, 1) := by decide +kernel
theorem dX1_appendAll_29 : decode cX1_appendAll 29 = .ok (.invokevirtual 25, 3) := by decide +kernel
theorem dX1_appendAll_32 : decode cX1_appendAll 32 = .ok (.iinc 2 1, 3) := by decide +kernel
theorem dX1_appendAll_35 : decode cX1_appendAll 35 = .ok (.goto (-33), 3) := by decide +kernel
theorem dX1_appendAll_38 : decode cX1_appendAll 38 = .ok (.return_, 1) := by decide +kernel
theorem dX2_init_0 : decode cX2_init 0 = .ok (.aload_n 0, 1) := by decide +kernel
theorem dX2_init_1 : decode cX2_init 1 = .ok (.invokespecial 3, 3) := by decide +kernel
theorem dX2_init_4 : decode cX2_init 4 = .ok (.aload_n 0, 1) := by decide +kernel
theorem dX2_init_5 : decode cX2_init 5 = .ok (.new 9, 3) := by decide +kernel
theorem dX2_init_8 : decode cX2_init 8 = .ok (.dup, 1) := by decide +kernel
theorem dX2_init_9 : decode cX2_init 9 = .ok (.invokespecial 11, 3) := by decide +kernel
theorem dX2_init_12 : decode cX2_init 12 = .ok (.putfield 12, 3) := by decide +kernel
theorem dX2_init_15 : decode cX2_init 15 = .ok (.aload_n 0, 1) := by decide +kernel
theorem dX2_init_16 : decode cX2_init 16 = .ok (.iconst 4, 1) := by decide +kernel
theorem dX2_init_17 : decode cX2_init 17 = .ok (.newarray .int, 2) := by decide +kernel
theorem dX2_init_19 : decode cX2_init 19 = .ok (.putfield 18, 3) := by decide +kernel
theorem dX2_init_22 : decode cX2_init 22 = .ok (.aload_n 0, 1) := by decide +kernel
theorem dX2_init_23 : decode cX2_init 23 = .ok (.bipush 24, 2) := by decide +kernel
theorem dX2_init_25 : decode cX2_init 25 = .ok (.newarray .int, 2) := by decide +kernel
theorem dX2_init_27 : decode cX2_init 27 = .ok (.putfield 22, 3) := by decide +kernel
theorem dX2_init_30 : decode cX2_init 30 = .ok (.aload_n 0, 1) := by decide +kernel
theorem dX2_init_31 : decode cX2_init 31 = .ok (.bipush 24, 2) := by decide +kernel
theorem dX2_init_33 : decode cX2_init 33 = .ok (.newarray .int, 2) := by decide +kernel
theorem dX2_init_35 : decode cX2_init 35 = .ok (.putfield 25, 3) := by decide +kernel
theorem dX2_init_38 : decode cX2_init 38 = .ok (.aload_n 0, 1) := by decide +kernel
theorem dX2_init_39 : decode cX2_init 39 = .ok (.bipush 24, 2) := by decide +kernel
theorem dX2_init_41 : decode cX2_init 41 = .ok (.newarray .int, 2) := by decide +kernel
theorem dX2_init_43 : decode cX2_init 43 = .ok (.putfield 28, 3) := by decide +kernel
theorem dX2_init_46 : decode cX2_init 46 = .ok (.aload_n 0, 1) := by decide +kernel
theorem dX2_init_47 : decode cX2_init 47 = .ok (.bipush 24, 2) := by decide +kernel
theorem dX2_init_49 : decode cX2_init 49 = .ok (.newarray .int, 2) := by decide +kernel
theorem dX2_init_51 : decode cX2_init 51 = .ok (.putfield 31, 3) := by decide +kernel
theorem dX2_init_54 : decode cX2_init 54 = .ok (.aload_n 0, 1) := by decide +kernel
theorem dX2_init_55 : decode cX2_init 55 = .ok (.bipush 96, 2) := by decide +kernel
theorem dX2_init_57 : decode cX2_init 57 = .ok (.newarray .int, 2) := by decide +kernel
theorem dX2_init_59 : decode cX2_init 59 = .ok (.putfield 34, 3) := by decide +kernel
theorem dX2_init_62 : decode cX2_init 62 = .ok (.aload_n 0, 1) := by decide +kernel
theorem dX2_init_63 : decode cX2_init 63 = .ok (.bipush 84, 2) := by decide +kernel
theorem dX2_init_65 : decode cX2_init 65 = .ok (.newarray .int, 2) := by decide +kernel
theorem dX2_init_67 : decode cX2_init 67 = .ok (.putfield 37, 3) := by decide +kernel
theorem dX2_init_70 : decode cX2_init 70 = .ok (.return_, 1) := by decide +kernel
theorem dX2_place_0 : decode cX2_place 0 = .ok (.iload_n 0, 1) := by decide +kernel
theorem dX2_place_1 : decode cX2_place 1 = .ok (.bipush 6, 2) := by decide +kernel
theorem dX2_place_3 : decode cX2_place 3 = .ok (.imul, 1) := by decide +kernel
theorem dX2_place_4 : decode cX2_place 4 = .ok (.iload_n 1, 1) := by decide +kernel
theorem dX2_place_5 : decode cX2_place 5 = .ok (.iadd, 1) := by decide +kernel
theorem dX2_place_6 : decode cX2_place 6 = .ok (.ireturn, 1) := by decide +kernel
theorem dX2_valuePlace_0 : decode cX2_valuePlace 0 = .ok (.iload_n 0, 1) := by decide +kernel
theorem dX2_valuePlace_1 : decode cX2_valuePlace 1 = .ok (.bipush 7, 2) := by decide +kernel
theorem dX2_valuePlace_3 : decode cX2_valuePlace 3 = .ok (.imul, 1) := by decide +kernel
theorem dX2_valuePlace_4 : decode cX2_valuePlace 4 = .ok (.iload_n 1, 1) := by decide +kernel
theorem dX2_valuePlace_5 : decode cX2_valuePlace 5 = .ok (.iadd, 1) := by decide +kernel
theorem dX2_valuePlace_6 : decode cX2_valuePlace 6 = .ok (.iconst 3, 1) := by decide +kernel
theorem dX2_valuePlace_7 : decode cX2_valuePlace 7 = .ok (.imul, 1) := by decide +kernel
theorem dX2_valuePlace_8 : decode cX2_valuePlace 8 = .ok (.iload_n 2, 1) := by decide +kernel
theorem dX2_valuePlace_9 : decode cX2_valuePlace 9 = .ok (.iadd, 1) := by decide +kernel
theorem dX2_valuePlace_10 : decode cX2_valuePlace 10 = .ok (.ireturn, 1) := by decide +kernel
theorem dX2_hasProcess_0 : decode cX2_hasProcess 0 = .ok (.iload_n 1, 1) := by decide +kernel
theorem dX2_hasProcess_1 : decode cX2_hasProcess 1 = .ok (.ifCond .lt 15, 3) := by decide +kernel
theorem dX2_hasProcess_4 : decode cX2_hasProcess 4 = .ok (.iload_n 1, 1) := by decide +kernel
theorem dX2_hasProcess_5 : decode cX2_hasProcess 5 = .ok (.aload_n 0, 1) := by decide +kernel
theorem dX2_hasProcess_6 : decode cX2_hasProcess 6 = .ok (.getfield 40, 3) := by decide +kernel
theorem dX2_hasProcess_9 : decode cX2_hasProcess 9 = .ok (.if_icmp .ge 7, 3) := by decide +kernel
theorem dX2_hasProcess_12 : decode cX2_hasProcess 12 = .ok (.iconst 1, 1) := by decide +kernel
theorem dX2_hasProcess_13 : decode cX2_hasProcess 13 = .ok (.goto 4, 3) := by decide +kernel
theorem dX2_hasProcess_16 : decode cX2_hasProcess 16 = .ok (.iconst 0, 1) := by decide +kernel
theorem dX2_hasProcess_17 : decode cX2_hasProcess 17 = .ok (.ireturn, 1) := by decide +kernel
theorem dX2_hasEvent_0 : decode cX2_hasEvent 0 = .ok (.aload_n 0, 1) := by decide +kernel
theorem dX2_hasEvent_1 : decode cX2_hasEvent 1 = .ok (.iload_n 1, 1) := by decide +kernel
theorem dX2_hasEvent_2 : decode cX2_hasEvent 2 = .ok (.invokevirtual 44, 3) := by decide +kernel
theorem dX2_hasEvent_5 : decode cX2_hasEvent 5 = .ok (.ifCond .eq 21, 3) := by decide +kernel
theorem dX2_hasEvent_8 : decode cX2_hasEvent 8 = .ok (.iload_n 2, 1) := by decide +kernel
theorem dX2_hasEvent_9 : decode cX2_hasEvent 9 = .ok (.ifCond .lt 17, 3) := by decide +kernel
theorem dX2_hasEvent_12 : decode cX2_hasEvent 12 = .ok (.iload_n 2, 1) := by decide +kernel
theorem dX2_hasEvent_13 : decode cX2_hasEvent 13 = .ok (.aload_n 0, 1) := by decide +kernel
theorem dX2_hasEvent_14 : decode cX2_hasEvent 14 = .ok (.getfield 18, 3) := by decide +kernel
theorem dX2_hasEvent_17 : decode cX2_hasEvent 17 = .ok (.iload_n 1, 1) := by decide +kernel
theorem dX2_hasEvent_18 : decode cX2_hasEvent 18 = .ok (.iaload, 1) := by decide +kernel
theorem dX2_hasEvent_19 : decode cX2_hasEvent 19 = .ok (.if_icmp .ge 7, 3) := by decide +kernel
theorem dX2_hasEvent_22 : decode cX2_hasEvent 22 = .ok (.iconst 1, 1) := by decide +kernel
theorem dX2_hasEvent_23 : decode cX2_hasEvent 23 = .ok (.goto 4, 3) := by decide +kernel
theorem dX2_hasEvent_26 : decode cX2_hasEvent 26 = .ok (.iconst 0, 1) := by decide +kernel
theorem dX2_hasEvent_27 : decode cX2_hasEvent 27 = .ok (.ireturn, 1) := by decide +kernel
theorem dX2_hasCut_0 : decode cX2_hasCut 0 = .ok (.iload_n 1, 1) := by decide +kernel
theorem dX2_hasCut_1 : decode cX2_hasCut 1 = .ok (.ifCond .lt 10, 3) := by decide +kernel
theorem dX2_hasCut_4 : decode cX2_hasCut 4 = .ok (.iload_n 1, 1) := by decide +kernel
theorem dX2_hasCut_5 : decode cX2_hasCut 5 = .ok (.sipush 2401, 3) := by decide +kernel
theorem dX2_hasCut_8 : decode cX2_hasCut 8 = .ok (.if_icmp .lt 5, 3) := by decide +kernel
theorem dX2_hasCut_11 : decode cX2_hasCut 11 = .ok (.iconst 0, 1) := by decide +kernel
theorem dX2_hasCut_12 : decode cX2_hasCut 12 = .ok (.ireturn, 1) := by decide +kernel
theorem dX2_hasCut_13 : decode cX2_hasCut 13 = .ok (.iload_n 1, 1) := by decide +kernel
theorem dX2_hasCut_14 : decode cX2_hasCut 14 = .ok (.istore_n 2, 1) := by decide +kernel
theorem dX2_hasCut_15 : decode cX2_hasCut 15 = .ok (.iconst 0, 1) := by decide +kernel
theorem dX2_hasCut_16 : decode cX2_hasCut 16 = .ok (.istore_n 3, 1) := by decide +kernel
theorem dX2_hasCut_17 : decode cX2_hasCut 17 = .ok (.iload_n 3, 1) := by decide +kernel
theorem dX2_hasCut_18 : decode cX2_hasCut 18 = .ok (.iconst 4, 1) := by decide +kernel
theorem dX2_hasCut_19 : decode cX2_hasCut 19 = .ok (.if_icmp .ge 29, 3) := by decide +kernel
theorem dX2_hasCut_22 : decode cX2_hasCut 22 = .ok (.iload_n 2, 1) := by decide +kernel
theorem dX2_hasCut_23 : decode cX2_hasCut 23 = .ok (.bipush 7, 2) := by decide +kernel
theorem dX2_hasCut_25 : decode cX2_hasCut 25 = .ok (.irem, 1) := by decide +kernel
theorem dX2_hasCut_26 : decode cX2_hasCut 26 = .ok (.aload_n 0, 1) := by decide +kernel
theorem dX2_hasCut_27 : decode cX2_hasCut 27 = .ok (.getfield 18, 3) := by decide +kernel
theorem dX2_hasCut_30 : decode cX2_hasCut 30 = .ok (.iload_n 3, 1) := by decide +kernel
theorem dX2_hasCut_31 : decode cX2_hasCut 31 = .ok (.iaload, 1) := by decide +kernel
theorem dX2_hasCut_32 : decode cX2_hasCut 32 = .ok (.if_icmp .le 5, 3) := by decide +kernel
theorem dX2_hasCut_35 : decode cX2_hasCut 35 = .ok (.iconst 0, 1) := by decide +kernel
theorem dX2_hasCut_36 : decode cX2_hasCut 36 = .ok (.ireturn, 1) := by decide +kernel
theorem dX2_hasCut_37 : decode cX2_hasCut 37 = .ok (.iload_n 2, 1) := by decide +kernel
theorem dX2_hasCut_38 : decode cX2_hasCut 38 = .ok (.bipush 7, 2) := by decide +kernel
theorem dX2_hasCut_40 : decode cX2_hasCut 40 = .ok (.idiv, 1) := by decide +kernel
theorem dX2_hasCut_41 : decode cX2_hasCut 41 = .ok (.istore_n 2, 1) := by decide +kernel
theorem dX2_hasCut_42 : decode cX2_hasCut 42 = .ok (.iinc 3 1, 3) := by decide +kernel
theorem dX2_hasCut_45 : decode cX2_hasCut 45 = .ok (.goto (-28), 3) := by decide +kernel
theorem dX2_hasCut_48 : decode cX2_hasCut 48 = .ok (.iconst 1, 1) := by decide +kernel
theorem dX2_hasCut_49 : decode cX2_hasCut 49 = .ok (.ireturn, 1) := by decide +kernel
theorem dX2_isFull_0 : decode cX2_isFull 0 = .ok (.aload_n 0, 1) := by decide +kernel
theorem dX2_isFull_1 : decode cX2_isFull 1 = .ok (.getfield 18, 3) := by decide +kernel
theorem dX2_isFull_4 : decode cX2_isFull 4 = .ok (.iload_n 1, 1) := by decide +kernel
theorem dX2_isFull_5 : decode cX2_isFull 5 = .ok (.iaload, 1) := by decide +kernel
theorem dX2_isFull_6 : decode cX2_isFull 6 = .ok (.bipush 6, 2) := by decide +kernel
theorem dX2_isFull_8 : decode cX2_isFull 8 = .ok (.if_icmp .lt 7, 3) := by decide +kernel
theorem dX2_isFull_11 : decode cX2_isFull 11 = .ok (.iconst 1, 1) := by decide +kernel
theorem dX2_isFull_12 : decode cX2_isFull 12 = .ok (.goto 4, 3) := by decide +kernel
theorem dX2_isFull_15 : decode cX2_isFull 15 = .ok (.iconst 0, 1) := by decide +kernel
theorem dX2_isFull_16 : decode cX2_isFull 16 = .ok (.ireturn, 1) := by decide +kernel
theorem dX2_clockOf_0 : decode cX2_clockOf 0 = .ok (.aload_n 0, 1) := by decide +kernel
theorem dX2_clockOf_1 : decode cX2_clockOf 1 = .ok (.getfield 34, 3) := by decide +kernel
theorem dX2_clockOf_4 : decode cX2_clockOf 4 = .ok (.iload_n 1, 1) := by decide +kernel
theorem dX2_clockOf_5 : decode cX2_clockOf 5 = .ok (.bipush 6, 2) := by decide +kernel
theorem dX2_clockOf_7 : decode cX2_clockOf 7 = .ok (.imul, 1) := by decide +kernel
theorem dX2_clockOf_8 : decode cX2_clockOf 8 = .ok (.iload_n 2, 1) := by decide +kernel
theorem dX2_clockOf_9 : decode cX2_clockOf 9 = .ok (.iadd, 1) := by decide +kernel
theorem dX2_clockOf_10 : decode cX2_clockOf 10 = .ok (.iconst 4, 1) := by decide +kernel
theorem dX2_clockOf_11 : decode cX2_clockOf 11 = .ok (.imul, 1) := by decide +kernel
theorem dX2_clockOf_12 : decode cX2_clockOf 12 = .ok (.iload_n 3, 1) := by decide +kernel
theorem dX2_clockOf_13 : decode cX2_clockOf 13 = .ok (.iadd, 1) := by decide +kernel
theorem dX2_clockOf_14 : decode cX2_clockOf 14 = .ok (.iaload, 1) := by decide +kernel
theorem dX2_clockOf_15 : decode cX2_clockOf 15 = .ok (.ireturn, 1) := by decide +kernel
theorem dX2_leastWith_0 : decode cX2_leastWith 0 = .ok (.iconst 0, 1) := by decide +kernel
theorem dX2_leastWith_1 : decode cX2_leastWith 1 = .ok (.istore_n 3, 1) := by decide +kernel
theorem dX2_leastWith_2 : decode cX2_leastWith 2 = .ok (.iconst 0, 1) := by decide +kernel
theorem dX2_leastWith_3 : decode cX2_leastWith 3 = .ok (.istore 4, 2) := by decide +kernel
theorem dX2_leastWith_5 : decode cX2_leastWith 5 = .ok (.iload 4, 2) := by decide +kernel
theorem dX2_leastWith_7 : decode cX2_leastWith 7 = .ok (.iconst 4, 1) := by decide +kernel
theorem dX2_leastWith_8 : decode cX2_leastWith 8 = .ok (.if_icmp .ge 27, 3) := by decide +kernel
theorem dX2_leastWith_11 : decode cX2_leastWith 11 = .ok (.iload_n 3, 1) := by decide +kernel
theorem dX2_leastWith_12 : decode cX2_leastWith 12 = .ok (.aload_n 0, 1) := by decide +kernel
theorem dX2_leastWith_13 : decode cX2_leastWith 13 = .ok (.iload_n 1, 1) := by decide +kernel
theorem dX2_leastWith_14 : decode cX2_leastWith 14 = .ok (.iload_n 2, 1) := by decide +kernel
theorem dX2_leastWith_15 : decode cX2_leastWith 15 = .ok (.iload 4, 2) := by decide +kernel
theorem dX2_leastWith_17 : decode cX2_leastWith 17 = .ok (.invokevirtual 48, 3) := by decide +kernel
theorem dX2_leastWith_20 : decode cX2_leastWith 20 = .ok (.getstatic 52, 3) := by decide +kernel
theorem dX2_leastWith_23 : decode cX2_leastWith 23 = .ok (.iload 4, 2) := by decide +kernel
theorem dX2_leastWith_25 : decode cX2_leastWith 25 = .ok (.iaload, 1) := by decide +kernel
theorem dX2_leastWith_26 : decode cX2_leastWith 26 = .ok (.imul, 1) := by decide +kernel
theorem dX2_leastWith_27 : decode cX2_leastWith 27 = .ok (.iadd, 1) := by decide +kernel
theorem dX2_leastWith_28 : decode cX2_leastWith 28 = .ok (.istore_n 3, 1) := by decide +kernel
theorem dX2_leastWith_29 : decode cX2_leastWith 29 = .ok (.iinc 4 1, 3) := by decide +kernel
theorem dX2_leastWith_32 : decode cX2_leastWith 32 = .ok (.goto (-27), 3) := by decide +kernel
theorem dX2_leastWith_35 : decode cX2_leastWith 35 = .ok (.iload_n 3, 1) := by decide +kernel
theorem dX2_leastWith_36 : decode cX2_leastWith 36 = .ok (.ireturn, 1) := by decide +kernel
theorem dX2_change_0 : decode cX2_change 0 = .ok (.aload_n 0, 1) := by decide +kernel
theorem dX2_change_1 : decode cX2_change 1 = .ok (.iload_n 1, 1) := by decide +kernel
theorem dX2_change_2 : decode cX2_change 2 = .ok (.iload 4, 2) := by decide +kernel
theorem dX2_change_4 : decode cX2_change 4 = .ok (.ifCond .eq 7, 3) := by decide +kernel
theorem dX2_change_7 : decode cX2_change 7 = .ok (.iconst 1, 1) := by decide +kernel
theorem dX2_change_8 : decode cX2_change 8 = .ok (.goto 4, 3) := by decide +kernel
theorem dX2_change_11 : decode cX2_change 11 = .ok (.iconst 0, 1) := by decide +kernel
theorem dX2_change_12 : decode cX2_change 12 = .ok (.iload_n 2, 1) := by decide +kernel
theorem dX2_change_13 : decode cX2_change 13 = .ok (.invokevirtual 55, 3) := by decide +kernel
theorem dX2_change_16 : decode cX2_change 16 = .ok (.istore 5, 2) := by decide +kernel
theorem dX2_change_18 : decode cX2_change 18 = .ok (.iload_n 1, 1) := by decide +kernel
theorem dX2_change_19 : decode cX2_change 19 = .ok (.iload 5, 2) := by decide +kernel
theorem dX2_change_21 : decode cX2_change 21 = .ok (.iload_n 2, 1) := by decide +kernel
theorem dX2_change_22 : decode cX2_change 22 = .ok (.invokestatic 58, 3) := by decide +kernel
theorem dX2_change_25 : decode cX2_change 25 = .ok (.istore 6, 2) := by decide +kernel
theorem dX2_change_27 : decode cX2_change 27 = .ok (.aload_n 0, 1) := by decide +kernel
theorem dX2_change_28 : decode cX2_change 28 = .ok (.getfield 37, 3) := by decide +kernel
theorem dX2_change_31 : decode cX2_change 31 = .ok (.iload 6, 2) := by decide +kernel
theorem dX2_change_33 : decode cX2_change 33 = .ok (.iload 4, 2) := by decide +kernel
theorem dX2_change_35 : decode cX2_change 35 = .ok (.ifCond .eq 15, 3) := by decide +kernel
theorem dX2_change_38 : decode cX2_change 38 = .ok (.aload_n 0, 1) := by decide +kernel
theorem dX2_change_39 : decode cX2_change 39 = .ok (.getfield 37, 3) := by decide +kernel
theorem dX2_change_42 : decode cX2_change 42 = .ok (.iload 6, 2) := by decide +kernel
theorem dX2_change_44 : decode cX2_change 44 = .ok (.iaload, 1) := by decide +kernel
theorem dX2_change_45 : decode cX2_change 45 = .ok (.iload_n 3, 1) := by decide +kernel
theorem dX2_change_46 : decode cX2_change 46 = .ok (.iadd, 1) := by decide +kernel
theorem dX2_change_47 : decode cX2_change 47 = .ok (.goto 4, 3) := by decide +kernel
theorem dX2_change_50 : decode cX2_change 50 = .ok (.iload_n 3, 1) := by decide +kernel
theorem dX2_change_51 : decode cX2_change 51 = .ok (.iastore, 1) := by decide +kernel
theorem dX2_change_52 : decode cX2_change 52 = .ok (.iload 5, 2) := by decide +kernel
theorem dX2_change_54 : decode cX2_change 54 = .ok (.ireturn, 1) := by decide +kernel
theorem dX2_sendOut_0 : decode cX2_sendOut 0 = .ok (.aload_n 0, 1) := by decide +kernel
theorem dX2_sendOut_1 : decode cX2_sendOut 1 = .ok (.getfield 12, 3) := by decide +kernel
theorem dX2_sendOut_4 : decode cX2_sendOut 4 = .ok (.iload_n 1, 1) := by decide +kernel
theorem dX2_sendOut_5 : decode cX2_sendOut 5 = .ok (.iload_n 2, 1) := by decide +kernel
theorem dX2_sendOut_6 : decode cX2_sendOut 6 = .ok (.aload_n 0, 1) := by decide +kernel
theorem dX2_sendOut_7 : decode cX2_sendOut 7 = .ok (.getfield 18, 3) := by decide +kernel
theorem dX2_sendOut_10 : decode cX2_sendOut 10 = .ok (.iload_n 1, 1) := by decide +kernel
theorem dX2_sendOut_11 : decode cX2_sendOut 11 = .ok (.iaload, 1) := by decide +kernel
theorem dX2_sendOut_12 : decode cX2_sendOut 12 = .ok (.invokevirtual 61, 3) := by decide +kernel
theorem dX2_sendOut_15 : decode cX2_sendOut 15 = .ok (.istore_n 3, 1) := by decide +kernel
theorem dX2_sendOut_16 : decode cX2_sendOut 16 = .ok (.aload_n 0, 1) := by decide +kernel
theorem dX2_sendOut_17 : decode cX2_sendOut 17 = .ok (.iload_n 1, 1) := by decide +kernel
theorem dX2_sendOut_18 : decode cX2_sendOut 18 = .ok (.iconst 2, 1) := by decide +kernel
theorem dX2_sendOut_19 : decode cX2_sendOut 19 = .ok (.iload_n 3, 1) := by decide +kernel
theorem dX2_sendOut_20 : decode cX2_sendOut 20 = .ok (.invokevirtual 55, 3) := by decide +kernel
theorem dX2_sendOut_23 : decode cX2_sendOut 23 = .ok (.pop, 1) := by decide +kernel
theorem dX2_sendOut_24 : decode cX2_sendOut 24 = .ok (.iload_n 3, 1) := by decide +kernel
theorem dX2_sendOut_25 : decode cX2_sendOut 25 = .ok (.ireturn, 1) := by decide +kernel
theorem dX2_takeIn_0 : decode cX2_takeIn 0 = .ok (.aload_n 0, 1) := by decide +kernel
theorem dX2_takeIn_1 : decode cX2_takeIn 1 = .ok (.getfield 12, 3) := by decide +kernel
theorem dX2_takeIn_4 : decode cX2_takeIn 4 = .ok (.getfield 64, 3) := by decide +kernel
theorem dX2_takeIn_7 : decode cX2_takeIn 7 = .ok (.iload_n 1, 1) := by decide +kernel
theorem dX2_takeIn_8 : decode cX2_takeIn 8 = .ok (.iaload, 1) := by decide +kernel
theorem dX2_takeIn_9 : decode cX2_takeIn 9 = .ok (.istore_n 2, 1) := by decide +kernel
theorem dX2_takeIn_10 : decode cX2_takeIn 10 = .ok (.aload_n 0, 1) := by decide +kernel
theorem dX2_takeIn_11 : decode cX2_takeIn 11 = .ok (.getfield 12, 3) := by decide +kernel
theorem dX2_takeIn_14 : decode cX2_takeIn 14 = .ok (.getfield 67, 3) := by decide +kernel
theorem dX2_takeIn_17 : decode cX2_takeIn 17 = .ok (.iload_n 1, 1) := by decide +kernel
theorem dX2_takeIn_18 : decode cX2_takeIn 18 = .ok (.aload_n 0, 1) := by decide +kernel
theorem dX2_takeIn_19 : decode cX2_takeIn 19 = .ok (.getfield 18, 3) := by decide +kernel
theorem dX2_takeIn_22 : decode cX2_takeIn 22 = .ok (.iload_n 2, 1) := by decide +kernel
theorem dX2_takeIn_23 : decode cX2_takeIn 23 = .ok (.iaload, 1) := by decide +kernel
theorem dX2_takeIn_24 : decode cX2_takeIn 24 = .ok (.iastore, 1) := by decide +kernel
theorem dX2_takeIn_25 : decode cX2_takeIn 25 = .ok (.aload_n 0, 1) := by decide +kernel
theorem dX2_takeIn_26 : decode cX2_takeIn 26 = .ok (.iload_n 2, 1) := by decide +kernel
theorem dX2_takeIn_27 : decode cX2_takeIn 27 = .ok (.iconst 3, 1) := by decide +kernel
theorem dX2_takeIn_28 : decode cX2_takeIn 28 = .ok (.iload_n 1, 1) := by decide +kernel
theorem dX2_takeIn_29 : decode cX2_takeIn 29 = .ok (.invokevirtual 55, 3) := by decide +kernel
theorem dX2_takeIn_32 : decode cX2_takeIn 32 = .ok (.istore_n 3, 1) := by decide +kernel
theorem dX2_takeIn_33 : decode cX2_takeIn 33 = .ok (.aload_n 0, 1) := by decide +kernel
theorem dX2_takeIn_34 : decode cX2_takeIn 34 = .ok (.iload_n 2, 1) := by decide +kernel
theorem dX2_takeIn_35 : decode cX2_takeIn 35 = .ok (.aload_n 0, 1) := by decide +kernel
theorem dX2_takeIn_36 : decode cX2_takeIn 36 = .ok (.getfield 12, 3) := by decide +kernel
theorem dX2_takeIn_39 : decode cX2_takeIn 39 = .ok (.getfield 70, 3) := by decide +kernel
theorem dX2_takeIn_42 : decode cX2_takeIn 42 = .ok (.iload_n 1, 1) := by decide +kernel
theorem dX2_takeIn_43 : decode cX2_takeIn 43 = .ok (.iaload, 1) := by decide +kernel
theorem dX2_takeIn_44 : decode cX2_takeIn 44 = .ok (.aload_n 0, 1) := by decide +kernel
theorem dX2_takeIn_45 : decode cX2_takeIn 45 = .ok (.getfield 12, 3) := by decide +kernel
theorem dX2_takeIn_48 : decode cX2_takeIn 48 = .ok (.getfield 73, 3) := by decide +kernel
theorem dX2_takeIn_51 : decode cX2_takeIn 51 = .ok (.iload_n 1, 1) := by decide +kernel
theorem dX2_takeIn_52 : decode cX2_takeIn 52 = .ok (.iaload, 1) := by decide +kernel
theorem dX2_takeIn_53 : decode cX2_takeIn 53 = .ok (.invokevirtual 76, 3) := by decide +kernel
theorem dX2_takeIn_56 : decode cX2_takeIn 56 = .ok (.iload_n 3, 1) := by decide +kernel
theorem dX2_takeIn_57 : decode cX2_takeIn 57 = .ok (.ireturn, 1) := by decide +kernel
theorem dX2_awaitAll_0 : decode cX2_awaitAll 0 = .ok (.aload_n 0, 1) := by decide +kernel
theorem dX2_awaitAll_1 : decode cX2_awaitAll 1 = .ok (.iload_n 1, 1) := by decide +kernel
theorem dX2_awaitAll_2 : decode cX2_awaitAll 2 = .ok (.iconst 4, 1) := by decide +kernel
theorem dX2_awaitAll_3 : decode cX2_awaitAll 3 = .ok (.iload_n 2, 1) := by decide +kernel
theorem dX2_awaitAll_4 : decode cX2_awaitAll 4 = .ok (.invokevirtual 55, 3) := by decide +kernel
theorem dX2_awaitAll_7 : decode cX2_awaitAll 7 = .ok (.istore_n 3, 1) := by decide +kernel
theorem dX2_awaitAll_8 : decode cX2_awaitAll 8 = .ok (.aload_n 0, 1) := by decide +kernel
theorem dX2_awaitAll_9 : decode cX2_awaitAll 9 = .ok (.getfield 18, 3) := by decide +kernel
theorem dX2_awaitAll_12 : decode cX2_awaitAll 12 = .ok (.iload_n 2, 1) := by decide +kernel
theorem dX2_awaitAll_13 : decode cX2_awaitAll 13 = .ok (.iaload, 1) := by decide +kernel
theorem dX2_awaitAll_14 : decode cX2_awaitAll 14 = .ok (.ifCond .le 17, 3) := by decide +kernel
theorem dX2_awaitAll_17 : decode cX2_awaitAll 17 = .ok (.aload_n 0, 1) := by decide +kernel
theorem dX2_awaitAll_18 : decode cX2_awaitAll 18 = .ok (.iload_n 1, 1) := by decide +kernel
theorem dX2_awaitAll_19 : decode cX2_awaitAll 19 = .ok (.iload_n 2, 1) := by decide +kernel
theorem dX2_awaitAll_20 : decode cX2_awaitAll 20 = .ok (.aload_n 0, 1) := by decide +kernel
theorem dX2_awaitAll_21 : decode cX2_awaitAll 21 = .ok (.getfield 18, 3) := by decide +kernel
theorem dX2_awaitAll_24 : decode cX2_awaitAll 24 = .ok (.iload_n 2, 1) := by decide +kernel
theorem dX2_awaitAll_25 : decode cX2_awaitAll 25 = .ok (.iaload, 1) := by decide +kernel
theorem dX2_awaitAll_26 : decode cX2_awaitAll 26 = .ok (.iconst 1, 1) := by decide +kernel
theorem dX2_awaitAll_27 : decode cX2_awaitAll 27 = .ok (.isub, 1) := by decide +kernel
theorem dX2_awaitAll_28 : decode cX2_awaitAll 28 = .ok (.invokevirtual 76, 3) := by decide +kernel
theorem dX2_awaitAll_31 : decode cX2_awaitAll 31 = .ok (.iload_n 3, 1) := by decide +kernel
theorem dX2_awaitAll_32 : decode cX2_awaitAll 32 = .ok (.ireturn, 1) := by decide +kernel
theorem dX2_append_0 : decode cX2_append 0 = .ok (.aload_n 0, 1) := by decide +kernel
theorem dX2_append_1 : decode cX2_append 1 = .ok (.getfield 18, 3) := by decide +kernel
theorem dX2_append_4 : decode cX2_append 4 = .ok (.iload_n 1, 1) := by decide +kernel
theorem dX2_append_5 : decode cX2_append 5 = .ok (.iaload, 1) := by decide +kernel
theorem dX2_append_6 : decode cX2_append 6 = .ok (.istore 4, 2) := by decide +kernel
theorem dX2_append_8 : decode cX2_append 8 = .ok (.iload_n 1, 1) := by decide +kernel
theorem dX2_append_9 : decode cX2_append 9 = .ok (.iload 4, 2) := by decide +kernel
theorem dX2_append_11 : decode cX2_append 11 = .ok (.invokestatic 80, 3) := by decide +kernel
theorem dX2_append_14 : decode cX2_append 14 = .ok (.istore 5, 2) := by decide +kernel
theorem dX2_append_16 : decode cX2_append 16 = .ok (.aload_n 0, 1) := by decide +kernel
theorem dX2_append_17 : decode cX2_append 17 = .ok (.getfield 25, 3) := by decide +kernel
theorem dX2_append_20 : decode cX2_append 20 = .ok (.iload 5, 2) := by decide +kernel
theorem dX2_append_22 : decode cX2_append 22 = .ok (.iload_n 2, 1) := by decide +kernel
theorem dX2_append_23 : decode cX2_append 23 = .ok (.iastore, 1) := by decide +kernel
theorem dX2_append_24 : decode cX2_append 24 = .ok (.aload_n 0, 1) := by decide +kernel
theorem dX2_append_25 : decode cX2_append 25 = .ok (.getfield 28, 3) := by decide +kernel
theorem dX2_append_28 : decode cX2_append 28 = .ok (.iload 5, 2) := by decide +kernel
theorem dX2_append_30 : decode cX2_append 30 = .ok (.iload_n 3, 1) := by decide +kernel
theorem dX2_append_31 : decode cX2_append 31 = .ok (.iastore, 1) := by decide +kernel
theorem dX2_append_32 : decode cX2_append 32 = .ok (.aload_n 0, 1) := by decide +kernel
theorem dX2_append_33 : decode cX2_append 33 = .ok (.getfield 31, 3) := by decide +kernel
theorem dX2_append_36 : decode cX2_append 36 = .ok (.iload 5, 2) := by decide +kernel
theorem dX2_append_38 : decode cX2_append 38 = .ok (.aload_n 0, 1) := by decide +kernel
theorem dX2_append_39 : decode cX2_append 39 = .ok (.getfield 84, 3) := by decide +kernel
theorem dX2_append_42 : decode cX2_append 42 = .ok (.iastore, 1) := by decide +kernel
theorem dX2_append_43 : decode cX2_append 43 = .ok (.aload_n 0, 1) := by decide +kernel
theorem dX2_append_44 : decode cX2_append 44 = .ok (.getfield 22, 3) := by decide +kernel
theorem dX2_append_47 : decode cX2_append 47 = .ok (.aload_n 0, 1) := by decide +kernel
theorem dX2_append_48 : decode cX2_append 48 = .ok (.getfield 84, 3) := by decide +kernel
theorem dX2_append_51 : decode cX2_append 51 = .ok (.iload_n 1, 1) := by decide +kernel
theorem dX2_append_52 : decode cX2_append 52 = .ok (.iastore, 1) := by decide +kernel
theorem dX2_append_53 : decode cX2_append 53 = .ok (.iconst 0, 1) := by decide +kernel
theorem dX2_append_54 : decode cX2_append 54 = .ok (.istore 6, 2) := by decide +kernel
theorem dX2_append_56 : decode cX2_append 56 = .ok (.iload 6, 2) := by decide +kernel
theorem dX2_append_58 : decode cX2_append 58 = .ok (.iconst 4, 1) := by decide +kernel
theorem dX2_append_59 : decode cX2_append 59 = .ok (.if_icmp .ge 41, 3) := by decide +kernel
theorem dX2_append_62 : decode cX2_append 62 = .ok (.aload_n 0, 1) := by decide +kernel
theorem dX2_append_63 : decode cX2_append 63 = .ok (.getfield 34, 3) := by decide +kernel
theorem dX2_append_66 : decode cX2_append 66 = .ok (.iload 5, 2) := by decide +kernel
theorem dX2_append_68 : decode cX2_append 68 = .ok (.iconst 4, 1) := by decide +kernel
theorem dX2_append_69 : decode cX2_append 69 = .ok (.imul, 1) := by decide +kernel
theorem dX2_append_70 : decode cX2_append 70 = .ok (.iload 6, 2) := by decide +kernel
theorem dX2_append_72 : decode cX2_append 72 = .ok (.iadd, 1) := by decide +kernel
theorem dX2_append_73 : decode cX2_append 73 = .ok (.iload 4, 2) := by decide +kernel
theorem dX2_append_75 : decode cX2_append 75 = .ok (.ifCond .ne 7, 3) := by decide +kernel
theorem dX2_append_78 : decode cX2_append 78 = .ok (.iconst 0, 1) := by decide +kernel
theorem dX2_append_79 : decode cX2_append 79 = .ok (.goto 14, 3) := by decide +kernel
theorem dX2_append_82 : decode cX2_append 82 = .ok (.aload_n 0, 1) := by decide +kernel
theorem dX2_append_83 : decode cX2_append 83 = .ok (.iload_n 1, 1) := by decide +kernel
theorem dX2_append_84 : decode cX2_append 84 = .ok (.iload 4, 2) := by decide +kernel
theorem dX2_append_86 : decode cX2_append 86 = .ok (.iconst 1, 1) := by decide +kernel
theorem dX2_append_87 : decode cX2_append 87 = .ok (.isub, 1) := by decide +kernel
theorem dX2_append_88 : decode cX2_append 88 = .ok (.iload 6, 2) := by decide +kernel
theorem dX2_append_90 : decode cX2_append 90 = .ok (.invokevirtual 48, 3) := by decide +kernel
theorem dX2_append_93 : decode cX2_append 93 = .ok (.iastore, 1) := by decide +kernel
theorem dX2_append_94 : decode cX2_append 94 = .ok (.iinc 6 1, 3) := by decide +kernel
theorem dX2_append_97 : decode cX2_append 97 = .ok (.goto (-41), 3) := by decide +kernel
theorem dX2_append_100 : decode cX2_append 100 = .ok (.aload_n 0, 1) := by decide +kernel
theorem dX2_append_101 : decode cX2_append 101 = .ok (.getfield 34, 3) := by decide +kernel
theorem dX2_append_104 : decode cX2_append 104 = .ok (.iload 5, 2) := by decide +kernel
theorem dX2_append_106 : decode cX2_append 106 = .ok (.iconst 4, 1) := by decide +kernel
theorem dX2_append_107 : decode cX2_append 107 = .ok (.imul, 1) := by decide +kernel
theorem dX2_append_108 : decode cX2_append 108 = .ok (.iload_n 1, 1) := by decide +kernel
theorem dX2_append_109 : decode cX2_append 109 = .ok (.iadd, 1) := by decide +kernel
theorem dX2_append_110 : decode cX2_append 110 = .ok (.iload 4, 2) := by decide +kernel
theorem dX2_append_112 : decode cX2_append 112 = .ok (.iconst 1, 1) := by decide +kernel
theorem dX2_append_113 : decode cX2_append 113 = .ok (.iadd, 1) := by decide +kernel
theorem dX2_append_114 : decode cX2_append 114 = .ok (.iastore, 1) := by decide +kernel
theorem dX2_append_115 : decode cX2_append 115 = .ok (.iconst 0, 1) := by decide +kernel
theorem dX2_append_116 : decode cX2_append 116 = .ok (.istore 6, 2) := by decide +kernel
theorem dX2_append_118 : decode cX2_append 118 = .ok (.iload 6, 2) := by decide +kernel
theorem dX2_append_120 : decode cX2_append 120 = .ok (.iconst 3, 1) := by decide +kernel
theorem dX2_append_121 : decode cX2_append 121 = .ok (.if_icmp .ge 37, 3) := by decide +kernel
theorem dX2_append_124 : decode cX2_append 124 = .ok (.aload_n 0, 1) := by decide +kernel
theorem dX2_append_125 : decode cX2_append 125 = .ok (.getfield 37, 3) := by decide +kernel
theorem dX2_append_128 : decode cX2_append 128 = .ok (.iload_n 1, 1) := by decide +kernel
theorem dX2_append_129 : decode cX2_append 129 = .ok (.iload 4, 2) := by decide +kernel
theorem dX2_append_131 : decode cX2_append 131 = .ok (.iconst 1, 1) := by decide +kernel
theorem dX2_append_132 : decode cX2_append 132 = .ok (.iadd, 1) := by decide +kernel
theorem dX2_append_133 : decode cX2_append 133 = .ok (.iload 6, 2) := by decide +kernel
theorem dX2_append_135 : decode cX2_append 135 = .ok (.invokestatic 58, 3) := by decide +kernel
theorem dX2_append_138 : decode cX2_append 138 = .ok (.aload_n 0, 1) := by decide +kernel
theorem dX2_append_139 : decode cX2_append 139 = .ok (.getfield 37, 3) := by decide +kernel
theorem dX2_append_142 : decode cX2_append 142 = .ok (.iload_n 1, 1) := by decide +kernel
theorem dX2_append_143 : decode cX2_append 143 = .ok (.iload 4, 2) := by decide +kernel
theorem dX2_append_145 : decode cX2_append 145 = .ok (.iload 6, 2) := by decide +kernel
theorem dX2_append_147 : decode cX2_append 147 = .ok (.invokestatic 58, 3) := by decide +kernel
theorem dX2_append_150 : decode cX2_append 150 = .ok (.iaload, 1) := by decide +kernel
theorem dX2_append_151 : decode cX2_append 151 = .ok (.iastore, 1) := by decide +kernel
theorem dX2_append_152 : decode cX2_append 152 = .ok (.iinc 6 1, 3) := by decide +kernel
theorem dX2_append_155 : decode cX2_append 155 = .ok (.goto (-37), 3) := by decide +kernel
theorem dX2_append_158 : decode cX2_append 158 = .ok (.aload_n 0, 1) := by decide +kernel
theorem dX2_append_159 : decode cX2_append 159 = .ok (.getfield 18, 3) := by decide +kernel
theorem dX2_append_162 : decode cX2_append 162 = .ok (.iload_n 1, 1) := by decide +kernel
theorem dX2_append_163 : decode cX2_append 163 = .ok (.iload 4, 2) := by decide +kernel
theorem dX2_append_165 : decode cX2_append 165 = .ok (.iconst 1, 1) := by decide +kernel
theorem dX2_append_166 : decode cX2_append 166 = .ok (.iadd, 1) := by decide +kernel
theorem dX2_append_167 : decode cX2_append 167 = .ok (.iastore, 1) := by decide +kernel
theorem dX2_append_168 : decode cX2_append 168 = .ok (.aload_n 0, 1) := by decide +kernel
theorem dX2_append_169 : decode cX2_append 169 = .ok (.dup, 1) := by decide +kernel
theorem dX2_append_170 : decode cX2_append 170 = .ok (.getfield 84, 3) := by decide +kernel
theorem dX2_append_173 : decode cX2_append 173 = .ok (.iconst 1, 1) := by decide +kernel
theorem dX2_append_174 : decode cX2_append 174 = .ok (.iadd, 1) := by decide +kernel
theorem dX2_append_175 : decode cX2_append 175 = .ok (.putfield 84, 3) := by decide +kernel
theorem dX2_append_178 : decode cX2_append 178 = .ok (.aload_n 0, 1) := by decide +kernel
theorem dX2_append_179 : decode cX2_append 179 = .ok (.dup, 1) := by decide +kernel
theorem dX2_append_180 : decode cX2_append 180 = .ok (.getfield 87, 3) := by decide +kernel
theorem dX2_append_183 : decode cX2_append 183 = .ok (.iconst 1, 1) := by decide +kernel
theorem dX2_append_184 : decode cX2_append 184 = .ok (.iadd, 1) := by decide +kernel
theorem dX2_append_185 : decode cX2_append 185 = .ok (.putfield 87, 3) := by decide +kernel
theorem dX2_append_188 : decode cX2_append 188 = .ok (.iload 4, 2) := by decide +kernel
theorem dX2_append_190 : decode cX2_append 190 = .ok (.iconst 1, 1) := by decide +kernel
theorem dX2_append_191 : decode cX2_append 191 = .ok (.iadd, 1) := by decide +kernel
theorem dX2_append_192 : decode cX2_append 192 = .ok (.ireturn, 1) := by decide +kernel
theorem dX2_follow_0 : decode cX2_follow 0 = .ok (.iload_n 1, 1) := by decide +kernel
theorem dX2_follow_1 : decode cX2_follow 1 = .ok (.aload_n 0, 1) := by decide +kernel
theorem dX2_follow_2 : decode cX2_follow 2 = .ok (.getfield 18, 3) := by decide +kernel
theorem dX2_follow_5 : decode cX2_follow 5 = .ok (.iload_n 1, 1) := by decide +kernel
theorem dX2_follow_6 : decode cX2_follow 6 = .ok (.iaload, 1) := by decide +kernel
theorem dX2_follow_7 : decode cX2_follow 7 = .ok (.iconst 1, 1) := by decide +kernel
theorem dX2_follow_8 : decode cX2_follow 8 = .ok (.isub, 1) := by decide +kernel
theorem dX2_follow_9 : decode cX2_follow 9 = .ok (.invokestatic 80, 3) := by decide +kernel
theorem dX2_follow_12 : decode cX2_follow 12 = .ok (.iconst 4, 1) := by decide +kernel
theorem dX2_follow_13 : decode cX2_follow 13 = .ok (.imul, 1) := by decide +kernel
theorem dX2_follow_14 : decode cX2_follow 14 = .ok (.istore 4, 2) := by decide +kernel
theorem dX2_follow_16 : decode cX2_follow 16 = .ok (.iconst 0, 1) := by decide +kernel
theorem dX2_follow_17 : decode cX2_follow 17 = .ok (.istore 5, 2) := by decide +kernel
theorem dX2_follow_19 : decode cX2_follow 19 = .ok (.iload 5, 2) := by decide +kernel
theorem dX2_follow_21 : decode cX2_follow 21 = .ok (.iconst 4, 1) := by decide +kernel
theorem dX2_follow_22 : decode cX2_follow 22 = .ok (.if_icmp .ge 40, 3) := by decide +kernel
theorem dX2_follow_25 : decode cX2_follow 25 = .ok (.aload_n 0, 1) := by decide +kernel
theorem dX2_follow_26 : decode cX2_follow 26 = .ok (.getfield 34, 3) := by decide +kernel
theorem dX2_follow_29 : decode cX2_follow 29 = .ok (.iload 4, 2) := by decide +kernel
theorem dX2_follow_31 : decode cX2_follow 31 = .ok (.iload 5, 2) := by decide +kernel
theorem dX2_follow_33 : decode cX2_follow 33 = .ok (.iadd, 1) := by decide +kernel
theorem dX2_follow_34 : decode cX2_follow 34 = .ok (.aload_n 0, 1) := by decide +kernel
theorem dX2_follow_35 : decode cX2_follow 35 = .ok (.getfield 34, 3) := by decide +kernel
theorem dX2_follow_38 : decode cX2_follow 38 = .ok (.iload 4, 2) := by decide +kernel
theorem dX2_follow_40 : decode cX2_follow 40 = .ok (.iload 5, 2) := by decide +kernel
theorem dX2_follow_42 : decode cX2_follow 42 = .ok (.iadd, 1) := by decide +kernel
theorem dX2_follow_43 : decode cX2_follow 43 = .ok (.iaload, 1) := by decide +kernel
theorem dX2_follow_44 : decode cX2_follow 44 = .ok (.aload_n 0, 1) := by decide +kernel
theorem dX2_follow_45 : decode cX2_follow 45 = .ok (.iload_n 2, 1) := by decide +kernel
theorem dX2_follow_46 : decode cX2_follow 46 = .ok (.iload_n 3, 1) := by decide +kernel
theorem dX2_follow_47 : decode cX2_follow 47 = .ok (.iload 5, 2) := by decide +kernel
theorem dX2_follow_49 : decode cX2_follow 49 = .ok (.invokevirtual 48, 3) := by decide +kernel
theorem dX2_follow_52 : decode cX2_follow 52 = .ok (.invokestatic 90, 3) := by decide +kernel
theorem dX2_follow_55 : decode cX2_follow 55 = .ok (.iastore, 1) := by decide +kernel
theorem dX2_follow_56 : decode cX2_follow 56 = .ok (.iinc 5 1, 3) := by decide +kernel
theorem dX2_follow_59 : decode cX2_follow 59 = .ok (.goto (-40), 3) := by decide +kernel
theorem dX2_follow_62 : decode cX2_follow 62 = .ok (.return_, 1) := by decide +kernel
theorem dX2_takeBack_0 : decode cX2_takeBack 0 = .ok (.aload_n 0, 1) := by decide +kernel
theorem dX2_takeBack_1 : decode cX2_takeBack 1 = .ok (.dup, 1) := by decide +kernel
theorem dX2_takeBack_2 : decode cX2_takeBack 2 = .ok (.getfield 84, 3) := by decide +kernel
theorem dX2_takeBack_5 : decode cX2_takeBack 5 = .ok (.iconst 1, 1) := by decide +kernel
theorem dX2_takeBack_6 : decode cX2_takeBack 6 = .ok (.isub, 1) := by decide +kernel
theorem dX2_takeBack_7 : decode cX2_takeBack 7 = .ok (.putfield 84, 3) := by decide +kernel
theorem dX2_takeBack_10 : decode cX2_takeBack 10 = .ok (.aload_n 0, 1) := by decide +kernel
theorem dX2_takeBack_11 : decode cX2_takeBack 11 = .ok (.dup, 1) := by decide +kernel
theorem dX2_takeBack_12 : decode cX2_takeBack 12 = .ok (.getfield 87, 3) := by decide +kernel
theorem dX2_takeBack_15 : decode cX2_takeBack 15 = .ok (.iconst 1, 1) := by decide +kernel
theorem dX2_takeBack_16 : decode cX2_takeBack 16 = .ok (.iadd, 1) := by decide +kernel
theorem dX2_takeBack_17 : decode cX2_takeBack 17 = .ok (.putfield 87, 3) := by decide +kernel
theorem dX2_takeBack_20 : decode cX2_takeBack 20 = .ok (.aload_n 0, 1) := by decide +kernel
theorem dX2_takeBack_21 : decode cX2_takeBack 21 = .ok (.getfield 22, 3) := by decide +kernel
theorem dX2_takeBack_24 : decode cX2_takeBack 24 = .ok (.aload_n 0, 1) := by decide +kernel
theorem dX2_takeBack_25 : decode cX2_takeBack 25 = .ok (.getfield 84, 3) := by decide +kernel
theorem dX2_takeBack_28 : decode cX2_takeBack 28 = .ok (.iaload, 1) := by decide +kernel
theorem dX2_takeBack_29 : decode cX2_takeBack 29 = .ok (.istore_n 1, 1) := by decide +kernel
theorem dX2_takeBack_30 : decode cX2_takeBack 30 = .ok (.aload_n 0, 1) := by decide +kernel
theorem dX2_takeBack_31 : decode cX2_takeBack 31 = .ok (.getfield 18, 3) := by decide +kernel
theorem dX2_takeBack_34 : decode cX2_takeBack 34 = .ok (.iload_n 1, 1) := by decide +kernel
theorem dX2_takeBack_35 : decode cX2_takeBack 35 = .ok (.dup2, 1) := by decide +kernel
theorem dX2_takeBack_36 : decode cX2_takeBack 36 = .ok (.iaload, 1) := by decide +kernel
theorem dX2_takeBack_37 : decode cX2_takeBack 37 = .ok (.iconst 1, 1) := by decide +kernel
theorem dX2_takeBack_38 : decode cX2_takeBack 38 = .ok (.isub, 1) := by decide +kernel
theorem dX2_takeBack_39 : decode cX2_takeBack 39 = .ok (.iastore, 1) := by decide +kernel
theorem dX2_takeBack_40 : decode cX2_takeBack 40 = .ok (.iload_n 1, 1) := by decide +kernel
theorem dX2_takeBack_41 : decode cX2_takeBack 41 = .ok (.aload_n 0, 1) := by decide +kernel
theorem dX2_takeBack_42 : decode cX2_takeBack 42 = .ok (.getfield 18, 3) := by decide +kernel
theorem dX2_takeBack_45 : decode cX2_takeBack 45 = .ok (.iload_n 1, 1) := by decide +kernel
theorem dX2_takeBack_46 : decode cX2_takeBack 46 = .ok (.iaload, 1) := by decide +kernel
theorem dX2_takeBack_47 : decode cX2_takeBack 47 = .ok (.invokestatic 80, 3) := by decide +kernel
theorem dX2_takeBack_50 : decode cX2_takeBack 50 = .ok (.istore_n 2, 1) := by decide +kernel
theorem dX2_takeBack_51 : decode cX2_takeBack 51 = .ok (.aload_n 0, 1) := by decide +kernel
theorem dX2_takeBack_52 : decode cX2_takeBack 52 = .ok (.getfield 25, 3) := by decide +kernel
theorem dX2_takeBack_55 : decode cX2_takeBack 55 = .ok (.iload_n 2, 1) := by decide +kernel
theorem dX2_takeBack_56 : decode cX2_takeBack 56 = .ok (.iaload, 1) := by decide +kernel
theorem dX2_takeBack_57 : decode cX2_takeBack 57 = .ok (.iconst 2, 1) := by decide +kernel
theorem dX2_takeBack_58 : decode cX2_takeBack 58 = .ok (.if_icmp .ne 19, 3) := by decide +kernel
theorem dX2_takeBack_61 : decode cX2_takeBack 61 = .ok (.aload_n 0, 1) := by decide +kernel
theorem dX2_takeBack_62 : decode cX2_takeBack 62 = .ok (.getfield 12, 3) := by decide +kernel
theorem dX2_takeBack_65 : decode cX2_takeBack 65 = .ok (.dup, 1) := by decide +kernel
theorem dX2_takeBack_66 : decode cX2_takeBack 66 = .ok (.getfield 95, 3) := by decide +kernel
theorem dX2_takeBack_69 : decode cX2_takeBack 69 = .ok (.iconst 1, 1) := by decide +kernel
theorem dX2_takeBack_70 : decode cX2_takeBack 70 = .ok (.isub, 1) := by decide +kernel
theorem dX2_takeBack_71 : decode cX2_takeBack 71 = .ok (.putfield 95, 3) := by decide +kernel
theorem dX2_takeBack_74 : decode cX2_takeBack 74 = .ok (.goto 28, 3) := by decide +kernel
theorem dX2_takeBack_77 : decode cX2_takeBack 77 = .ok (.aload_n 0, 1) := by decide +kernel
theorem dX2_takeBack_78 : decode cX2_takeBack 78 = .ok (.getfield 25, 3) := by decide +kernel
theorem dX2_takeBack_81 : decode cX2_takeBack 81 = .ok (.iload_n 2, 1) := by decide +kernel
theorem dX2_takeBack_82 : decode cX2_takeBack 82 = .ok (.iaload, 1) := by decide +kernel
theorem dX2_takeBack_83 : decode cX2_takeBack 83 = .ok (.iconst 3, 1) := by decide +kernel
theorem dX2_takeBack_84 : decode cX2_takeBack 84 = .ok (.if_icmp .ne 18, 3) := by decide +kernel
theorem dX2_takeBack_87 : decode cX2_takeBack 87 = .ok (.aload_n 0, 1) := by decide +kernel
theorem dX2_takeBack_88 : decode cX2_takeBack 88 = .ok (.getfield 12, 3) := by decide +kernel
theorem dX2_takeBack_91 : decode cX2_takeBack 91 = .ok (.getfield 67, 3) := by decide +kernel
theorem dX2_takeBack_94 : decode cX2_takeBack 94 = .ok (.aload_n 0, 1) := by decide +kernel
theorem dX2_takeBack_95 : decode cX2_takeBack 95 = .ok (.getfield 28, 3) := by decide +kernel
theorem dX2_takeBack_98 : decode cX2_takeBack 98 = .ok (.iload_n 2, 1) := by decide +kernel
theorem dX2_takeBack_99 : decode cX2_takeBack 99 = .ok (.iaload, 1) := by decide +kernel
theorem dX2_takeBack_100 : decode cX2_takeBack 100 = .ok (.iconst (-1), 1) := by decide +kernel
theorem dX2_takeBack_101 : decode cX2_takeBack 101 = .ok (.iastore, 1) := by decide +kernel
theorem dX2_takeBack_102 : decode cX2_takeBack 102 = .ok (.iload_n 1, 1) := by decide +kernel
theorem dX2_takeBack_103 : decode cX2_takeBack 103 = .ok (.ireturn, 1) := by decide +kernel
theorem dX3_init_0 : decode cX3_init 0 = .ok (.aload_n 0, 1) := by decide +kernel
theorem dX3_init_1 : decode cX3_init 1 = .ok (.invokespecial 3, 3) := by decide +kernel
theorem dX3_init_4 : decode cX3_init 4 = .ok (.aload_n 0, 1) := by decide +kernel
theorem dX3_init_5 : decode cX3_init 5 = .ok (.bipush 24, 2) := by decide +kernel
theorem dX3_init_7 : decode cX3_init 7 = .ok (.newarray .int, 2) := by decide +kernel
theorem dX3_init_9 : decode cX3_init 9 = .ok (.putfield 9, 3) := by decide +kernel
theorem dX3_init_12 : decode cX3_init 12 = .ok (.aload_n 0, 1) := by decide +kernel
theorem dX3_init_13 : decode cX3_init 13 = .ok (.bipush 24, 2) := by decide +kernel
theorem dX3_init_15 : decode cX3_init 15 = .ok (.newarray .int, 2) := by decide +kernel
theorem dX3_init_17 : decode cX3_init 17 = .ok (.putfield 15, 3) := by decide +kernel
theorem dX3_init_20 : decode cX3_init 20 = .ok (.aload_n 0, 1) := by decide +kernel
theorem dX3_init_21 : decode cX3_init 21 = .ok (.bipush 24, 2) := by decide +kernel
theorem dX3_init_23 : decode cX3_init 23 = .ok (.newarray .int, 2) := by decide +kernel
theorem dX3_init_25 : decode cX3_init 25 = .ok (.putfield 18, 3) := by decide +kernel
theorem dX3_init_28 : decode cX3_init 28 = .ok (.aload_n 0, 1) := by decide +kernel
theorem dX3_init_29 : decode cX3_init 29 = .ok (.bipush 24, 2) := by decide +kernel
theorem dX3_init_31 : decode cX3_init 31 = .ok (.newarray .int, 2) := by decide +kernel
theorem dX3_init_33 : decode cX3_init 33 = .ok (.putfield 21, 3) := by decide +kernel
theorem dX3_init_36 : decode cX3_init 36 = .ok (.return_, 1) := by decide +kernel
theorem dX3_has_0 : decode cX3_has 0 = .ok (.iload_n 1, 1) := by decide +kernel
theorem dX3_has_1 : decode cX3_has 1 = .ok (.ifCond .lt 15, 3) := by decide +kernel
theorem dX3_has_4 : decode cX3_has 4 = .ok (.iload_n 1, 1) := by decide +kernel
theorem dX3_has_5 : decode cX3_has 5 = .ok (.aload_n 0, 1) := by decide +kernel
theorem dX3_has_6 : decode cX3_has 6 = .ok (.getfield 24, 3) := by decide +kernel
theorem dX3_has_9 : decode cX3_has 9 = .ok (.if_icmp .ge 7, 3) := by decide +kernel
theorem dX3_has_12 : decode cX3_has 12 = .ok (.iconst 1, 1) := by decide +kernel
theorem dX3_has_13 : decode cX3_has 13 = .ok (.goto 4, 3) := by decide +kernel
theorem dX3_has_16 : decode cX3_has 16 = .ok (.iconst 0, 1) := by decide +kernel
theorem dX3_has_17 : decode cX3_has 17 = .ok (.ireturn, 1) := by decide +kernel
theorem dX3_write_0 : decode cX3_write 0 = .ok (.aload_n 0, 1) := by decide +kernel
theorem dX3_write_1 : decode cX3_write 1 = .ok (.getfield 24, 3) := by decide +kernel
theorem dX3_write_4 : decode cX3_write 4 = .ok (.istore 4, 2) := by decide +kernel
theorem dX3_write_6 : decode cX3_write 6 = .ok (.aload_n 0, 1) := by decide +kernel
theorem dX3_write_7 : decode cX3_write 7 = .ok (.getfield 9, 3) := by decide +kernel
theorem dX3_write_10 : decode cX3_write 10 = .ok (.iload 4, 2) := by decide +kernel
theorem dX3_write_12 : decode cX3_write 12 = .ok (.iload_n 1, 1) := by decide +kernel
theorem dX3_write_13 : decode cX3_write 13 = .ok (.iastore, 1) := by decide +kernel
theorem dX3_write_14 : decode cX3_write 14 = .ok (.aload_n 0, 1) := by decide +kernel
theorem dX3_write_15 : decode cX3_write 15 = .ok (.getfield 15, 3) := by decide +kernel
theorem dX3_write_18 : decode cX3_write 18 = .ok (.iload 4, 2) := by decide +kernel
theorem dX3_write_20 : decode cX3_write 20 = .ok (.iload_n 2, 1) := by decide +kernel
theorem dX3_write_21 : decode cX3_write 21 = .ok (.iastore, 1) := by decide +kernel
theorem dX3_write_22 : decode cX3_write 22 = .ok (.aload_n 0, 1) := by decide +kernel
theorem dX3_write_23 : decode cX3_write 23 = .ok (.getfield 18, 3) := by decide +kernel
theorem dX3_write_26 : decode cX3_write 26 = .ok (.iload 4, 2) := by decide +kernel
theorem dX3_write_28 : decode cX3_write 28 = .ok (.iload_n 3, 1) := by decide +kernel
theorem dX3_write_29 : decode cX3_write 29 = .ok (.iastore, 1) := by decide +kernel
theorem dX3_write_30 : decode cX3_write 30 = .ok (.aload_n 0, 1) := by decide +kernel
theorem dX3_write_31 : decode cX3_write 31 = .ok (.getfield 21, 3) := by decide +kernel
theorem dX3_write_34 : decode cX3_write 34 = .ok (.iload 4, 2) := by decide +kernel
theorem dX3_write_36 : decode cX3_write 36 = .ok (.iconst (-1), 1) := by decide +kernel
theorem dX3_write_37 : decode cX3_write 37 = .ok (.iastore, 1) := by decide +kernel
theorem dX3_write_38 : decode cX3_write 38 = .ok (.aload_n 0, 1) := by decide +kernel
theorem dX3_write_39 : decode cX3_write 39 = .ok (.dup, 1) := by decide +kernel
theorem dX3_write_40 : decode cX3_write 40 = .ok (.getfield 24, 3) := by decide +kernel
theorem dX3_write_43 : decode cX3_write 43 = .ok (.iconst 1, 1) := by decide +kernel
theorem dX3_write_44 : decode cX3_write 44 = .ok (.iadd, 1) := by decide +kernel
theorem dX3_write_45 : decode cX3_write 45 = .ok (.putfield 24, 3) := by decide +kernel
theorem dX3_write_48 : decode cX3_write 48 = .ok (.iload 4, 2) := by decide +kernel
theorem dX3_write_50 : decode cX3_write 50 = .ok (.ireturn, 1) := by decide +kernel
theorem dX3_howManyUntaken_0 : decode cX3_howManyUntaken 0 = .ok (.iconst 0, 1) := by decide +kernel
theorem dX3_howManyUntaken_1 : decode cX3_howManyUntaken 1 = .ok (.istore_n 1, 1) := by decide +kernel
theorem dX3_howManyUntaken_2 : decode cX3_howManyUntaken 2 = .ok (.iconst 0, 1) := by decide +kernel
theorem dX3_howManyUntaken_3 : decode cX3_howManyUntaken 3 = .ok (.istore_n 2, 1) := by decide +kernel
theorem dX3_howManyUntaken_4 : decode cX3_howManyUntaken 4 = .ok (.iload_n 2, 1) := by decide +kernel
theorem dX3_howManyUntaken_5 : decode cX3_howManyUntaken 5 = .ok (.aload_n 0, 1) := by decide +kernel
theorem dX3_howManyUntaken_6 : decode cX3_howManyUntaken 6 = .ok (.getfield 24, 3) := by decide +kernel
theorem dX3_howManyUntaken_9 : decode cX3_howManyUntaken 9 = .ok (.if_icmp .ge 22, 3) := by decide +kernel
theorem dX3_howManyUntaken_12 : decode cX3_howManyUntaken 12 = .ok (.aload_n 0, 1) := by decide +kernel
theorem dX3_howManyUntaken_13 : decode cX3_howManyUntaken 13 = .ok (.getfield 21, 3) := by decide +kernel
theorem dX3_howManyUntaken_16 : decode cX3_howManyUntaken 16 = .ok (.iload_n 2, 1) := by decide +kernel
theorem dX3_howManyUntaken_17 : decode cX3_howManyUntaken 17 = .ok (.iaload, 1) := by decide +kernel
theorem dX3_howManyUntaken_18 : decode cX3_howManyUntaken 18 = .ok (.iconst (-1), 1) := by decide +kernel
theorem dX3_howManyUntaken_19 : decode cX3_howManyUntaken 19 = .ok (.if_icmp .ne 6, 3) := by decide +kernel
theorem dX3_howManyUntaken_22 : decode cX3_howManyUntaken 22 = .ok (.iinc 1 1, 3) := by decide +kernel
theorem dX3_howManyUntaken_25 : decode cX3_howManyUntaken 25 = .ok (.iinc 2 1, 3) := by decide +kernel
theorem dX3_howManyUntaken_28 : decode cX3_howManyUntaken 28 = .ok (.goto (-24), 3) := by decide +kernel
theorem dX3_howManyUntaken_31 : decode cX3_howManyUntaken 31 = .ok (.iload_n 1, 1) := by decide +kernel
theorem dX3_howManyUntaken_32 : decode cX3_howManyUntaken 32 = .ok (.ireturn, 1) := by decide +kernel
theorem dX4_init_0 : decode cX4_init 0 = .ok (.aload_n 0, 1) := by decide +kernel
theorem dX4_init_1 : decode cX4_init 1 = .ok (.invokespecial 3, 3) := by decide +kernel
theorem dX4_init_4 : decode cX4_init 4 = .ok (.aload_n 0, 1) := by decide +kernel
theorem dX4_init_5 : decode cX4_init 5 = .ok (.sipush 2401, 3) := by decide +kernel
theorem dX4_init_8 : decode cX4_init 8 = .ok (.newarray .boolean, 2) := by decide +kernel
theorem dX4_init_10 : decode cX4_init 10 = .ok (.putfield 9, 3) := by decide +kernel
theorem dX4_init_13 : decode cX4_init 13 = .ok (.aload_n 0, 1) := by decide +kernel
theorem dX4_init_14 : decode cX4_init 14 = .ok (.sipush 2401, 3) := by decide +kernel
theorem dX4_init_17 : decode cX4_init 17 = .ok (.newarray .int, 2) := by decide +kernel
theorem dX4_init_19 : decode cX4_init 19 = .ok (.putfield 15, 3) := by decide +kernel
theorem dX4_init_22 : decode cX4_init 22 = .ok (.aload_n 0, 1) := by decide +kernel
theorem dX4_init_23 : decode cX4_init 23 = .ok (.aload_n 1, 1) := by decide +kernel
theorem dX4_init_24 : decode cX4_init 24 = .ok (.putfield 19, 3) := by decide +kernel
theorem dX4_init_27 : decode cX4_init 27 = .ok (.return_, 1) := by decide +kernel
theorem dX4_wipe_0 : decode cX4_wipe 0 = .ok (.iconst 0, 1) := by decide +kernel
theorem dX4_wipe_1 : decode cX4_wipe 1 = .ok (.istore_n 2, 1) := by decide +kernel
theorem dX4_wipe_2 : decode cX4_wipe 2 = .ok (.iload_n 2, 1) := by decide +kernel
theorem dX4_wipe_3 : decode cX4_wipe 3 = .ok (.aload_n 1, 1) := by decide +kernel
theorem dX4_wipe_4 : decode cX4_wipe 4 = .ok (.getfield 23, 3) := by decide +kernel
theorem dX4_wipe_7 : decode cX4_wipe 7 = .ok (.if_icmp .ge 21, 3) := by decide +kernel
theorem dX4_wipe_10 : decode cX4_wipe 10 = .ok (.aload_n 0, 1) := by decide +kernel
theorem dX4_wipe_11 : decode cX4_wipe 11 = .ok (.getfield 9, 3) := by decide +kernel
theorem dX4_wipe_14 : decode cX4_wipe 14 = .ok (.aload_n 1, 1) := by decide +kernel
theorem dX4_wipe_15 : decode cX4_wipe 15 = .ok (.getfield 29, 3) := by decide +kernel
theorem dX4_wipe_18 : decode cX4_wipe 18 = .ok (.iload_n 2, 1) := by decide +kernel
theorem dX4_wipe_19 : decode cX4_wipe 19 = .ok (.iaload, 1) := by decide +kernel
theorem dX4_wipe_20 : decode cX4_wipe 20 = .ok (.iconst 0, 1) := by decide +kernel
theorem dX4_wipe_21 : decode cX4_wipe 21 = .ok (.bastore, 1) := by decide +kernel
theorem dX4_wipe_22 : decode cX4_wipe 22 = .ok (.iinc 2 1, 3) := by decide +kernel
theorem dX4_wipe_25 : decode cX4_wipe 25 = .ok (.goto (-23), 3) := by decide +kernel
theorem dX4_wipe_28 : decode cX4_wipe 28 = .ok (.return_, 1) := by decide +kernel
theorem dX4_set_0 : decode cX4_set 0 = .ok (.iconst 0, 1) := by decide +kernel
theorem dX4_set_1 : decode cX4_set 1 = .ok (.istore_n 3, 1) := by decide +kernel
theorem dX4_set_2 : decode cX4_set 2 = .ok (.iload_n 3, 1) := by decide +kernel
theorem dX4_set_3 : decode cX4_set 3 = .ok (.aload_n 1, 1) := by decide +kernel
theorem dX4_set_4 : decode cX4_set 4 = .ok (.getfield 23, 3) := by decide +kernel
theorem dX4_set_7 : decode cX4_set 7 = .ok (.if_icmp .ge 42, 3) := by decide +kernel
theorem dX4_set_10 : decode cX4_set 10 = .ok (.aload_n 1, 1) := by decide +kernel
theorem dX4_set_11 : decode cX4_set 11 = .ok (.getfield 29, 3) := by decide +kernel
theorem dX4_set_14 : decode cX4_set 14 = .ok (.iload_n 3, 1) := by decide +kernel
theorem dX4_set_15 : decode cX4_set 15 = .ok (.iaload, 1) := by decide +kernel
theorem dX4_set_16 : decode cX4_set 16 = .ok (.istore 4, 2) := by decide +kernel
theorem dX4_set_18 : decode cX4_set 18 = .ok (.aload_n 0, 1) := by decide +kernel
theorem dX4_set_19 : decode cX4_set 19 = .ok (.getfield 9, 3) := by decide +kernel
theorem dX4_set_22 : decode cX4_set 22 = .ok (.iload 4, 2) := by decide +kernel
theorem dX4_set_24 : decode cX4_set 24 = .ok (.aload_n 0, 1) := by decide +kernel
theorem dX4_set_25 : decode cX4_set 25 = .ok (.getfield 19, 3) := by decide +kernel
theorem dX4_set_28 : decode cX4_set 28 = .ok (.aload_n 2, 1) := by decide +kernel
theorem dX4_set_29 : decode cX4_set 29 = .ok (.iload 4, 2) := by decide +kernel
theorem dX4_set_31 : decode cX4_set 31 = .ok (.invokevirtual 32, 3) := by decide +kernel
theorem dX4_set_34 : decode cX4_set 34 = .ok (.ifCond .eq 7, 3) := by decide +kernel
theorem dX4_set_37 : decode cX4_set 37 = .ok (.iconst 1, 1) := by decide +kernel
theorem dX4_set_38 : decode cX4_set 38 = .ok (.goto 4, 3) := by decide +kernel
theorem dX4_set_41 : decode cX4_set 41 = .ok (.iconst 0, 1) := by decide +kernel
theorem dX4_set_42 : decode cX4_set 42 = .ok (.bastore, 1) := by decide +kernel
theorem dX4_set_43 : decode cX4_set 43 = .ok (.iinc 3 1, 3) := by decide +kernel
theorem dX4_set_46 : decode cX4_set 46 = .ok (.goto (-44), 3) := by decide +kernel
theorem dX4_set_49 : decode cX4_set 49 = .ok (.return_, 1) := by decide +kernel
theorem dX4_areKept_0 : decode cX4_areKept 0 = .ok (.iconst 0, 1) := by decide +kernel
theorem dX4_areKept_1 : decode cX4_areKept 1 = .ok (.istore_n 2, 1) := by decide +kernel
theorem dX4_areKept_2 : decode cX4_areKept 2 = .ok (.iload_n 2, 1) := by decide +kernel
theorem dX4_areKept_3 : decode cX4_areKept 3 = .ok (.aload_n 1, 1) := by decide +kernel
theorem dX4_areKept_4 : decode cX4_areKept 4 = .ok (.getfield 23, 3) := by decide +kernel
theorem dX4_areKept_7 : decode cX4_areKept 7 = .ok (.if_icmp .ge 67, 3) := by decide +kernel
theorem dX4_areKept_10 : decode cX4_areKept 10 = .ok (.aload_n 1, 1) := by decide +kernel
theorem dX4_areKept_11 : decode cX4_areKept 11 = .ok (.getfield 29, 3) := by decide +kernel
theorem dX4_areKept_14 : decode cX4_areKept 14 = .ok (.iload_n 2, 1) := by decide +kernel
theorem dX4_areKept_15 : decode cX4_areKept 15 = .ok (.iaload, 1) := by decide +kernel
theorem dX4_areKept_16 : decode cX4_areKept 16 = .ok (.istore_n 3, 1) := by decide +kernel
theorem dX4_areKept_17 : decode cX4_areKept 17 = .ok (.iconst 0, 1) := by decide +kernel
theorem dX4_areKept_18 : decode cX4_areKept 18 = .ok (.istore 4, 2) := by decide +kernel
theorem dX4_areKept_20 : decode cX4_areKept 20 = .ok (.iload 4, 2) := by decide +kernel
theorem dX4_areKept_22 : decode cX4_areKept 22 = .ok (.iconst 4, 1) := by decide +kernel
theorem dX4_areKept_23 : decode cX4_areKept 23 = .ok (.if_icmp .ge 45, 3) := by decide +kernel
theorem dX4_areKept_26 : decode cX4_areKept 26 = .ok (.aload_n 0, 1) := by decide +kernel
theorem dX4_areKept_27 : decode cX4_areKept 27 = .ok (.getfield 9, 3) := by decide +kernel
theorem dX4_areKept_30 : decode cX4_areKept 30 = .ok (.iload_n 3, 1) := by decide +kernel
theorem dX4_areKept_31 : decode cX4_areKept 31 = .ok (.baload, 1) := by decide +kernel
theorem dX4_areKept_32 : decode cX4_areKept 32 = .ok (.ifCond .eq 36, 3) := by decide +kernel
theorem dX4_areKept_35 : decode cX4_areKept 35 = .ok (.aload_n 1, 1) := by decide +kernel
theorem dX4_areKept_36 : decode cX4_areKept 36 = .ok (.iload_n 3, 1) := by decide +kernel
theorem dX4_areKept_37 : decode cX4_areKept 37 = .ok (.iload 4, 2) := by decide +kernel
theorem dX4_areKept_39 : decode cX4_areKept 39 = .ok (.invokevirtual 38, 3) := by decide +kernel
theorem dX4_areKept_42 : decode cX4_areKept 42 = .ok (.istore 5, 2) := by decide +kernel
theorem dX4_areKept_44 : decode cX4_areKept 44 = .ok (.iload 5, 2) := by decide +kernel
theorem dX4_areKept_46 : decode cX4_areKept 46 = .ok (.iconst (-1), 1) := by decide +kernel
theorem dX4_areKept_47 : decode cX4_areKept 47 = .ok (.if_icmp .eq 15, 3) := by decide +kernel
theorem dX4_areKept_50 : decode cX4_areKept 50 = .ok (.aload_n 0, 1) := by decide +kernel
theorem dX4_areKept_51 : decode cX4_areKept 51 = .ok (.getfield 9, 3) := by decide +kernel
theorem dX4_areKept_54 : decode cX4_areKept 54 = .ok (.iload 5, 2) := by decide +kernel
theorem dX4_areKept_56 : decode cX4_areKept 56 = .ok (.baload, 1) := by decide +kernel
theorem dX4_areKept_57 : decode cX4_areKept 57 = .ok (.ifCond .ne 5, 3) := by decide +kernel
theorem dX4_areKept_60 : decode cX4_areKept 60 = .ok (.iconst 0, 1) := by decide +kernel
theorem dX4_areKept_61 : decode cX4_areKept 61 = .ok (.ireturn, 1) := by decide +kernel
theorem dX4_areKept_62 : decode cX4_areKept 62 = .ok (.iinc 4 1, 3) := by decide +kernel
theorem dX4_areKept_65 : decode cX4_areKept 65 = .ok (.goto (-45), 3) := by decide +kernel
theorem dX4_areKept_68 : decode cX4_areKept 68 = .ok (.iinc 2 1, 3) := by decide +kernel
theorem dX4_areKept_71 : decode cX4_areKept 71 = .ok (.goto (-69), 3) := by decide +kernel
theorem dX4_areKept_74 : decode cX4_areKept 74 = .ok (.iconst 1, 1) := by decide +kernel
theorem dX4_areKept_75 : decode cX4_areKept 75 = .ok (.ireturn, 1) := by decide +kernel
theorem dX4_areMet_0 : decode cX4_areMet 0 = .ok (.aload_n 1, 1) := by decide +kernel
theorem dX4_areMet_1 : decode cX4_areMet 1 = .ok (.getfield 23, 3) := by decide +kernel
theorem dX4_areMet_4 : decode cX4_areMet 4 = .ok (.iconst 1, 1) := by decide +kernel
theorem dX4_areMet_5 : decode cX4_areMet 5 = .ok (.isub, 1) := by decide +kernel
theorem dX4_areMet_6 : decode cX4_areMet 6 = .ok (.istore_n 2, 1) := by decide +kernel
theorem dX4_areMet_7 : decode cX4_areMet 7 = .ok (.iload_n 2, 1) := by decide +kernel
theorem dX4_areMet_8 : decode cX4_areMet 8 = .ok (.ifCond .lt 63, 3) := by decide +kernel
theorem dX4_areMet_11 : decode cX4_areMet 11 = .ok (.aload_n 1, 1) := by decide +kernel
theorem dX4_areMet_12 : decode cX4_areMet 12 = .ok (.getfield 29, 3) := by decide +kernel
theorem dX4_areMet_15 : decode cX4_areMet 15 = .ok (.iload_n 2, 1) := by decide +kernel
theorem dX4_areMet_16 : decode cX4_areMet 16 = .ok (.iaload, 1) := by decide +kernel
theorem dX4_areMet_17 : decode cX4_areMet 17 = .ok (.istore_n 3, 1) := by decide +kernel
theorem dX4_areMet_18 : decode cX4_areMet 18 = .ok (.aload_n 0, 1) := by decide +kernel
theorem dX4_areMet_19 : decode cX4_areMet 19 = .ok (.getfield 15, 3) := by decide +kernel
theorem dX4_areMet_22 : decode cX4_areMet 22 = .ok (.iload_n 3, 1) := by decide +kernel
theorem dX4_areMet_23 : decode cX4_areMet 23 = .ok (.aload_n 0, 1) := by decide +kernel
theorem dX4_areMet_24 : decode cX4_areMet 24 = .ok (.getfield 9, 3) := by decide +kernel
theorem dX4_areMet_27 : decode cX4_areMet 27 = .ok (.iload_n 3, 1) := by decide +kernel
theorem dX4_areMet_28 : decode cX4_areMet 28 = .ok (.baload, 1) := by decide +kernel
theorem dX4_areMet_29 : decode cX4_areMet 29 = .ok (.ifCond .eq 7, 3) := by decide +kernel
theorem dX4_areMet_32 : decode cX4_areMet 32 = .ok (.iload_n 3, 1) := by decide +kernel
theorem dX4_areMet_33 : decode cX4_areMet 33 = .ok (.goto 10, 3) := by decide +kernel
theorem dX4_areMet_36 : decode cX4_areMet 36 = .ok (.aload_n 0, 1) := by decide +kernel
theorem dX4_areMet_37 : decode cX4_areMet 37 = .ok (.aload_n 1, 1) := by decide +kernel
theorem dX4_areMet_38 : decode cX4_areMet 38 = .ok (.iload_n 3, 1) := by decide +kernel
theorem dX4_areMet_39 : decode cX4_areMet 39 = .ok (.iconst 1, 1) := by decide +kernel
theorem dX4_areMet_40 : decode cX4_areMet 40 = .ok (.invokevirtual 42, 3) := by decide +kernel
theorem dX4_areMet_43 : decode cX4_areMet 43 = .ok (.iastore, 1) := by decide +kernel
theorem dX4_areMet_44 : decode cX4_areMet 44 = .ok (.aload_n 0, 1) := by decide +kernel
theorem dX4_areMet_45 : decode cX4_areMet 45 = .ok (.getfield 15, 3) := by decide +kernel
theorem dX4_areMet_48 : decode cX4_areMet 48 = .ok (.iload_n 3, 1) := by decide +kernel
theorem dX4_areMet_49 : decode cX4_areMet 49 = .ok (.iaload, 1) := by decide +kernel
theorem dX4_areMet_50 : decode cX4_areMet 50 = .ok (.iload_n 3, 1) := by decide +kernel
theorem dX4_areMet_51 : decode cX4_areMet 51 = .ok (.if_icmp .ne 14, 3) := by decide +kernel
theorem dX4_areMet_54 : decode cX4_areMet 54 = .ok (.aload_n 0, 1) := by decide +kernel
theorem dX4_areMet_55 : decode cX4_areMet 55 = .ok (.getfield 9, 3) := by decide +kernel
theorem dX4_areMet_58 : decode cX4_areMet 58 = .ok (.iload_n 3, 1) := by decide +kernel
theorem dX4_areMet_59 : decode cX4_areMet 59 = .ok (.baload, 1) := by decide +kernel
theorem dX4_areMet_60 : decode cX4_areMet 60 = .ok (.ifCond .ne 5, 3) := by decide +kernel
theorem dX4_areMet_63 : decode cX4_areMet 63 = .ok (.iconst 0, 1) := by decide +kernel
theorem dX4_areMet_64 : decode cX4_areMet 64 = .ok (.ireturn, 1) := by decide +kernel
theorem dX4_areMet_65 : decode cX4_areMet 65 = .ok (.iinc 2 (-1), 3) := by decide +kernel
theorem dX4_areMet_68 : decode cX4_areMet 68 = .ok (.goto (-61), 3) := by decide +kernel
theorem dX4_areMet_71 : decode cX4_areMet 71 = .ok (.iconst 1, 1) := by decide +kernel
theorem dX4_areMet_72 : decode cX4_areMet 72 = .ok (.ireturn, 1) := by decide +kernel
theorem dX4_areJoined_0 : decode cX4_areJoined 0 = .ok (.iconst 0, 1) := by decide +kernel
theorem dX4_areJoined_1 : decode cX4_areJoined 1 = .ok (.istore_n 2, 1) := by decide +kernel
theorem dX4_areJoined_2 : decode cX4_areJoined 2 = .ok (.iload_n 2, 1) := by decide +kernel
theorem dX4_areJoined_3 : decode cX4_areJoined 3 = .ok (.aload_n 1, 1) := by decide +kernel
theorem dX4_areJoined_4 : decode cX4_areJoined 4 = .ok (.getfield 23, 3) := by decide +kernel
theorem dX4_areJoined_7 : decode cX4_areJoined 7 = .ok (.if_icmp .ge 63, 3) := by decide +kernel
theorem dX4_areJoined_10 : decode cX4_areJoined 10 = .ok (.aload_n 1, 1) := by decide +kernel
theorem dX4_areJoined_11 : decode cX4_areJoined 11 = .ok (.getfield 29, 3) := by decide +kernel
theorem dX4_areJoined_14 : decode cX4_areJoined 14 = .ok (.iload_n 2, 1) := by decide +kernel
theorem dX4_areJoined_15 : decode cX4_areJoined 15 = .ok (.iaload, 1) := by decide +kernel
theorem dX4_areJoined_16 : decode cX4_areJoined 16 = .ok (.istore_n 3, 1) := by decide +kernel
theorem dX4_areJoined_17 : decode cX4_areJoined 17 = .ok (.aload_n 0, 1) := by decide +kernel
theorem dX4_areJoined_18 : decode cX4_areJoined 18 = .ok (.getfield 15, 3) := by decide +kernel
theorem dX4_areJoined_21 : decode cX4_areJoined 21 = .ok (.iload_n 3, 1) := by decide +kernel
theorem dX4_areJoined_22 : decode cX4_areJoined 22 = .ok (.aload_n 0, 1) := by decide +kernel
theorem dX4_areJoined_23 : decode cX4_areJoined 23 = .ok (.getfield 9, 3) := by decide +kernel
theorem dX4_areJoined_26 : decode cX4_areJoined 26 = .ok (.iload_n 3, 1) := by decide +kernel
theorem dX4_areJoined_27 : decode cX4_areJoined 27 = .ok (.baload, 1) := by decide +kernel
theorem dX4_areJoined_28 : decode cX4_areJoined 28 = .ok (.ifCond .eq 7, 3) := by decide +kernel
theorem dX4_areJoined_31 : decode cX4_areJoined 31 = .ok (.iload_n 3, 1) := by decide +kernel
theorem dX4_areJoined_32 : decode cX4_areJoined 32 = .ok (.goto 10, 3) := by decide +kernel
theorem dX4_areJoined_35 : decode cX4_areJoined 35 = .ok (.aload_n 0, 1) := by decide +kernel
theorem dX4_areJoined_36 : decode cX4_areJoined 36 = .ok (.aload_n 1, 1) := by decide +kernel
theorem dX4_areJoined_37 : decode cX4_areJoined 37 = .ok (.iload_n 3, 1) := by decide +kernel
theorem dX4_areJoined_38 : decode cX4_areJoined 38 = .ok (.iconst 0, 1) := by decide +kernel
theorem dX4_areJoined_39 : decode cX4_areJoined 39 = .ok (.invokevirtual 42, 3) := by decide +kernel
theorem dX4_areJoined_42 : decode cX4_areJoined 42 = .ok (.iastore, 1) := by decide +kernel
theorem dX4_areJoined_43 : decode cX4_areJoined 43 = .ok (.aload_n 0, 1) := by decide +kernel
theorem dX4_areJoined_44 : decode cX4_areJoined 44 = .ok (.getfield 15, 3) := by decide +kernel
theorem dX4_areJoined_47 : decode cX4_areJoined 47 = .ok (.iload_n 3, 1) := by decide +kernel
theorem dX4_areJoined_48 : decode cX4_areJoined 48 = .ok (.iaload, 1) := by decide +kernel
theorem dX4_areJoined_49 : decode cX4_areJoined 49 = .ok (.iload_n 3, 1) := by decide +kernel
theorem dX4_areJoined_50 : decode cX4_areJoined 50 = .ok (.if_icmp .ne 14, 3) := by decide +kernel
theorem dX4_areJoined_53 : decode cX4_areJoined 53 = .ok (.aload_n 0, 1) := by decide +kernel
theorem dX4_areJoined_54 : decode cX4_areJoined 54 = .ok (.getfield 9, 3) := by decide +kernel
theorem dX4_areJoined_57 : decode cX4_areJoined 57 = .ok (.iload_n 3, 1) := by decide +kernel
theorem dX4_areJoined_58 : decode cX4_areJoined 58 = .ok (.baload, 1) := by decide +kernel
theorem dX4_areJoined_59 : decode cX4_areJoined 59 = .ok (.ifCond .ne 5, 3) := by decide +kernel
theorem dX4_areJoined_62 : decode cX4_areJoined 62 = .ok (.iconst 0, 1) := by decide +kernel
theorem dX4_areJoined_63 : decode cX4_areJoined 63 = .ok (.ireturn, 1) := by decide +kernel
theorem dX4_areJoined_64 : decode cX4_areJoined 64 = .ok (.iinc 2 1, 3) := by decide +kernel
theorem dX4_areJoined_67 : decode cX4_areJoined 67 = .ok (.goto (-65), 3) := by decide +kernel
theorem dX4_areJoined_70 : decode cX4_areJoined 70 = .ok (.iconst 1, 1) := by decide +kernel
theorem dX4_areJoined_71 : decode cX4_areJoined 71 = .ok (.ireturn, 1) := by decide +kernel
theorem dX4_nearestBeyond_0 : decode cX4_nearestBeyond 0 = .ok (.iconst (-1), 1) := by decide +kernel
theorem dX4_nearestBeyond_1 : decode cX4_nearestBeyond 1 = .ok (.istore 4, 2) := by decide +kernel
theorem dX4_nearestBeyond_3 : decode cX4_nearestBeyond 3 = .ok (.iconst 0, 1) := by decide +kernel
theorem dX4_nearestBeyond_4 : decode cX4_nearestBeyond 4 = .ok (.istore 5, 2) := by decide +kernel
theorem dX4_nearestBeyond_6 : decode cX4_nearestBeyond 6 = .ok (.iload 5, 2) := by decide +kernel
theorem dX4_nearestBeyond_8 : decode cX4_nearestBeyond 8 = .ok (.iconst 4, 1) := by decide +kernel
theorem dX4_nearestBeyond_9 : decode cX4_nearestBeyond 9 = .ok (.if_icmp .ge 78, 3) := by decide +kernel
theorem dX4_nearestBeyond_12 : decode cX4_nearestBeyond 12 = .ok (.iload_n 3, 1) := by decide +kernel
theorem dX4_nearestBeyond_13 : decode cX4_nearestBeyond 13 = .ok (.ifCond .eq 13, 3) := by decide +kernel
theorem dX4_nearestBeyond_16 : decode cX4_nearestBeyond 16 = .ok (.aload_n 1, 1) := by decide +kernel
theorem dX4_nearestBeyond_17 : decode cX4_nearestBeyond 17 = .ok (.iload_n 2, 1) := by decide +kernel
theorem dX4_nearestBeyond_18 : decode cX4_nearestBeyond 18 = .ok (.iload 5, 2) := by decide +kernel
theorem dX4_nearestBeyond_20 : decode cX4_nearestBeyond 20 = .ok (.invokevirtual 38, 3) := by decide +kernel
theorem dX4_nearestBeyond_23 : decode cX4_nearestBeyond 23 = .ok (.goto 10, 3) := by decide +kernel
theorem dX4_nearestBeyond_26 : decode cX4_nearestBeyond 26 = .ok (.aload_n 1, 1) := by decide +kernel
theorem dX4_nearestBeyond_27 : decode cX4_nearestBeyond 27 = .ok (.iload_n 2, 1) := by decide +kernel
theorem dX4_nearestBeyond_28 : decode cX4_nearestBeyond 28 = .ok (.iload 5, 2) := by decide +kernel
theorem dX4_nearestBeyond_30 : decode cX4_nearestBeyond 30 = .ok (.invokevirtual 46, 3) := by decide +kernel
theorem dX4_nearestBeyond_33 : decode cX4_nearestBeyond 33 = .ok (.istore 6, 2) := by decide +kernel
theorem dX4_nearestBeyond_35 : decode cX4_nearestBeyond 35 = .ok (.iload 6, 2) := by decide +kernel
theorem dX4_nearestBeyond_37 : decode cX4_nearestBeyond 37 = .ok (.iconst (-1), 1) := by decide +kernel
theorem dX4_nearestBeyond_38 : decode cX4_nearestBeyond 38 = .ok (.if_icmp .ne 7, 3) := by decide +kernel
theorem dX4_nearestBeyond_41 : decode cX4_nearestBeyond 41 = .ok (.iconst (-1), 1) := by decide +kernel
theorem dX4_nearestBeyond_42 : decode cX4_nearestBeyond 42 = .ok (.goto 10, 3) := by decide +kernel
theorem dX4_nearestBeyond_45 : decode cX4_nearestBeyond 45 = .ok (.aload_n 0, 1) := by decide +kernel
theorem dX4_nearestBeyond_46 : decode cX4_nearestBeyond 46 = .ok (.getfield 15, 3) := by decide +kernel
theorem dX4_nearestBeyond_49 : decode cX4_nearestBeyond 49 = .ok (.iload 6, 2) := by decide +kernel
theorem dX4_nearestBeyond_51 : decode cX4_nearestBeyond 51 = .ok (.iaload, 1) := by decide +kernel
theorem dX4_nearestBeyond_52 : decode cX4_nearestBeyond 52 = .ok (.istore 7, 2) := by decide +kernel
theorem dX4_nearestBeyond_54 : decode cX4_nearestBeyond 54 = .ok (.iload 7, 2) := by decide +kernel
theorem dX4_nearestBeyond_56 : decode cX4_nearestBeyond 56 = .ok (.iconst (-1), 1) := by decide +kernel
theorem dX4_nearestBeyond_57 : decode cX4_nearestBeyond 57 = .ok (.if_icmp .eq 24, 3) := by decide +kernel
theorem dX4_nearestBeyond_60 : decode cX4_nearestBeyond 60 = .ok (.iload 4, 2) := by decide +kernel
theorem dX4_nearestBeyond_62 : decode cX4_nearestBeyond 62 = .ok (.iconst (-1), 1) := by decide +kernel
theorem dX4_nearestBeyond_63 : decode cX4_nearestBeyond 63 = .ok (.if_icmp .ne 8, 3) := by decide +kernel
theorem dX4_nearestBeyond_66 : decode cX4_nearestBeyond 66 = .ok (.iload 7, 2) := by decide +kernel
theorem dX4_nearestBeyond_68 : decode cX4_nearestBeyond 68 = .ok (.goto 11, 3) := by decide +kernel
theorem dX4_nearestBeyond_71 : decode cX4_nearestBeyond 71 = .ok (.iload 4, 2) := by decide +kernel
theorem dX4_nearestBeyond_73 : decode cX4_nearestBeyond 73 = .ok (.iload 7, 2) := by decide +kernel
theorem dX4_nearestBeyond_75 : decode cX4_nearestBeyond 75 = .ok (.iload_n 3, 1) := by decide +kernel
theorem dX4_nearestBeyond_76 : decode cX4_nearestBeyond 76 = .ok (.invokestatic 49, 3) := by decide +kernel
theorem dX4_nearestBeyond_79 : decode cX4_nearestBeyond 79 = .ok (.istore 4, 2) := by decide +kernel
theorem dX4_nearestBeyond_81 : decode cX4_nearestBeyond 81 = .ok (.iinc 5 1, 3) := by decide +kernel
theorem dX4_nearestBeyond_84 : decode cX4_nearestBeyond 84 = .ok (.goto (-78), 3) := by decide +kernel
theorem dX4_nearestBeyond_87 : decode cX4_nearestBeyond 87 = .ok (.iload 4, 2) := by decide +kernel
theorem dX4_nearestBeyond_89 : decode cX4_nearestBeyond 89 = .ok (.ireturn, 1) := by decide +kernel
theorem dX5_init_0 : decode cX5_init 0 = .ok (.aload_n 0, 1) := by decide +kernel
theorem dX5_init_1 : decode cX5_init 1 = .ok (.invokespecial 3, 3) := by decide +kernel
theorem dX5_init_4 : decode cX5_init 4 = .ok (.aload_n 0, 1) := by decide +kernel
theorem dX5_init_5 : decode cX5_init 5 = .ok (.iconst 4, 1) := by decide +kernel
theorem dX5_init_6 : decode cX5_init 6 = .ok (.newarray .int, 2) := by decide +kernel
theorem dX5_init_8 : decode cX5_init 8 = .ok (.putfield 9, 3) := by decide +kernel
theorem dX5_init_11 : decode cX5_init 11 = .ok (.aload_n 0, 1) := by decide +kernel
theorem dX5_init_12 : decode cX5_init 12 = .ok (.bipush 6, 2) := by decide +kernel
theorem dX5_init_14 : decode cX5_init 14 = .ok (.newarray .int, 2) := by decide +kernel
theorem dX5_init_16 : decode cX5_init 16 = .ok (.putfield 15, 3) := by decide +kernel
theorem dX5_init_19 : decode cX5_init 19 = .ok (.aload_n 0, 1) := by decide +kernel
theorem dX5_init_20 : decode cX5_init 20 = .ok (.aload_n 1, 1) := by decide +kernel
theorem dX5_init_21 : decode cX5_init 21 = .ok (.putfield 18, 3) := by decide +kernel
theorem dX5_init_24 : decode cX5_init 24 = .ok (.return_, 1) := by decide +kernel
theorem dX5_worth_0 : decode cX5_worth 0 = .ok (.iconst 0, 1) := by decide +kernel
theorem dX5_worth_1 : decode cX5_worth 1 = .ok (.istore_n 3, 1) := by decide +kernel
theorem dX5_worth_2 : decode cX5_worth 2 = .ok (.iload_n 3, 1) := by decide +kernel
theorem dX5_worth_3 : decode cX5_worth 3 = .ok (.iconst 4, 1) := by decide +kernel
theorem dX5_worth_4 : decode cX5_worth 4 = .ok (.if_icmp .ge 20, 3) := by decide +kernel
theorem dX5_worth_7 : decode cX5_worth 7 = .ok (.aload_n 0, 1) := by decide +kernel
theorem dX5_worth_8 : decode cX5_worth 8 = .ok (.getfield 9, 3) := by decide +kernel
theorem dX5_worth_11 : decode cX5_worth 11 = .ok (.iload_n 3, 1) := by decide +kernel
theorem dX5_worth_12 : decode cX5_worth 12 = .ok (.iload_n 2, 1) := by decide +kernel
theorem dX5_worth_13 : decode cX5_worth 13 = .ok (.iload_n 3, 1) := by decide +kernel
theorem dX5_worth_14 : decode cX5_worth 14 = .ok (.invokestatic 22, 3) := by decide +kernel
theorem dX5_worth_17 : decode cX5_worth 17 = .ok (.iastore, 1) := by decide +kernel
theorem dX5_worth_18 : decode cX5_worth 18 = .ok (.iinc 3 1, 3) := by decide +kernel
theorem dX5_worth_21 : decode cX5_worth 21 = .ok (.goto (-19), 3) := by decide +kernel
theorem dX5_worth_24 : decode cX5_worth 24 = .ok (.iconst 0, 1) := by decide +kernel
theorem dX5_worth_25 : decode cX5_worth 25 = .ok (.istore_n 3, 1) := by decide +kernel
theorem dX5_worth_26 : decode cX5_worth 26 = .ok (.iconst 0, 1) := by decide +kernel
theorem dX5_worth_27 : decode cX5_worth 27 = .ok (.istore 4, 2) := by decide +kernel
theorem dX5_worth_29 : decode cX5_worth 29 = .ok (.iload 4, 2) := by decide +kernel
theorem dX5_worth_31 : decode cX5_worth 31 = .ok (.aload_n 1, 1) := by decide +kernel
theorem dX5_worth_32 : decode cX5_worth 32 = .ok (.getfield 28, 3) := by decide +kernel
theorem dX5_worth_35 : decode cX5_worth 35 = .ok (.if_icmp .ge 100, 3) := by decide +kernel
theorem dX5_worth_38 : decode cX5_worth 38 = .ok (.aload_n 1, 1) := by decide +kernel
theorem dX5_worth_39 : decode cX5_worth 39 = .ok (.getfield 34, 3) := by decide +kernel
theorem dX5_worth_42 : decode cX5_worth 42 = .ok (.iload 4, 2) := by decide +kernel
theorem dX5_worth_44 : decode cX5_worth 44 = .ok (.iaload, 1) := by decide +kernel
theorem dX5_worth_45 : decode cX5_worth 45 = .ok (.istore 5, 2) := by decide +kernel
theorem dX5_worth_47 : decode cX5_worth 47 = .ok (.iload_n 3, 1) := by decide +kernel
theorem dX5_worth_48 : decode cX5_worth 48 = .ok (.iconst 1, 1) := by decide +kernel
theorem dX5_worth_49 : decode cX5_worth 49 = .ok (.iload 5, 2) := by decide +kernel
theorem dX5_worth_51 : decode cX5_worth 51 = .ok (.invokestatic 37, 3) := by decide +kernel
theorem dX5_worth_54 : decode cX5_worth 54 = .ok (.isub, 1) := by decide +kernel
theorem dX5_worth_55 : decode cX5_worth 55 = .ok (.iadd, 1) := by decide +kernel
theorem dX5_worth_56 : decode cX5_worth 56 = .ok (.istore_n 3, 1) := by decide +kernel
theorem dX5_worth_57 : decode cX5_worth 57 = .ok (.iload 5, 2) := by decide +kernel
theorem dX5_worth_59 : decode cX5_worth 59 = .ok (.bipush 7, 2) := by decide +kernel
theorem dX5_worth_61 : decode cX5_worth 61 = .ok (.if_icmp .ge 12, 3) := by decide +kernel
theorem dX5_worth_64 : decode cX5_worth 64 = .ok (.aload_n 0, 1) := by decide +kernel
theorem dX5_worth_65 : decode cX5_worth 65 = .ok (.getfield 15, 3) := by decide +kernel
theorem dX5_worth_68 : decode cX5_worth 68 = .ok (.iload_n 3, 1) := by decide +kernel
theorem dX5_worth_69 : decode cX5_worth 69 = .ok (.iaload, 1) := by decide +kernel
theorem dX5_worth_70 : decode cX5_worth 70 = .ok (.goto 4, 3) := by decide +kernel
theorem dX5_worth_73 : decode cX5_worth 73 = .ok (.iconst 0, 1) := by decide +kernel
theorem dX5_worth_74 : decode cX5_worth 74 = .ok (.istore 6, 2) := by decide +kernel
theorem dX5_worth_76 : decode cX5_worth 76 = .ok (.aload_n 0, 1) := by decide +kernel
theorem dX5_worth_77 : decode cX5_worth 77 = .ok (.getfield 15, 3) := by decide +kernel
theorem dX5_worth_80 : decode cX5_worth 80 = .ok (.iload_n 3, 1) := by decide +kernel
theorem dX5_worth_81 : decode cX5_worth 81 = .ok (.iconst 1, 1) := by decide +kernel
theorem dX5_worth_82 : decode cX5_worth 82 = .ok (.isub, 1) := by decide +kernel
theorem dX5_worth_83 : decode cX5_worth 83 = .ok (.iload 5, 2) := by decide +kernel
theorem dX5_worth_85 : decode cX5_worth 85 = .ok (.bipush 7, 2) := by decide +kernel
theorem dX5_worth_87 : decode cX5_worth 87 = .ok (.if_icmp .le 26, 3) := by decide +kernel
theorem dX5_worth_90 : decode cX5_worth 90 = .ok (.aload_n 0, 1) := by decide +kernel
theorem dX5_worth_91 : decode cX5_worth 91 = .ok (.iload 5, 2) := by decide +kernel
theorem dX5_worth_93 : decode cX5_worth 93 = .ok (.aload_n 1, 1) := by decide +kernel
theorem dX5_worth_94 : decode cX5_worth 94 = .ok (.getfield 41, 3) := by decide +kernel
theorem dX5_worth_97 : decode cX5_worth 97 = .ok (.iload 4, 2) := by decide +kernel
theorem dX5_worth_99 : decode cX5_worth 99 = .ok (.iaload, 1) := by decide +kernel
theorem dX5_worth_100 : decode cX5_worth 100 = .ok (.aload_n 1, 1) := by decide +kernel
theorem dX5_worth_101 : decode cX5_worth 101 = .ok (.getfield 44, 3) := by decide +kernel
theorem dX5_worth_104 : decode cX5_worth 104 = .ok (.iload 4, 2) := by decide +kernel
theorem dX5_worth_106 : decode cX5_worth 106 = .ok (.iaload, 1) := by decide +kernel
theorem dX5_worth_107 : decode cX5_worth 107 = .ok (.invokevirtual 47, 3) := by decide +kernel
theorem dX5_worth_110 : decode cX5_worth 110 = .ok (.goto 18, 3) := by decide +kernel
theorem dX5_worth_113 : decode cX5_worth 113 = .ok (.iload 5, 2) := by decide +kernel
theorem dX5_worth_115 : decode cX5_worth 115 = .ok (.aload_n 0, 1) := by decide +kernel
theorem dX5_worth_116 : decode cX5_worth 116 = .ok (.getfield 15, 3) := by decide +kernel
theorem dX5_worth_119 : decode cX5_worth 119 = .ok (.iload_n 3, 1) := by decide +kernel
theorem dX5_worth_120 : decode cX5_worth 120 = .ok (.iconst 1, 1) := by decide +kernel
theorem dX5_worth_121 : decode cX5_worth 121 = .ok (.isub, 1) := by decide +kernel
theorem dX5_worth_122 : decode cX5_worth 122 = .ok (.iaload, 1) := by decide +kernel
theorem dX5_worth_123 : decode cX5_worth 123 = .ok (.iload 6, 2) := by decide +kernel
theorem dX5_worth_125 : decode cX5_worth 125 = .ok (.invokestatic 51, 3) := by decide +kernel
theorem dX5_worth_128 : decode cX5_worth 128 = .ok (.iastore, 1) := by decide +kernel
theorem dX5_worth_129 : decode cX5_worth 129 = .ok (.iinc 4 1, 3) := by decide +kernel
theorem dX5_worth_132 : decode cX5_worth 132 = .ok (.goto (-103), 3) := by decide +kernel
theorem dX5_worth_135 : decode cX5_worth 135 = .ok (.aload_n 0, 1) := by decide +kernel
theorem dX5_worth_136 : decode cX5_worth 136 = .ok (.getfield 15, 3) := by decide +kernel
theorem dX5_worth_139 : decode cX5_worth 139 = .ok (.iconst 0, 1) := by decide +kernel
theorem dX5_worth_140 : decode cX5_worth 140 = .ok (.iaload, 1) := by decide +kernel
theorem dX5_worth_141 : decode cX5_worth 141 = .ok (.ireturn, 1) := by decide +kernel
theorem dX5_seen_0 : decode cX5_seen 0 = .ok (.iload_n 1, 1) := by decide +kernel
theorem dX5_seen_1 : decode cX5_seen 1 = .ok (.tableswitch 61 8 10 #[27, 47, 54], 27) := by decide +kernel
theorem dX5_seen_28 : decode cX5_seen 28 = .ok (.aload_n 0, 1) := by decide +kernel
theorem dX5_seen_29 : decode cX5_seen 29 = .ok (.getfield 18, 3) := by decide +kernel
theorem dX5_seen_32 : decode cX5_seen 32 = .ok (.getfield 54, 3) := by decide +kernel
theorem dX5_seen_35 : decode cX5_seen 35 = .ok (.iload_n 2, 1) := by decide +kernel
theorem dX5_seen_36 : decode cX5_seen 36 = .ok (.aload_n 0, 1) := by decide +kernel
theorem dX5_seen_37 : decode cX5_seen 37 = .ok (.getfield 9, 3) := by decide +kernel
theorem dX5_seen_40 : decode cX5_seen 40 = .ok (.iload_n 2, 1) := by decide +kernel
theorem dX5_seen_41 : decode cX5_seen 41 = .ok (.iaload, 1) := by decide +kernel
theorem dX5_seen_42 : decode cX5_seen 42 = .ok (.iload_n 3, 1) := by decide +kernel
theorem dX5_seen_43 : decode cX5_seen 43 = .ok (.invokestatic 59, 3) := by decide +kernel
theorem dX5_seen_46 : decode cX5_seen 46 = .ok (.iaload, 1) := by decide +kernel
theorem dX5_seen_47 : decode cX5_seen 47 = .ok (.ireturn, 1) := by decide +kernel
theorem dX5_seen_48 : decode cX5_seen 48 = .ok (.aload_n 0, 1) := by decide +kernel
theorem dX5_seen_49 : decode cX5_seen 49 = .ok (.iload_n 2, 1) := by decide +kernel
theorem dX5_seen_50 : decode cX5_seen 50 = .ok (.iload_n 3, 1) := by decide +kernel
theorem dX5_seen_51 : decode cX5_seen 51 = .ok (.invokevirtual 62, 3) := by decide +kernel
theorem dX5_seen_54 : decode cX5_seen 54 = .ok (.ireturn, 1) := by decide +kernel
theorem dX5_seen_55 : decode cX5_seen 55 = .ok (.aload_n 0, 1) := by decide +kernel
theorem dX5_seen_56 : decode cX5_seen 56 = .ok (.getfield 9, 3) := by decide +kernel
theorem dX5_seen_59 : decode cX5_seen 59 = .ok (.iload_n 2, 1) := by decide +kernel
theorem dX5_seen_60 : decode cX5_seen 60 = .ok (.iaload, 1) := by decide +kernel
theorem dX5_seen_61 : decode cX5_seen 61 = .ok (.ireturn, 1) := by decide +kernel
theorem dX5_seen_62 : decode cX5_seen 62 = .ok (.iload_n 2, 1) := by decide +kernel
theorem dX5_seen_63 : decode cX5_seen 63 = .ok (.ireturn, 1) := by decide +kernel
theorem dX5_howManyUnderWay_0 : decode cX5_howManyUnderWay 0 = .ok (.aload_n 0, 1) := by decide +kernel
theorem dX5_howManyUnderWay_1 : decode cX5_howManyUnderWay 1 = .ok (.getfield 18, 3) := by decide +kernel
theorem dX5_howManyUnderWay_4 : decode cX5_howManyUnderWay 4 = .ok (.getfield 65, 3) := by decide +kernel
theorem dX5_howManyUnderWay_7 : decode cX5_howManyUnderWay 7 = .ok (.astore_n 3, 1) := by decide +kernel
theorem dX5_howManyUnderWay_8 : decode cX5_howManyUnderWay 8 = .ok (.iconst 0, 1) := by decide +kernel
theorem dX5_howManyUnderWay_9 : decode cX5_howManyUnderWay 9 = .ok (.istore 4, 2) := by decide +kernel
theorem dX5_howManyUnderWay_11 : decode cX5_howManyUnderWay 11 = .ok (.iconst 0, 1) := by decide +kernel
theorem dX5_howManyUnderWay_12 : decode cX5_howManyUnderWay 12 = .ok (.istore 5, 2) := by decide +kernel
theorem dX5_howManyUnderWay_14 : decode cX5_howManyUnderWay 14 = .ok (.iload 5, 2) := by decide +kernel
theorem dX5_howManyUnderWay_16 : decode cX5_howManyUnderWay 16 = .ok (.aload_n 3, 1) := by decide +kernel
theorem dX5_howManyUnderWay_17 : decode cX5_howManyUnderWay 17 = .ok (.getfield 69, 3) := by decide +kernel
theorem dX5_howManyUnderWay_20 : decode cX5_howManyUnderWay 20 = .ok (.if_icmp .ge 113, 3) := by decide +kernel
theorem dX5_howManyUnderWay_23 : decode cX5_howManyUnderWay 23 = .ok (.aload_n 3, 1) := by decide +kernel
theorem dX5_howManyUnderWay_24 : decode cX5_howManyUnderWay 24 = .ok (.getfield 74, 3) := by decide +kernel
theorem dX5_howManyUnderWay_27 : decode cX5_howManyUnderWay 27 = .ok (.iload 5, 2) := by decide +kernel
theorem dX5_howManyUnderWay_29 : decode cX5_howManyUnderWay 29 = .ok (.iaload, 1) := by decide +kernel
theorem dX5_howManyUnderWay_30 : decode cX5_howManyUnderWay 30 = .ok (.iload_n 1, 1) := by decide +kernel
theorem dX5_howManyUnderWay_31 : decode cX5_howManyUnderWay 31 = .ok (.if_icmp .ne 18, 3) := by decide +kernel
theorem dX5_howManyUnderWay_34 : decode cX5_howManyUnderWay 34 = .ok (.aload_n 3, 1) := by decide +kernel
theorem dX5_howManyUnderWay_35 : decode cX5_howManyUnderWay 35 = .ok (.getfield 77, 3) := by decide +kernel
theorem dX5_howManyUnderWay_38 : decode cX5_howManyUnderWay 38 = .ok (.iload 5, 2) := by decide +kernel
theorem dX5_howManyUnderWay_40 : decode cX5_howManyUnderWay 40 = .ok (.iaload, 1) := by decide +kernel
theorem dX5_howManyUnderWay_41 : decode cX5_howManyUnderWay 41 = .ok (.iload_n 2, 1) := by decide +kernel
theorem dX5_howManyUnderWay_42 : decode cX5_howManyUnderWay 42 = .ok (.if_icmp .ne 7, 3) := by decide +kernel
theorem dX5_howManyUnderWay_45 : decode cX5_howManyUnderWay 45 = .ok (.iconst 1, 1) := by decide +kernel
theorem dX5_howManyUnderWay_46 : decode cX5_howManyUnderWay 46 = .ok (.goto 4, 3) := by decide +kernel
theorem dX5_howManyUnderWay_49 : decode cX5_howManyUnderWay 49 = .ok (.iconst 0, 1) := by decide +kernel
theorem dX5_howManyUnderWay_50 : decode cX5_howManyUnderWay 50 = .ok (.istore 6, 2) := by decide +kernel
theorem dX5_howManyUnderWay_52 : decode cX5_howManyUnderWay 52 = .ok (.aload_n 3, 1) := by decide +kernel
theorem dX5_howManyUnderWay_53 : decode cX5_howManyUnderWay 53 = .ok (.getfield 80, 3) := by decide +kernel
theorem dX5_howManyUnderWay_56 : decode cX5_howManyUnderWay 56 = .ok (.iload 5, 2) := by decide +kernel
theorem dX5_howManyUnderWay_58 : decode cX5_howManyUnderWay 58 = .ok (.iaload, 1) := by decide +kernel
theorem dX5_howManyUnderWay_59 : decode cX5_howManyUnderWay 59 = .ok (.aload_n 0, 1) := by decide +kernel
theorem dX5_howManyUnderWay_60 : decode cX5_howManyUnderWay 60 = .ok (.getfield 9, 3) := by decide +kernel
theorem dX5_howManyUnderWay_63 : decode cX5_howManyUnderWay 63 = .ok (.iload_n 1, 1) := by decide +kernel
theorem dX5_howManyUnderWay_64 : decode cX5_howManyUnderWay 64 = .ok (.iaload, 1) := by decide +kernel
theorem dX5_howManyUnderWay_65 : decode cX5_howManyUnderWay 65 = .ok (.if_icmp .ge 7, 3) := by decide +kernel
theorem dX5_howManyUnderWay_68 : decode cX5_howManyUnderWay 68 = .ok (.iconst 1, 1) := by decide +kernel
theorem dX5_howManyUnderWay_69 : decode cX5_howManyUnderWay 69 = .ok (.goto 4, 3) := by decide +kernel
theorem dX5_howManyUnderWay_72 : decode cX5_howManyUnderWay 72 = .ok (.iconst 0, 1) := by decide +kernel
theorem dX5_howManyUnderWay_73 : decode cX5_howManyUnderWay 73 = .ok (.istore 7, 2) := by decide +kernel
theorem dX5_howManyUnderWay_75 : decode cX5_howManyUnderWay 75 = .ok (.aload_n 3, 1) := by decide +kernel
theorem dX5_howManyUnderWay_76 : decode cX5_howManyUnderWay 76 = .ok (.getfield 83, 3) := by decide +kernel
theorem dX5_howManyUnderWay_79 : decode cX5_howManyUnderWay 79 = .ok (.iload 5, 2) := by decide +kernel
theorem dX5_howManyUnderWay_81 : decode cX5_howManyUnderWay 81 = .ok (.iaload, 1) := by decide +kernel
theorem dX5_howManyUnderWay_82 : decode cX5_howManyUnderWay 82 = .ok (.iconst (-1), 1) := by decide +kernel
theorem dX5_howManyUnderWay_83 : decode cX5_howManyUnderWay 83 = .ok (.if_icmp .eq 23, 3) := by decide +kernel
theorem dX5_howManyUnderWay_86 : decode cX5_howManyUnderWay 86 = .ok (.aload_n 3, 1) := by decide +kernel
theorem dX5_howManyUnderWay_87 : decode cX5_howManyUnderWay 87 = .ok (.getfield 83, 3) := by decide +kernel
theorem dX5_howManyUnderWay_90 : decode cX5_howManyUnderWay 90 = .ok (.iload 5, 2) := by decide +kernel
theorem dX5_howManyUnderWay_92 : decode cX5_howManyUnderWay 92 = .ok (.iaload, 1) := by decide +kernel
theorem dX5_howManyUnderWay_93 : decode cX5_howManyUnderWay 93 = .ok (.aload_n 0, 1) := by decide +kernel
theorem dX5_howManyUnderWay_94 : decode cX5_howManyUnderWay 94 = .ok (.getfield 9, 3) := by decide +kernel
theorem dX5_howManyUnderWay_97 : decode cX5_howManyUnderWay 97 = .ok (.iload_n 2, 1) := by decide +kernel
theorem dX5_howManyUnderWay_98 : decode cX5_howManyUnderWay 98 = .ok (.iaload, 1) := by decide +kernel
theorem dX5_howManyUnderWay_99 : decode cX5_howManyUnderWay 99 = .ok (.if_icmp .ge 7, 3) := by decide +kernel
theorem dX5_howManyUnderWay_102 : decode cX5_howManyUnderWay 102 = .ok (.iconst 1, 1) := by decide +kernel
theorem dX5_howManyUnderWay_103 : decode cX5_howManyUnderWay 103 = .ok (.goto 4, 3) := by decide +kernel
theorem dX5_howManyUnderWay_106 : decode cX5_howManyUnderWay 106 = .ok (.iconst 0, 1) := by decide +kernel
theorem dX5_howManyUnderWay_107 : decode cX5_howManyUnderWay 107 = .ok (.istore 8, 2) := by decide +kernel
theorem dX5_howManyUnderWay_109 : decode cX5_howManyUnderWay 109 = .ok (.iload 6, 2) := by decide +kernel
theorem dX5_howManyUnderWay_111 : decode cX5_howManyUnderWay 111 = .ok (.ifCond .eq 16, 3) := by decide +kernel
theorem dX5_howManyUnderWay_114 : decode cX5_howManyUnderWay 114 = .ok (.iload 7, 2) := by decide +kernel
theorem dX5_howManyUnderWay_116 : decode cX5_howManyUnderWay 116 = .ok (.ifCond .eq 11, 3) := by decide +kernel
theorem dX5_howManyUnderWay_119 : decode cX5_howManyUnderWay 119 = .ok (.iload 8, 2) := by decide +kernel
theorem dX5_howManyUnderWay_121 : decode cX5_howManyUnderWay 121 = .ok (.ifCond .ne 6, 3) := by decide +kernel
theorem dX5_howManyUnderWay_124 : decode cX5_howManyUnderWay 124 = .ok (.iinc 4 1, 3) := by decide +kernel
theorem dX5_howManyUnderWay_127 : decode cX5_howManyUnderWay 127 = .ok (.iinc 5 1, 3) := by decide +kernel
theorem dX5_howManyUnderWay_130 : decode cX5_howManyUnderWay 130 = .ok (.goto (-116), 3) := by decide +kernel
theorem dX5_howManyUnderWay_133 : decode cX5_howManyUnderWay 133 = .ok (.iload 4, 2) := by decide +kernel
theorem dX5_howManyUnderWay_135 : decode cX5_howManyUnderWay 135 = .ok (.ireturn, 1) := by decide +kernel
