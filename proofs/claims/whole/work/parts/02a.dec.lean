theorem dX0_init_0 : decode cX0_init 0 = .ok (.aload_n 0, 1) := by decide +kernel
theorem dX0_init_1 : decode cX0_init 1 = .ok (.invokespecial 3, 3) := by decide +kernel
theorem dX0_init_4 : decode cX0_init 4 = .ok (.aload_n 0, 1) := by decide +kernel
theorem dX0_init_5 : decode cX0_init 5 = .ok (.bipush 120, 2) := by decide +kernel
theorem dX0_init_7 : decode cX0_init 7 = .ok (.newarray .int, 2) := by decide +kernel
theorem dX0_init_9 : decode cX0_init 9 = .ok (.putfield 9, 3) := by decide +kernel
theorem dX0_init_12 : decode cX0_init 12 = .ok (.aload_n 0, 1) := by decide +kernel
theorem dX0_init_13 : decode cX0_init 13 = .ok (.bipush 120, 2) := by decide +kernel
theorem dX0_init_15 : decode cX0_init 15 = .ok (.newarray .int, 2) := by decide +kernel
theorem dX0_init_17 : decode cX0_init 17 = .ok (.putfield 15, 3) := by decide +kernel
theorem dX0_init_20 : decode cX0_init 20 = .ok (.aload_n 0, 1) := by decide +kernel
theorem dX0_init_21 : decode cX0_init 21 = .ok (.iconst 0, 1) := by decide +kernel
theorem dX0_init_22 : decode cX0_init 22 = .ok (.putfield 18, 3) := by decide +kernel
theorem dX0_init_25 : decode cX0_init 25 = .ok (.return_, 1) := by decide +kernel
theorem dX0_has_0 : decode cX0_has 0 = .ok (.iload_n 1, 1) := by decide +kernel
theorem dX0_has_1 : decode cX0_has 1 = .ok (.ifCond .lt 15, 3) := by decide +kernel
theorem dX0_has_4 : decode cX0_has 4 = .ok (.iload_n 1, 1) := by decide +kernel
theorem dX0_has_5 : decode cX0_has 5 = .ok (.aload_n 0, 1) := by decide +kernel
theorem dX0_has_6 : decode cX0_has 6 = .ok (.getfield 18, 3) := by decide +kernel
theorem dX0_has_9 : decode cX0_has 9 = .ok (.if_icmp .ge 7, 3) := by decide +kernel
theorem dX0_has_12 : decode cX0_has 12 = .ok (.iconst 1, 1) := by decide +kernel
theorem dX0_has_13 : decode cX0_has 13 = .ok (.goto 4, 3) := by decide +kernel
theorem dX0_has_16 : decode cX0_has 16 = .ok (.iconst 0, 1) := by decide +kernel
theorem dX0_has_17 : decode cX0_has 17 = .ok (.ireturn, 1) := by decide +kernel
theorem dX0_add_0 : decode cX0_add 0 = .ok (.aload_n 0, 1) := by decide +kernel
theorem dX0_add_1 : decode cX0_add 1 = .ok (.getfield 18, 3) := by decide +kernel
theorem dX0_add_4 : decode cX0_add 4 = .ok (.bipush 120, 2) := by decide +kernel
theorem dX0_add_6 : decode cX0_add 6 = .ok (.if_icmp .lt 6, 3) := by decide +kernel
theorem dX0_add_9 : decode cX0_add 9 = .ok (.bipush (-3), 2) := by decide +kernel
theorem dX0_add_11 : decode cX0_add 11 = .ok (.ireturn, 1) := by decide +kernel
theorem dX0_add_12 : decode cX0_add 12 = .ok (.aload_n 0, 1) := by decide +kernel
theorem dX0_add_13 : decode cX0_add 13 = .ok (.getfield 9, 3) := by decide +kernel
theorem dX0_add_16 : decode cX0_add 16 = .ok (.aload_n 0, 1) := by decide +kernel
theorem dX0_add_17 : decode cX0_add 17 = .ok (.getfield 18, 3) := by decide +kernel
theorem dX0_add_20 : decode cX0_add 20 = .ok (.iload_n 1, 1) := by decide +kernel
theorem dX0_add_21 : decode cX0_add 21 = .ok (.iastore, 1) := by decide +kernel
theorem dX0_add_22 : decode cX0_add 22 = .ok (.aload_n 0, 1) := by decide +kernel
theorem dX0_add_23 : decode cX0_add 23 = .ok (.getfield 15, 3) := by decide +kernel
theorem dX0_add_26 : decode cX0_add 26 = .ok (.aload_n 0, 1) := by decide +kernel
theorem dX0_add_27 : decode cX0_add 27 = .ok (.getfield 18, 3) := by decide +kernel
theorem dX0_add_30 : decode cX0_add 30 = .ok (.iload_n 2, 1) := by decide +kernel
theorem dX0_add_31 : decode cX0_add 31 = .ok (.iastore, 1) := by decide +kernel
theorem dX0_add_32 : decode cX0_add 32 = .ok (.aload_n 0, 1) := by decide +kernel
theorem dX0_add_33 : decode cX0_add 33 = .ok (.dup, 1) := by decide +kernel
theorem dX0_add_34 : decode cX0_add 34 = .ok (.getfield 18, 3) := by decide +kernel
theorem dX0_add_37 : decode cX0_add 37 = .ok (.iconst 1, 1) := by decide +kernel
theorem dX0_add_38 : decode cX0_add 38 = .ok (.iadd, 1) := by decide +kernel
theorem dX0_add_39 : decode cX0_add 39 = .ok (.putfield 18, 3) := by decide +kernel
theorem dX0_add_42 : decode cX0_add 42 = .ok (.aload_n 0, 1) := by decide +kernel
theorem dX0_add_43 : decode cX0_add 43 = .ok (.getfield 18, 3) := by decide +kernel
theorem dX0_add_46 : decode cX0_add 46 = .ok (.iconst 1, 1) := by decide +kernel
theorem dX0_add_47 : decode cX0_add 47 = .ok (.isub, 1) := by decide +kernel
theorem dX0_add_48 : decode cX0_add 48 = .ok (.ireturn, 1) := by decide +kernel
theorem dX0_weightOf_0 : decode cX0_weightOf 0 = .ok (.iload_n 1, 1) := by decide +kernel
theorem dX0_weightOf_1 : decode cX0_weightOf 1 = .ok (.ifCond .lt 20, 3) := by decide +kernel
theorem dX0_weightOf_4 : decode cX0_weightOf 4 = .ok (.iload_n 1, 1) := by decide +kernel
theorem dX0_weightOf_5 : decode cX0_weightOf 5 = .ok (.aload_n 0, 1) := by decide +kernel
theorem dX0_weightOf_6 : decode cX0_weightOf 6 = .ok (.getfield 18, 3) := by decide +kernel
theorem dX0_weightOf_9 : decode cX0_weightOf 9 = .ok (.if_icmp .ge 12, 3) := by decide +kernel
theorem dX0_weightOf_12 : decode cX0_weightOf 12 = .ok (.aload_n 0, 1) := by decide +kernel
theorem dX0_weightOf_13 : decode cX0_weightOf 13 = .ok (.getfield 9, 3) := by decide +kernel
theorem dX0_weightOf_16 : decode cX0_weightOf 16 = .ok (.iload_n 1, 1) := by decide +kernel
theorem dX0_weightOf_17 : decode cX0_weightOf 17 = .ok (.iaload, 1) := by decide +kernel
theorem dX0_weightOf_18 : decode cX0_weightOf 18 = .ok (.goto 4, 3) := by decide +kernel
theorem dX0_weightOf_21 : decode cX0_weightOf 21 = .ok (.iconst 0, 1) := by decide +kernel
theorem dX0_weightOf_22 : decode cX0_weightOf 22 = .ok (.ireturn, 1) := by decide +kernel
theorem dX0_markOf_0 : decode cX0_markOf 0 = .ok (.iload_n 1, 1) := by decide +kernel
theorem dX0_markOf_1 : decode cX0_markOf 1 = .ok (.ifCond .lt 20, 3) := by decide +kernel
theorem dX0_markOf_4 : decode cX0_markOf 4 = .ok (.iload_n 1, 1) := by decide +kernel
theorem dX0_markOf_5 : decode cX0_markOf 5 = .ok (.aload_n 0, 1) := by decide +kernel
theorem dX0_markOf_6 : decode cX0_markOf 6 = .ok (.getfield 18, 3) := by decide +kernel
theorem dX0_markOf_9 : decode cX0_markOf 9 = .ok (.if_icmp .ge 12, 3) := by decide +kernel
theorem dX0_markOf_12 : decode cX0_markOf 12 = .ok (.aload_n 0, 1) := by decide +kernel
theorem dX0_markOf_13 : decode cX0_markOf 13 = .ok (.getfield 15, 3) := by decide +kernel
theorem dX0_markOf_16 : decode cX0_markOf 16 = .ok (.iload_n 1, 1) := by decide +kernel
theorem dX0_markOf_17 : decode cX0_markOf 17 = .ok (.iaload, 1) := by decide +kernel
theorem dX0_markOf_18 : decode cX0_markOf 18 = .ok (.goto 4, 3) := by decide +kernel
theorem dX0_markOf_21 : decode cX0_markOf 21 = .ok (.iconst 0, 1) := by decide +kernel
theorem dX0_markOf_22 : decode cX0_markOf 22 = .ok (.ireturn, 1) := by decide +kernel
theorem dX1_init_0 : decode cX1_init 0 = .ok (.aload_n 0, 1) := by decide +kernel
theorem dX1_init_1 : decode cX1_init 1 = .ok (.invokespecial 3, 3) := by decide +kernel
theorem dX1_init_4 : decode cX1_init 4 = .ok (.aload_n 0, 1) := by decide +kernel
theorem dX1_init_5 : decode cX1_init 5 = .ok (.new 9, 3) := by decide +kernel
theorem dX1_init_8 : decode cX1_init 8 = .ok (.dup, 1) := by decide +kernel
theorem dX1_init_9 : decode cX1_init 9 = .ok (.invokespecial 11, 3) := by decide +kernel
theorem dX1_init_12 : decode cX1_init 12 = .ok (.putfield 12, 3) := by decide +kernel
theorem dX1_init_15 : decode cX1_init 15 = .ok (.aload_n 0, 1) := by decide +kernel
theorem dX1_init_16 : decode cX1_init 16 = .ok (.new 18, 3) := by decide +kernel
theorem dX1_init_19 : decode cX1_init 19 = .ok (.dup, 1) := by decide +kernel
theorem dX1_init_20 : decode cX1_init 20 = .ok (.invokespecial 20, 3) := by decide +kernel
theorem dX1_init_23 : decode cX1_init 23 = .ok (.putfield 21, 3) := by decide +kernel
theorem dX1_init_26 : decode cX1_init 26 = .ok (.aload_n 0, 1) := by decide +kernel
theorem dX1_init_27 : decode cX1_init 27 = .ok (.new 25, 3) := by decide +kernel
theorem dX1_init_30 : decode cX1_init 30 = .ok (.dup, 1) := by decide +kernel
theorem dX1_init_31 : decode cX1_init 31 = .ok (.invokespecial 27, 3) := by decide +kernel
theorem dX1_init_34 : decode cX1_init 34 = .ok (.putfield 28, 3) := by decide +kernel
theorem dX1_init_37 : decode cX1_init 37 = .ok (.aload_n 0, 1) := by decide +kernel
theorem dX1_init_38 : decode cX1_init 38 = .ok (.bipush 8, 2) := by decide +kernel
theorem dX1_init_40 : decode cX1_init 40 = .ok (.anewarray 32, 3) := by decide +kernel
theorem dX1_init_43 : decode cX1_init 43 = .ok (.putfield 34, 3) := by decide +kernel
theorem dX1_init_46 : decode cX1_init 46 = .ok (.aload_n 0, 1) := by decide +kernel
theorem dX1_init_47 : decode cX1_init 47 = .ok (.iconst 0, 1) := by decide +kernel
theorem dX1_init_48 : decode cX1_init 48 = .ok (.putfield 38, 3) := by decide +kernel
theorem dX1_init_51 : decode cX1_init 51 = .ok (.iconst 0, 1) := by decide +kernel
theorem dX1_init_52 : decode cX1_init 52 = .ok (.istore_n 1, 1) := by decide +kernel
theorem dX1_init_53 : decode cX1_init 53 = .ok (.iload_n 1, 1) := by decide +kernel
theorem dX1_init_54 : decode cX1_init 54 = .ok (.bipush 8, 2) := by decide +kernel
theorem dX1_init_56 : decode cX1_init 56 = .ok (.if_icmp .ge 22, 3) := by decide +kernel
theorem dX1_init_59 : decode cX1_init 59 = .ok (.aload_n 0, 1) := by decide +kernel
theorem dX1_init_60 : decode cX1_init 60 = .ok (.getfield 34, 3) := by decide +kernel
theorem dX1_init_63 : decode cX1_init 63 = .ok (.iload_n 1, 1) := by decide +kernel
theorem dX1_init_64 : decode cX1_init 64 = .ok (.new 32, 3) := by decide +kernel
theorem dX1_init_67 : decode cX1_init 67 = .ok (.dup, 1) := by decide +kernel
theorem dX1_init_68 : decode cX1_init 68 = .ok (.invokespecial 42, 3) := by decide +kernel
theorem dX1_init_71 : decode cX1_init 71 = .ok (.aastore, 1) := by decide +kernel
theorem dX1_init_72 : decode cX1_init 72 = .ok (.iinc 1 1, 3) := by decide +kernel
theorem dX1_init_75 : decode cX1_init 75 = .ok (.goto (-22), 3) := by decide +kernel
theorem dX1_init_78 : decode cX1_init 78 = .ok (.return_, 1) := by decide +kernel
theorem dX1_hasHook_0 : decode cX1_hasHook 0 = .ok (.iload_n 1, 1) := by decide +kernel
theorem dX1_hasHook_1 : decode cX1_hasHook 1 = .ok (.ifCond .lt 15, 3) := by decide +kernel
theorem dX1_hasHook_4 : decode cX1_hasHook 4 = .ok (.iload_n 1, 1) := by decide +kernel
theorem dX1_hasHook_5 : decode cX1_hasHook 5 = .ok (.aload_n 0, 1) := by decide +kernel
theorem dX1_hasHook_6 : decode cX1_hasHook 6 = .ok (.getfield 38, 3) := by decide +kernel
theorem dX1_hasHook_9 : decode cX1_hasHook 9 = .ok (.if_icmp .ge 7, 3) := by decide +kernel
theorem dX1_hasHook_12 : decode cX1_hasHook 12 = .ok (.iconst 1, 1) := by decide +kernel
theorem dX1_hasHook_13 : decode cX1_hasHook 13 = .ok (.goto 4, 3) := by decide +kernel
theorem dX1_hasHook_16 : decode cX1_hasHook 16 = .ok (.iconst 0, 1) := by decide +kernel
theorem dX1_hasHook_17 : decode cX1_hasHook 17 = .ok (.ireturn, 1) := by decide +kernel
theorem dX1_addHook_0 : decode cX1_addHook 0 = .ok (.aload_n 0, 1) := by decide +kernel
theorem dX1_addHook_1 : decode cX1_addHook 1 = .ok (.getfield 38, 3) := by decide +kernel
theorem dX1_addHook_4 : decode cX1_addHook 4 = .ok (.bipush 8, 2) := by decide +kernel
theorem dX1_addHook_6 : decode cX1_addHook 6 = .ok (.if_icmp .lt 6, 3) := by decide +kernel
theorem dX1_addHook_9 : decode cX1_addHook 9 = .ok (.bipush (-3), 2) := by decide +kernel
theorem dX1_addHook_11 : decode cX1_addHook 11 = .ok (.ireturn, 1) := by decide +kernel
theorem dX1_addHook_12 : decode cX1_addHook 12 = .ok (.aload_n 0, 1) := by decide +kernel
theorem dX1_addHook_13 : decode cX1_addHook 13 = .ok (.getfield 34, 3) := by decide +kernel
theorem dX1_addHook_16 : decode cX1_addHook 16 = .ok (.aload_n 0, 1) := by decide +kernel
theorem dX1_addHook_17 : decode cX1_addHook 17 = .ok (.getfield 38, 3) := by decide +kernel
theorem dX1_addHook_20 : decode cX1_addHook 20 = .ok (.aaload, 1) := by decide +kernel
theorem dX1_addHook_21 : decode cX1_addHook 21 = .ok (.iload_n 1, 1) := by decide +kernel
theorem dX1_addHook_22 : decode cX1_addHook 22 = .ok (.iload_n 2, 1) := by decide +kernel
theorem dX1_addHook_23 : decode cX1_addHook 23 = .ok (.invokevirtual 43, 3) := by decide +kernel
theorem dX1_addHook_26 : decode cX1_addHook 26 = .ok (.aload_n 0, 1) := by decide +kernel
theorem dX1_addHook_27 : decode cX1_addHook 27 = .ok (.dup, 1) := by decide +kernel
theorem dX1_addHook_28 : decode cX1_addHook 28 = .ok (.getfield 38, 3) := by decide +kernel
theorem dX1_addHook_31 : decode cX1_addHook 31 = .ok (.iconst 1, 1) := by decide +kernel
theorem dX1_addHook_32 : decode cX1_addHook 32 = .ok (.iadd, 1) := by decide +kernel
theorem dX1_addHook_33 : decode cX1_addHook 33 = .ok (.putfield 38, 3) := by decide +kernel
theorem dX1_addHook_36 : decode cX1_addHook 36 = .ok (.aload_n 0, 1) := by decide +kernel
theorem dX1_addHook_37 : decode cX1_addHook 37 = .ok (.getfield 38, 3) := by decide +kernel
theorem dX1_addHook_40 : decode cX1_addHook 40 = .ok (.iconst 1, 1) := by decide +kernel
theorem dX1_addHook_41 : decode cX1_addHook 41 = .ok (.isub, 1) := by decide +kernel
theorem dX1_addHook_42 : decode cX1_addHook 42 = .ok (.ireturn, 1) := by decide +kernel
theorem dX1_kindOf_0 : decode cX1_kindOf 0 = .ok (.aload_n 0, 1) := by decide +kernel
theorem dX1_kindOf_1 : decode cX1_kindOf 1 = .ok (.iload_n 1, 1) := by decide +kernel
theorem dX1_kindOf_2 : decode cX1_kindOf 2 = .ok (.invokevirtual 47, 3) := by decide +kernel
theorem dX1_kindOf_5 : decode cX1_kindOf 5 = .ok (.ifCond .eq 15, 3) := by decide +kernel
theorem dX1_kindOf_8 : decode cX1_kindOf 8 = .ok (.aload_n 0, 1) := by decide +kernel
theorem dX1_kindOf_9 : decode cX1_kindOf 9 = .ok (.getfield 34, 3) := by decide +kernel
theorem dX1_kindOf_12 : decode cX1_kindOf 12 = .ok (.iload_n 1, 1) := by decide +kernel
theorem dX1_kindOf_13 : decode cX1_kindOf 13 = .ok (.aaload, 1) := by decide +kernel
theorem dX1_kindOf_14 : decode cX1_kindOf 14 = .ok (.getfield 51, 3) := by decide +kernel
theorem dX1_kindOf_17 : decode cX1_kindOf 17 = .ok (.goto 4, 3) := by decide +kernel
theorem dX1_kindOf_20 : decode cX1_kindOf 20 = .ok (.iconst (-1), 1) := by decide +kernel
theorem dX1_kindOf_21 : decode cX1_kindOf 21 = .ok (.ireturn, 1) := by decide +kernel
theorem dX1_compares_0 : decode cX1_compares 0 = .ok (.aload_n 0, 1) := by decide +kernel
theorem dX1_compares_1 : decode cX1_compares 1 = .ok (.iload_n 1, 1) := by decide +kernel
theorem dX1_compares_2 : decode cX1_compares 2 = .ok (.invokevirtual 54, 3) := by decide +kernel
theorem dX1_compares_5 : decode cX1_compares 5 = .ok (.istore_n 2, 1) := by decide +kernel
theorem dX1_compares_6 : decode cX1_compares 6 = .ok (.iload_n 2, 1) := by decide +kernel
theorem dX1_compares_7 : decode cX1_compares 7 = .ok (.ifCond .eq 13, 3) := by decide +kernel
theorem dX1_compares_10 : decode cX1_compares 10 = .ok (.iload_n 2, 1) := by decide +kernel
theorem dX1_compares_11 : decode cX1_compares 11 = .ok (.iconst 1, 1) := by decide +kernel
theorem dX1_compares_12 : decode cX1_compares 12 = .ok (.if_icmp .eq 8, 3) := by decide +kernel
theorem dX1_compares_15 : decode cX1_compares 15 = .ok (.iload_n 2, 1) := by decide +kernel
theorem dX1_compares_16 : decode cX1_compares 16 = .ok (.iconst 2, 1) := by decide +kernel
theorem dX1_compares_17 : decode cX1_compares 17 = .ok (.if_icmp .ne 7, 3) := by decide +kernel
theorem dX1_compares_20 : decode cX1_compares 20 = .ok (.iconst 1, 1) := by decide +kernel
theorem dX1_compares_21 : decode cX1_compares 21 = .ok (.goto 4, 3) := by decide +kernel
theorem dX1_compares_24 : decode cX1_compares 24 = .ok (.iconst 0, 1) := by decide +kernel
theorem dX1_compares_25 : decode cX1_compares 25 = .ok (.ireturn, 1) := by decide +kernel
theorem dX1_callsOf_0 : decode cX1_callsOf 0 = .ok (.aload_n 0, 1) := by decide +kernel
theorem dX1_callsOf_1 : decode cX1_callsOf 1 = .ok (.iload_n 1, 1) := by decide +kernel
theorem dX1_callsOf_2 : decode cX1_callsOf 2 = .ok (.invokevirtual 47, 3) := by decide +kernel
theorem dX1_callsOf_5 : decode cX1_callsOf 5 = .ok (.ifCond .eq 15, 3) := by decide +kernel
theorem dX1_callsOf_8 : decode cX1_callsOf 8 = .ok (.aload_n 0, 1) := by decide +kernel
theorem dX1_callsOf_9 : decode cX1_callsOf 9 = .ok (.getfield 34, 3) := by decide +kernel
theorem dX1_callsOf_12 : decode cX1_callsOf 12 = .ok (.iload_n 1, 1) := by decide +kernel
theorem dX1_callsOf_13 : decode cX1_callsOf 13 = .ok (.aaload, 1) := by decide +kernel
theorem dX1_callsOf_14 : decode cX1_callsOf 14 = .ok (.getfield 58, 3) := by decide +kernel
theorem dX1_callsOf_17 : decode cX1_callsOf 17 = .ok (.goto 4, 3) := by decide +kernel
theorem dX1_callsOf_20 : decode cX1_callsOf 20 = .ok (.iconst (-1), 1) := by decide +kernel
theorem dX1_callsOf_21 : decode cX1_callsOf 21 = .ok (.ireturn, 1) := by decide +kernel
theorem dX1_latestCallsOf_0 : decode cX1_latestCallsOf 0 = .ok (.aload_n 0, 1) := by decide +kernel
theorem dX1_latestCallsOf_1 : decode cX1_latestCallsOf 1 = .ok (.iload_n 1, 1) := by decide +kernel
theorem dX1_latestCallsOf_2 : decode cX1_latestCallsOf 2 = .ok (.invokevirtual 47, 3) := by decide +kernel
theorem dX1_latestCallsOf_5 : decode cX1_latestCallsOf 5 = .ok (.ifCond .eq 15, 3) := by decide +kernel
theorem dX1_latestCallsOf_8 : decode cX1_latestCallsOf 8 = .ok (.aload_n 0, 1) := by decide +kernel
theorem dX1_latestCallsOf_9 : decode cX1_latestCallsOf 9 = .ok (.getfield 34, 3) := by decide +kernel
theorem dX1_latestCallsOf_12 : decode cX1_latestCallsOf 12 = .ok (.iload_n 1, 1) := by decide +kernel
theorem dX1_latestCallsOf_13 : decode cX1_latestCallsOf 13 = .ok (.aaload, 1) := by decide +kernel
theorem dX1_latestCallsOf_14 : decode cX1_latestCallsOf 14 = .ok (.getfield 61, 3) := by decide +kernel
theorem dX1_latestCallsOf_17 : decode cX1_latestCallsOf 17 = .ok (.goto 4, 3) := by decide +kernel
theorem dX1_latestCallsOf_20 : decode cX1_latestCallsOf 20 = .ok (.iconst (-1), 1) := by decide +kernel
theorem dX1_latestCallsOf_21 : decode cX1_latestCallsOf 21 = .ok (.ireturn, 1) := by decide +kernel
theorem dX1_misusesOf_0 : decode cX1_misusesOf 0 = .ok (.aload_n 0, 1) := by decide +kernel
theorem dX1_misusesOf_1 : decode cX1_misusesOf 1 = .ok (.iload_n 1, 1) := by decide +kernel
theorem dX1_misusesOf_2 : decode cX1_misusesOf 2 = .ok (.invokevirtual 47, 3) := by decide +kernel
theorem dX1_misusesOf_5 : decode cX1_misusesOf 5 = .ok (.ifCond .eq 15, 3) := by decide +kernel
theorem dX1_misusesOf_8 : decode cX1_misusesOf 8 = .ok (.aload_n 0, 1) := by decide +kernel
theorem dX1_misusesOf_9 : decode cX1_misusesOf 9 = .ok (.getfield 34, 3) := by decide +kernel
theorem dX1_misusesOf_12 : decode cX1_misusesOf 12 = .ok (.iload_n 1, 1) := by decide +kernel
theorem dX1_misusesOf_13 : decode cX1_misusesOf 13 = .ok (.aaload, 1) := by decide +kernel
theorem dX1_misusesOf_14 : decode cX1_misusesOf 14 = .ok (.getfield 64, 3) := by decide +kernel
theorem dX1_misusesOf_17 : decode cX1_misusesOf 17 = .ok (.goto 4, 3) := by decide +kernel
theorem dX1_misusesOf_20 : decode cX1_misusesOf 20 = .ok (.iconst (-1), 1) := by decide +kernel
theorem dX1_misusesOf_21 : decode cX1_misusesOf 21 = .ok (.ireturn, 1) := by decide +kernel
theorem dX1_beginAct_0 : decode cX1_beginAct 0 = .ok (.aload_n 0, 1) := by decide +kernel
theorem dX1_beginAct_1 : decode cX1_beginAct 1 = .ok (.getfield 28, 3) := by decide +kernel
theorem dX1_beginAct_4 : decode cX1_beginAct 4 = .ok (.invokevirtual 67, 3) := by decide +kernel
theorem dX1_beginAct_7 : decode cX1_beginAct 7 = .ok (.iconst 0, 1) := by decide +kernel
theorem dX1_beginAct_8 : decode cX1_beginAct 8 = .ok (.istore_n 1, 1) := by decide +kernel
theorem dX1_beginAct_9 : decode cX1_beginAct 9 = .ok (.iload_n 1, 1) := by decide +kernel
theorem dX1_beginAct_10 : decode cX1_beginAct 10 = .ok (.aload_n 0, 1) := by decide +kernel
theorem dX1_beginAct_11 : decode cX1_beginAct 11 = .ok (.getfield 38, 3) := by decide +kernel
theorem dX1_beginAct_14 : decode cX1_beginAct 14 = .ok (.if_icmp .ge 19, 3) := by decide +kernel
theorem dX1_beginAct_17 : decode cX1_beginAct 17 = .ok (.aload_n 0, 1) := by decide +kernel
theorem dX1_beginAct_18 : decode cX1_beginAct 18 = .ok (.getfield 34, 3) := by decide +kernel
theorem dX1_beginAct_21 : decode cX1_beginAct 21 = .ok (.iload_n 1, 1) := by decide +kernel
theorem dX1_beginAct_22 : decode cX1_beginAct 22 = .ok (.aaload, 1) := by decide +kernel
theorem dX1_beginAct_23 : decode cX1_beginAct 23 = .ok (.iconst 0, 1) := by decide +kernel
theorem dX1_beginAct_24 : decode cX1_beginAct 24 = .ok (.putfield 61, 3) := by decide +kernel
theorem dX1_beginAct_27 : decode cX1_beginAct 27 = .ok (.iinc 1 1, 3) := by decide +kernel
theorem dX1_beginAct_30 : decode cX1_beginAct 30 = .ok (.goto (-21), 3) := by decide +kernel
theorem dX1_beginAct_33 : decode cX1_beginAct 33 = .ok (.return_, 1) := by decide +kernel
theorem dX1_askComparing_0 : decode cX1_askComparing 0 = .ok (.aload_n 0, 1) := by decide +kernel
theorem dX1_askComparing_1 : decode cX1_askComparing 1 = .ok (.iload_n 1, 1) := by decide +kernel
theorem dX1_askComparing_2 : decode cX1_askComparing 2 = .ok (.invokevirtual 70, 3) := by decide +kernel
theorem dX1_askComparing_5 : decode cX1_askComparing 5 = .ok (.istore 4, 2) := by decide +kernel
theorem dX1_askComparing_7 : decode cX1_askComparing 7 = .ok (.iload 4, 2) := by decide +kernel
theorem dX1_askComparing_9 : decode cX1_askComparing 9 = .ok (.ifCond .le 6, 3) := by decide +kernel
theorem dX1_askComparing_12 : decode cX1_askComparing 12 = .ok (.bipush (-11), 2) := by decide +kernel
theorem dX1_askComparing_14 : decode cX1_askComparing 14 = .ok (.ireturn, 1) := by decide +kernel
theorem dX1_askComparing_15 : decode cX1_askComparing 15 = .ok (.aload_n 0, 1) := by decide +kernel
theorem dX1_askComparing_16 : decode cX1_askComparing 16 = .ok (.iload_n 1, 1) := by decide +kernel
theorem dX1_askComparing_17 : decode cX1_askComparing 17 = .ok (.iload_n 2, 1) := by decide +kernel
theorem dX1_askComparing_18 : decode cX1_askComparing 18 = .ok (.iload_n 3, 1) := by decide +kernel
theorem dX1_askComparing_19 : decode cX1_askComparing 19 = .ok (.invokevirtual 73, 3) := by decide +kernel
theorem dX1_askComparing_22 : decode cX1_askComparing 22 = .ok (.istore 5, 2) := by decide +kernel
theorem dX1_askComparing_24 : decode cX1_askComparing 24 = .ok (.iload 4, 2) := by decide +kernel
theorem dX1_askComparing_26 : decode cX1_askComparing 26 = .ok (.iconst (-1), 1) := by decide +kernel
theorem dX1_askComparing_27 : decode cX1_askComparing 27 = .ok (.if_icmp .ne 9, 3) := by decide +kernel
theorem dX1_askComparing_30 : decode cX1_askComparing 30 = .ok (.iload 5, 2) := by decide +kernel
theorem dX1_askComparing_32 : decode cX1_askComparing 32 = .ok (.ineg, 1) := by decide +kernel
theorem dX1_askComparing_33 : decode cX1_askComparing 33 = .ok (.goto 5, 3) := by decide +kernel
theorem dX1_askComparing_36 : decode cX1_askComparing 36 = .ok (.iload 5, 2) := by decide +kernel
theorem dX1_askComparing_38 : decode cX1_askComparing 38 = .ok (.ireturn, 1) := by decide +kernel
theorem dX1_askKeeping_0 : decode cX1_askKeeping 0 = .ok (.aload_n 0, 1) := by decide +kernel
theorem dX1_askKeeping_1 : decode cX1_askKeeping 1 = .ok (.iload_n 1, 1) := by decide +kernel
theorem dX1_askKeeping_2 : decode cX1_askKeeping 2 = .ok (.invokevirtual 70, 3) := by decide +kernel
theorem dX1_askKeeping_5 : decode cX1_askKeeping 5 = .ok (.istore_n 3, 1) := by decide +kernel
theorem dX1_askKeeping_6 : decode cX1_askKeeping 6 = .ok (.iload_n 3, 1) := by decide +kernel
theorem dX1_askKeeping_7 : decode cX1_askKeeping 7 = .ok (.ifCond .le 6, 3) := by decide +kernel
theorem dX1_askKeeping_10 : decode cX1_askKeeping 10 = .ok (.bipush (-11), 2) := by decide +kernel
theorem dX1_askKeeping_12 : decode cX1_askKeeping 12 = .ok (.ireturn, 1) := by decide +kernel
theorem dX1_askKeeping_13 : decode cX1_askKeeping 13 = .ok (.aload_n 0, 1) := by decide +kernel
theorem dX1_askKeeping_14 : decode cX1_askKeeping 14 = .ok (.getfield 12, 3) := by decide +kernel
theorem dX1_askKeeping_17 : decode cX1_askKeeping 17 = .ok (.iload_n 2, 1) := by decide +kernel
theorem dX1_askKeeping_18 : decode cX1_askKeeping 18 = .ok (.invokevirtual 77, 3) := by decide +kernel
theorem dX1_askKeeping_21 : decode cX1_askKeeping 21 = .ok (.aload_n 0, 1) := by decide +kernel
theorem dX1_askKeeping_22 : decode cX1_askKeeping 22 = .ok (.iload_n 1, 1) := by decide +kernel
theorem dX1_askKeeping_23 : decode cX1_askKeeping 23 = .ok (.invokevirtual 80, 3) := by decide +kernel
theorem dX1_askKeeping_26 : decode cX1_askKeeping 26 = .ok (.if_icmp .lt 7, 3) := by decide +kernel
theorem dX1_askKeeping_29 : decode cX1_askKeeping 29 = .ok (.iconst 1, 1) := by decide +kernel
theorem dX1_askKeeping_30 : decode cX1_askKeeping 30 = .ok (.goto 4, 3) := by decide +kernel
theorem dX1_askKeeping_33 : decode cX1_askKeeping 33 = .ok (.iconst 0, 1) := by decide +kernel
theorem dX1_askKeeping_34 : decode cX1_askKeeping 34 = .ok (.istore 4, 2) := by decide +kernel
theorem dX1_askKeeping_36 : decode cX1_askKeeping 36 = .ok (.iload_n 3, 1) := by decide +kernel
theorem dX1_askKeeping_37 : decode cX1_askKeeping 37 = .ok (.iconst (-1), 1) := by decide +kernel
theorem dX1_askKeeping_38 : decode cX1_askKeeping 38 = .ok (.if_icmp .ne 10, 3) := by decide +kernel
theorem dX1_askKeeping_41 : decode cX1_askKeeping 41 = .ok (.iconst 1, 1) := by decide +kernel
theorem dX1_askKeeping_42 : decode cX1_askKeeping 42 = .ok (.iload 4, 2) := by decide +kernel
theorem dX1_askKeeping_44 : decode cX1_askKeeping 44 = .ok (.isub, 1) := by decide +kernel
theorem dX1_askKeeping_45 : decode cX1_askKeeping 45 = .ok (.goto 5, 3) := by decide +kernel
theorem dX1_askKeeping_48 : decode cX1_askKeeping 48 = .ok (.iload 4, 2) := by decide +kernel
theorem dX1_askKeeping_50 : decode cX1_askKeeping 50 = .ok (.ireturn, 1) := by decide +kernel
theorem dX1_askAdding_0 : decode cX1_askAdding 0 = .ok (.aload_n 0, 1) := by decide +kernel
theorem dX1_askAdding_1 : decode cX1_askAdding 1 = .ok (.iload_n 1, 1) := by decide +kernel
theorem dX1_askAdding_2 : decode cX1_askAdding 2 = .ok (.invokevirtual 70, 3) := by decide +kernel
theorem dX1_askAdding_5 : decode cX1_askAdding 5 = .ok (.istore_n 3, 1) := by decide +kernel
theorem dX1_askAdding_6 : decode cX1_askAdding 6 = .ok (.iload_n 3, 1) := by decide +kernel
theorem dX1_askAdding_7 : decode cX1_askAdding 7 = .ok (.ifCond .le 6, 3) := by decide +kernel
theorem dX1_askAdding_10 : decode cX1_askAdding 10 = .ok (.bipush (-11), 2) := by decide +kernel
theorem dX1_askAdding_12 : decode cX1_askAdding 12 = .ok (.ireturn, 1) := by decide +kernel
theorem dX1_askAdding_13 : decode cX1_askAdding 13 = .ok (.aload_n 0, 1) := by decide +kernel
theorem dX1_askAdding_14 : decode cX1_askAdding 14 = .ok (.getfield 12, 3) := by decide +kernel
theorem dX1_askAdding_17 : decode cX1_askAdding 17 = .ok (.iload_n 2, 1) := by decide +kernel
theorem dX1_askAdding_18 : decode cX1_askAdding 18 = .ok (.invokevirtual 77, 3) := by decide +kernel
theorem dX1_askAdding_21 : decode cX1_askAdding 21 = .ok (.istore 4, 2) := by decide +kernel
theorem dX1_askAdding_23 : decode cX1_askAdding 23 = .ok (.aload_n 0, 1) := by decide +kernel
theorem dX1_askAdding_24 : decode cX1_askAdding 24 = .ok (.iload_n 1, 1) := by decide +kernel
theorem dX1_askAdding_25 : decode cX1_askAdding 25 = .ok (.invokevirtual 80, 3) := by decide +kernel
theorem dX1_askAdding_28 : decode cX1_askAdding 28 = .ok (.istore 5, 2) := by decide +kernel
theorem dX1_askAdding_30 : decode cX1_askAdding 30 = .ok (.aload_n 0, 1) := by decide +kernel
theorem dX1_askAdding_31 : decode cX1_askAdding 31 = .ok (.getfield 12, 3) := by decide +kernel
theorem dX1_askAdding_34 : decode cX1_askAdding 34 = .ok (.iload_n 3, 1) := by decide +kernel
theorem dX1_askAdding_35 : decode cX1_askAdding 35 = .ok (.iconst (-1), 1) := by decide +kernel
theorem dX1_askAdding_36 : decode cX1_askAdding 36 = .ok (.if_icmp .ne 11, 3) := by decide +kernel
theorem dX1_askAdding_39 : decode cX1_askAdding 39 = .ok (.iload 4, 2) := by decide +kernel
theorem dX1_askAdding_41 : decode cX1_askAdding 41 = .ok (.iload 5, 2) := by decide +kernel
theorem dX1_askAdding_43 : decode cX1_askAdding 43 = .ok (.isub, 1) := by decide +kernel
theorem dX1_askAdding_44 : decode cX1_askAdding 44 = .ok (.goto 8, 3) := by decide +kernel
theorem dX1_askAdding_47 : decode cX1_askAdding 47 = .ok (.iload 4, 2) := by decide +kernel
theorem dX1_askAdding_49 : decode cX1_askAdding 49 = .ok (.iload 5, 2) := by decide +kernel
theorem dX1_askAdding_51 : decode cX1_askAdding 51 = .ok (.iadd, 1) := by decide +kernel
theorem dX1_askAdding_52 : decode cX1_askAdding 52 = .ok (.aload_n 0, 1) := by decide +kernel
theorem dX1_askAdding_53 : decode cX1_askAdding 53 = .ok (.getfield 12, 3) := by decide +kernel
theorem dX1_askAdding_56 : decode cX1_askAdding 56 = .ok (.iload_n 2, 1) := by decide +kernel
theorem dX1_askAdding_57 : decode cX1_askAdding 57 = .ok (.invokevirtual 83, 3) := by decide +kernel
theorem dX1_askAdding_60 : decode cX1_askAdding 60 = .ok (.invokevirtual 86, 3) := by decide +kernel
theorem dX1_askAdding_63 : decode cX1_askAdding 63 = .ok (.ireturn, 1) := by decide +kernel
theorem dX1_compareTruly_0 : decode cX1_compareTruly 0 = .ok (.aload_n 0, 1) := by decide +kernel
theorem dX1_compareTruly_1 : decode cX1_compareTruly 1 = .ok (.iload_n 1, 1) := by decide +kernel
theorem dX1_compareTruly_2 : decode cX1_compareTruly 2 = .ok (.invokevirtual 47, 3) := by decide +kernel
theorem dX1_compareTruly_5 : decode cX1_compareTruly 5 = .ok (.ifCond .ne 5, 3) := by decide +kernel
theorem dX1_compareTruly_8 : decode cX1_compareTruly 8 = .ok (.iconst 0, 1) := by decide +kernel
theorem dX1_compareTruly_9 : decode cX1_compareTruly 9 = .ok (.ireturn, 1) := by decide +kernel
theorem dX1_compareTruly_10 : decode cX1_compareTruly 10 = .ok (.aload_n 0, 1) := by decide +kernel
theorem dX1_compareTruly_11 : decode cX1_compareTruly 11 = .ok (.getfield 12, 3) := by decide +kernel
theorem dX1_compareTruly_14 : decode cX1_compareTruly 14 = .ok (.iload_n 2, 1) := by decide +kernel
theorem dX1_compareTruly_15 : decode cX1_compareTruly 15 = .ok (.invokevirtual 77, 3) := by decide +kernel
theorem dX1_compareTruly_18 : decode cX1_compareTruly 18 = .ok (.aload_n 0, 1) := by decide +kernel
theorem dX1_compareTruly_19 : decode cX1_compareTruly 19 = .ok (.getfield 12, 3) := by decide +kernel
theorem dX1_compareTruly_22 : decode cX1_compareTruly 22 = .ok (.iload_n 3, 1) := by decide +kernel
theorem dX1_compareTruly_23 : decode cX1_compareTruly 23 = .ok (.invokevirtual 77, 3) := by decide +kernel
theorem dX1_compareTruly_26 : decode cX1_compareTruly 26 = .ok (.invokestatic 90, 3) := by decide +kernel
theorem dX1_compareTruly_29 : decode cX1_compareTruly 29 = .ok (.istore 4, 2) := by decide +kernel
theorem dX1_compareTruly_31 : decode cX1_compareTruly 31 = .ok (.aload_n 0, 1) := by decide +kernel
theorem dX1_compareTruly_32 : decode cX1_compareTruly 32 = .ok (.getfield 34, 3) := by decide +kernel
theorem dX1_compareTruly_35 : decode cX1_compareTruly 35 = .ok (.iload_n 1, 1) := by decide +kernel
theorem dX1_compareTruly_36 : decode cX1_compareTruly 36 = .ok (.aaload, 1) := by decide +kernel
theorem dX1_compareTruly_37 : decode cX1_compareTruly 37 = .ok (.getfield 51, 3) := by decide +kernel
theorem dX1_compareTruly_40 : decode cX1_compareTruly 40 = .ok (.tableswitch 69 0 2 #[28, 31, 35], 28) := by decide +kernel
theorem dX1_compareTruly_68 : decode cX1_compareTruly 68 = .ok (.iload 4, 2) := by decide +kernel
theorem dX1_compareTruly_70 : decode cX1_compareTruly 70 = .ok (.ireturn, 1) := by decide +kernel
theorem dX1_compareTruly_71 : decode cX1_compareTruly 71 = .ok (.iload 4, 2) := by decide +kernel
theorem dX1_compareTruly_73 : decode cX1_compareTruly 73 = .ok (.ineg, 1) := by decide +kernel
theorem dX1_compareTruly_74 : decode cX1_compareTruly 74 = .ok (.ireturn, 1) := by decide +kernel
theorem dX1_compareTruly_75 : decode cX1_compareTruly 75 = .ok (.aload_n 0, 1) := by decide +kernel
theorem dX1_compareTruly_76 : decode cX1_compareTruly 76 = .ok (.getfield 12, 3) := by decide +kernel
theorem dX1_compareTruly_79 : decode cX1_compareTruly 79 = .ok (.iload_n 2, 1) := by decide +kernel
theorem dX1_compareTruly_80 : decode cX1_compareTruly 80 = .ok (.invokevirtual 83, 3) := by decide +kernel
theorem dX1_compareTruly_83 : decode cX1_compareTruly 83 = .ok (.aload_n 0, 1) := by decide +kernel
theorem dX1_compareTruly_84 : decode cX1_compareTruly 84 = .ok (.getfield 12, 3) := by decide +kernel
theorem dX1_compareTruly_87 : decode cX1_compareTruly 87 = .ok (.iload_n 3, 1) := by decide +kernel
theorem dX1_compareTruly_88 : decode cX1_compareTruly 88 = .ok (.invokevirtual 83, 3) := by decide +kernel
theorem dX1_compareTruly_91 : decode cX1_compareTruly 91 = .ok (.invokestatic 90, 3) := by decide +kernel
theorem dX1_compareTruly_94 : decode cX1_compareTruly 94 = .ok (.istore 5, 2) := by decide +kernel
theorem dX1_compareTruly_96 : decode cX1_compareTruly 96 = .ok (.iload 5, 2) := by decide +kernel
theorem dX1_compareTruly_98 : decode cX1_compareTruly 98 = .ok (.ifCond .eq 8, 3) := by decide +kernel
theorem dX1_compareTruly_101 : decode cX1_compareTruly 101 = .ok (.iload 5, 2) := by decide +kernel
theorem dX1_compareTruly_103 : decode cX1_compareTruly 103 = .ok (.goto 5, 3) := by decide +kernel
theorem dX1_compareTruly_106 : decode cX1_compareTruly 106 = .ok (.iload 4, 2) := by decide +kernel
theorem dX1_compareTruly_108 : decode cX1_compareTruly 108 = .ok (.ireturn, 1) := by decide +kernel
theorem dX1_compareTruly_109 : decode cX1_compareTruly 109 = .ok (.iconst 0, 1) := by decide +kernel
theorem dX1_compareTruly_110 : decode cX1_compareTruly 110 = .ok (.ireturn, 1) := by decide +kernel
theorem dX1_numberOf_0 : decode cX1_numberOf 0 = .ok (.aload_n 0, 1) := by decide +kernel
theorem dX1_numberOf_1 : decode cX1_numberOf 1 = .ok (.iload_n 1, 1) := by decide +kernel
theorem dX1_numberOf_2 : decode cX1_numberOf 2 = .ok (.invokevirtual 47, 3) := by decide +kernel
theorem dX1_numberOf_5 : decode cX1_numberOf 5 = .ok (.ifCond .eq 15, 3) := by decide +kernel
theorem dX1_numberOf_8 : decode cX1_numberOf 8 = .ok (.aload_n 0, 1) := by decide +kernel
theorem dX1_numberOf_9 : decode cX1_numberOf 9 = .ok (.getfield 34, 3) := by decide +kernel
theorem dX1_numberOf_12 : decode cX1_numberOf 12 = .ok (.iload_n 1, 1) := by decide +kernel
theorem dX1_numberOf_13 : decode cX1_numberOf 13 = .ok (.aaload, 1) := by decide +kernel
theorem dX1_numberOf_14 : decode cX1_numberOf 14 = .ok (.getfield 95, 3) := by decide +kernel
theorem dX1_numberOf_17 : decode cX1_numberOf 17 = .ok (.goto 4, 3) := by decide +kernel
theorem dX1_numberOf_20 : decode cX1_numberOf 20 = .ok (.iconst 0, 1) := by decide +kernel
theorem dX1_numberOf_21 : decode cX1_numberOf 21 = .ok (.ireturn, 1) := by decide +kernel
theorem dX1_beginCall_0 : decode cX1_beginCall 0 = .ok (.aload_n 0, 1) := by decide +kernel
theorem dX1_beginCall_1 : decode cX1_beginCall 1 = .ok (.iload_n 1, 1) := by decide +kernel
theorem dX1_beginCall_2 : decode cX1_beginCall 2 = .ok (.invokevirtual 47, 3) := by decide +kernel
theorem dX1_beginCall_5 : decode cX1_beginCall 5 = .ok (.ifCond .ne 5, 3) := by decide +kernel
theorem dX1_beginCall_8 : decode cX1_beginCall 8 = .ok (.iconst 0, 1) := by decide +kernel
theorem dX1_beginCall_9 : decode cX1_beginCall 9 = .ok (.ireturn, 1) := by decide +kernel
theorem dX1_beginCall_10 : decode cX1_beginCall 10 = .ok (.aload_n 0, 1) := by decide +kernel
theorem dX1_beginCall_11 : decode cX1_beginCall 11 = .ok (.getfield 34, 3) := by decide +kernel
theorem dX1_beginCall_14 : decode cX1_beginCall 14 = .ok (.iload_n 1, 1) := by decide +kernel
theorem dX1_beginCall_15 : decode cX1_beginCall 15 = .ok (.aaload, 1) := by decide +kernel
theorem dX1_beginCall_16 : decode cX1_beginCall 16 = .ok (.astore_n 2, 1) := by decide +kernel
theorem dX1_beginCall_17 : decode cX1_beginCall 17 = .ok (.aload_n 2, 1) := by decide +kernel
theorem dX1_beginCall_18 : decode cX1_beginCall 18 = .ok (.dup, 1) := by decide +kernel
theorem dX1_beginCall_19 : decode cX1_beginCall 19 = .ok (.getfield 58, 3) := by decide +kernel
theorem dX1_beginCall_22 : decode cX1_beginCall 22 = .ok (.iconst 1, 1) := by decide +kernel
theorem dX1_beginCall_23 : decode cX1_beginCall 23 = .ok (.iadd, 1) := by decide +kernel
theorem dX1_beginCall_24 : decode cX1_beginCall 24 = .ok (.putfield 58, 3) := by decide +kernel
theorem dX1_beginCall_27 : decode cX1_beginCall 27 = .ok (.aload_n 2, 1) := by decide +kernel
theorem dX1_beginCall_28 : decode cX1_beginCall 28 = .ok (.dup, 1) := by decide +kernel
theorem dX1_beginCall_29 : decode cX1_beginCall 29 = .ok (.getfield 61, 3) := by decide +kernel
theorem dX1_beginCall_32 : decode cX1_beginCall 32 = .ok (.iconst 1, 1) := by decide +kernel
theorem dX1_beginCall_33 : decode cX1_beginCall 33 = .ok (.iadd, 1) := by decide +kernel
theorem dX1_beginCall_34 : decode cX1_beginCall 34 = .ok (.putfield 61, 3) := by decide +kernel
theorem dX1_beginCall_37 : decode cX1_beginCall 37 = .ok (.aload_n 0, 1) := by decide +kernel
theorem dX1_beginCall_38 : decode cX1_beginCall 38 = .ok (.getfield 21, 3) := by decide +kernel
theorem dX1_beginCall_41 : decode cX1_beginCall 41 = .ok (.iload_n 1, 1) := by decide +kernel
theorem dX1_beginCall_42 : decode cX1_beginCall 42 = .ok (.aload_n 2, 1) := by decide +kernel
theorem dX1_beginCall_43 : decode cX1_beginCall 43 = .ok (.getfield 58, 3) := by decide +kernel
theorem dX1_beginCall_46 : decode cX1_beginCall 46 = .ok (.invokevirtual 98, 3) := by decide +kernel
theorem dX1_beginCall_49 : decode cX1_beginCall 49 = .ok (.istore_n 3, 1) := by decide +kernel
theorem dX1_beginCall_50 : decode cX1_beginCall 50 = .ok (.aload_n 0, 1) := by decide +kernel
theorem dX1_beginCall_51 : decode cX1_beginCall 51 = .ok (.getfield 21, 3) := by decide +kernel
theorem dX1_beginCall_54 : decode cX1_beginCall 54 = .ok (.iload_n 3, 1) := by decide +kernel
theorem dX1_beginCall_55 : decode cX1_beginCall 55 = .ok (.invokevirtual 101, 3) := by decide +kernel
theorem dX1_beginCall_58 : decode cX1_beginCall 58 = .ok (.istore 4, 2) := by decide +kernel
theorem dX1_beginCall_60 : decode cX1_beginCall 60 = .ok (.aload_n 0, 1) := by decide +kernel
theorem dX1_beginCall_61 : decode cX1_beginCall 61 = .ok (.getfield 21, 3) := by decide +kernel
theorem dX1_beginCall_64 : decode cX1_beginCall 64 = .ok (.iload_n 3, 1) := by decide +kernel
theorem dX1_beginCall_65 : decode cX1_beginCall 65 = .ok (.invokevirtual 104, 3) := by decide +kernel
theorem dX1_beginCall_68 : decode cX1_beginCall 68 = .ok (.iload 4, 2) := by decide +kernel
theorem dX1_beginCall_70 : decode cX1_beginCall 70 = .ok (.ifCond .le 20, 3) := by decide +kernel
theorem dX1_beginCall_73 : decode cX1_beginCall 73 = .ok (.aload_n 0, 1) := by decide +kernel
theorem dX1_beginCall_74 : decode cX1_beginCall 74 = .ok (.getfield 28, 3) := by decide +kernel
theorem dX1_beginCall_77 : decode cX1_beginCall 77 = .ok (.iload 4, 2) := by decide +kernel
theorem dX1_beginCall_79 : decode cX1_beginCall 79 = .ok (.iload_n 1, 1) := by decide +kernel
theorem dX1_beginCall_80 : decode cX1_beginCall 80 = .ok (.aload_n 2, 1) := by decide +kernel
theorem dX1_beginCall_81 : decode cX1_beginCall 81 = .ok (.getfield 58, 3) := by decide +kernel
theorem dX1_beginCall_84 : decode cX1_beginCall 84 = .ok (.invokevirtual 108, 3) := by decide +kernel
theorem dX1_beginCall_87 : decode cX1_beginCall 87 = .ok (.goto 20, 3) := by decide +kernel
theorem dX1_beginCall_90 : decode cX1_beginCall 90 = .ok (.iload 4, 2) := by decide +kernel
theorem dX1_beginCall_92 : decode cX1_beginCall 92 = .ok (.bipush (-2), 2) := by decide +kernel
theorem dX1_beginCall_94 : decode cX1_beginCall 94 = .ok (.if_icmp .ne 13, 3) := by decide +kernel
theorem dX1_beginCall_97 : decode cX1_beginCall 97 = .ok (.aload_n 2, 1) := by decide +kernel
theorem dX1_beginCall_98 : decode cX1_beginCall 98 = .ok (.dup, 1) := by decide +kernel
theorem dX1_beginCall_99 : decode cX1_beginCall 99 = .ok (.getfield 64, 3) := by decide +kernel
theorem dX1_beginCall_102 : decode cX1_beginCall 102 = .ok (.iconst 1, 1) := by decide +kernel
theorem dX1_beginCall_103 : decode cX1_beginCall 103 = .ok (.iadd, 1) := by decide +kernel
theorem dX1_beginCall_104 : decode cX1_beginCall 104 = .ok (.putfield 64, 3) := by decide +kernel
theorem dX1_beginCall_107 : decode cX1_beginCall 107 = .ok (.iload 4, 2) := by decide +kernel
theorem dX1_beginCall_109 : decode cX1_beginCall 109 = .ok (.ireturn, 1) := by decide +kernel
theorem dX2_init_0 : decode cX2_init 0 = .ok (.aload_n 0, 1) := by decide +kernel
theorem dX2_init_1 : decode cX2_init 1 = .ok (.invokespecial 3, 3) := by decide +kernel
theorem dX2_init_4 : decode cX2_init 4 = .ok (.aload_n 0, 1) := by decide +kernel
theorem dX2_init_5 : decode cX2_init 5 = .ok (.iconst 0, 1) := by decide +kernel
theorem dX2_init_6 : decode cX2_init 6 = .ok (.putfield 9, 3) := by decide +kernel
theorem dX2_init_9 : decode cX2_init 9 = .ok (.aload_n 0, 1) := by decide +kernel
theorem dX2_init_10 : decode cX2_init 10 = .ok (.iconst 0, 1) := by decide +kernel
theorem dX2_init_11 : decode cX2_init 11 = .ok (.putfield 15, 3) := by decide +kernel
theorem dX2_init_14 : decode cX2_init 14 = .ok (.aload_n 0, 1) := by decide +kernel
theorem dX2_init_15 : decode cX2_init 15 = .ok (.iconst 0, 1) := by decide +kernel
theorem dX2_init_16 : decode cX2_init 16 = .ok (.putfield 18, 3) := by decide +kernel
theorem dX2_init_19 : decode cX2_init 19 = .ok (.aload_n 0, 1) := by decide +kernel
theorem dX2_init_20 : decode cX2_init 20 = .ok (.iconst 0, 1) := by decide +kernel
theorem dX2_init_21 : decode cX2_init 21 = .ok (.putfield 21, 3) := by decide +kernel
theorem dX2_init_24 : decode cX2_init 24 = .ok (.aload_n 0, 1) := by decide +kernel
theorem dX2_init_25 : decode cX2_init 25 = .ok (.iconst 0, 1) := by decide +kernel
theorem dX2_init_26 : decode cX2_init 26 = .ok (.putfield 24, 3) := by decide +kernel
theorem dX2_init_29 : decode cX2_init 29 = .ok (.return_, 1) := by decide +kernel
theorem dX2_become_0 : decode cX2_become 0 = .ok (.aload_n 0, 1) := by decide +kernel
theorem dX2_become_1 : decode cX2_become 1 = .ok (.iload_n 1, 1) := by decide +kernel
theorem dX2_become_2 : decode cX2_become 2 = .ok (.putfield 9, 3) := by decide +kernel
theorem dX2_become_5 : decode cX2_become 5 = .ok (.aload_n 0, 1) := by decide +kernel
theorem dX2_become_6 : decode cX2_become 6 = .ok (.iload_n 2, 1) := by decide +kernel
theorem dX2_become_7 : decode cX2_become 7 = .ok (.putfield 15, 3) := by decide +kernel
theorem dX2_become_10 : decode cX2_become 10 = .ok (.return_, 1) := by decide +kernel
theorem dX3_init_0 : decode cX3_init 0 = .ok (.aload_n 0, 1) := by decide +kernel
theorem dX3_init_1 : decode cX3_init 1 = .ok (.invokespecial 3, 3) := by decide +kernel
theorem dX3_init_4 : decode cX3_init 4 = .ok (.aload_n 0, 1) := by decide +kernel
theorem dX3_init_5 : decode cX3_init 5 = .ok (.iconst 0, 1) := by decide +kernel
theorem dX3_init_6 : decode cX3_init 6 = .ok (.putfield 9, 3) := by decide +kernel
theorem dX3_init_9 : decode cX3_init 9 = .ok (.aload_n 0, 1) := by decide +kernel
theorem dX3_init_10 : decode cX3_init 10 = .ok (.bipush (-4), 2) := by decide +kernel
theorem dX3_init_12 : decode cX3_init 12 = .ok (.putfield 15, 3) := by decide +kernel
theorem dX3_init_15 : decode cX3_init 15 = .ok (.aload_n 0, 1) := by decide +kernel
theorem dX3_init_16 : decode cX3_init 16 = .ok (.iconst 0, 1) := by decide +kernel
theorem dX3_init_17 : decode cX3_init 17 = .ok (.putfield 18, 3) := by decide +kernel
theorem dX3_init_20 : decode cX3_init 20 = .ok (.aload_n 0, 1) := by decide +kernel
theorem dX3_init_21 : decode cX3_init 21 = .ok (.iconst 0, 1) := by decide +kernel
theorem dX3_init_22 : decode cX3_init 22 = .ok (.putfield 21, 3) := by decide +kernel
theorem dX3_init_25 : decode cX3_init 25 = .ok (.aload_n 0, 1) := by decide +kernel
theorem dX3_init_26 : decode cX3_init 26 = .ok (.iconst 0, 1) := by decide +kernel
theorem dX3_init_27 : decode cX3_init 27 = .ok (.putfield 24, 3) := by decide +kernel
theorem dX3_init_30 : decode cX3_init 30 = .ok (.aload_n 0, 1) := by decide +kernel
theorem dX3_init_31 : decode cX3_init 31 = .ok (.iconst 0, 1) := by decide +kernel
theorem dX3_init_32 : decode cX3_init 32 = .ok (.putfield 27, 3) := by decide +kernel
theorem dX3_init_35 : decode cX3_init 35 = .ok (.return_, 1) := by decide +kernel
theorem dX3_begin_0 : decode cX3_begin 0 = .ok (.aload_n 0, 1) := by decide +kernel
theorem dX3_begin_1 : decode cX3_begin 1 = .ok (.iconst 0, 1) := by decide +kernel
theorem dX3_begin_2 : decode cX3_begin 2 = .ok (.putfield 9, 3) := by decide +kernel
theorem dX3_begin_5 : decode cX3_begin 5 = .ok (.aload_n 0, 1) := by decide +kernel
theorem dX3_begin_6 : decode cX3_begin 6 = .ok (.bipush (-4), 2) := by decide +kernel
theorem dX3_begin_8 : decode cX3_begin 8 = .ok (.putfield 15, 3) := by decide +kernel
theorem dX3_begin_11 : decode cX3_begin 11 = .ok (.aload_n 0, 1) := by decide +kernel
theorem dX3_begin_12 : decode cX3_begin 12 = .ok (.iconst 0, 1) := by decide +kernel
theorem dX3_begin_13 : decode cX3_begin 13 = .ok (.putfield 18, 3) := by decide +kernel
theorem dX3_begin_16 : decode cX3_begin 16 = .ok (.aload_n 0, 1) := by decide +kernel
theorem dX3_begin_17 : decode cX3_begin 17 = .ok (.iconst 0, 1) := by decide +kernel
theorem dX3_begin_18 : decode cX3_begin 18 = .ok (.putfield 21, 3) := by decide +kernel
theorem dX3_begin_21 : decode cX3_begin 21 = .ok (.aload_n 0, 1) := by decide +kernel
theorem dX3_begin_22 : decode cX3_begin 22 = .ok (.dup, 1) := by decide +kernel
theorem dX3_begin_23 : decode cX3_begin 23 = .ok (.getfield 24, 3) := by decide +kernel
theorem dX3_begin_26 : decode cX3_begin 26 = .ok (.iconst 1, 1) := by decide +kernel
theorem dX3_begin_27 : decode cX3_begin 27 = .ok (.iadd, 1) := by decide +kernel
theorem dX3_begin_28 : decode cX3_begin 28 = .ok (.putfield 24, 3) := by decide +kernel
theorem dX3_begin_31 : decode cX3_begin 31 = .ok (.return_, 1) := by decide +kernel
theorem dX3_fail_0 : decode cX3_fail 0 = .ok (.aload_n 0, 1) := by decide +kernel
theorem dX3_fail_1 : decode cX3_fail 1 = .ok (.iload_n 1, 1) := by decide +kernel
theorem dX3_fail_2 : decode cX3_fail 2 = .ok (.putfield 9, 3) := by decide +kernel
theorem dX3_fail_5 : decode cX3_fail 5 = .ok (.aload_n 0, 1) := by decide +kernel
theorem dX3_fail_6 : decode cX3_fail 6 = .ok (.iload_n 2, 1) := by decide +kernel
theorem dX3_fail_7 : decode cX3_fail 7 = .ok (.putfield 15, 3) := by decide +kernel
theorem dX3_fail_10 : decode cX3_fail 10 = .ok (.aload_n 0, 1) := by decide +kernel
theorem dX3_fail_11 : decode cX3_fail 11 = .ok (.iload_n 3, 1) := by decide +kernel
theorem dX3_fail_12 : decode cX3_fail 12 = .ok (.putfield 18, 3) := by decide +kernel
theorem dX3_fail_15 : decode cX3_fail 15 = .ok (.aload_n 0, 1) := by decide +kernel
theorem dX3_fail_16 : decode cX3_fail 16 = .ok (.dup, 1) := by decide +kernel
theorem dX3_fail_17 : decode cX3_fail 17 = .ok (.getfield 27, 3) := by decide +kernel
theorem dX3_fail_20 : decode cX3_fail 20 = .ok (.iconst 1, 1) := by decide +kernel
theorem dX3_fail_21 : decode cX3_fail 21 = .ok (.iadd, 1) := by decide +kernel
theorem dX3_fail_22 : decode cX3_fail 22 = .ok (.putfield 27, 3) := by decide +kernel
theorem dX3_fail_25 : decode cX3_fail 25 = .ok (.return_, 1) := by decide +kernel
theorem dX4_init_0 : decode cX4_init 0 = .ok (.aload_n 0, 1) := by decide +kernel
theorem dX4_init_1 : decode cX4_init 1 = .ok (.invokespecial 3, 3) := by decide +kernel
theorem dX4_init_4 : decode cX4_init 4 = .ok (.aload_n 0, 1) := by decide +kernel
theorem dX4_init_5 : decode cX4_init 5 = .ok (.bipush 12, 2) := by decide +kernel
theorem dX4_init_7 : decode cX4_init 7 = .ok (.newarray .int, 2) := by decide +kernel
theorem dX4_init_9 : decode cX4_init 9 = .ok (.putfield 9, 3) := by decide +kernel
theorem dX4_init_12 : decode cX4_init 12 = .ok (.aload_n 0, 1) := by decide +kernel
theorem dX4_init_13 : decode cX4_init 13 = .ok (.bipush 12, 2) := by decide +kernel
theorem dX4_init_15 : decode cX4_init 15 = .ok (.newarray .int, 2) := by decide +kernel
theorem dX4_init_17 : decode cX4_init 17 = .ok (.putfield 15, 3) := by decide +kernel
theorem dX4_init_20 : decode cX4_init 20 = .ok (.aload_n 0, 1) := by decide +kernel
theorem dX4_init_21 : decode cX4_init 21 = .ok (.bipush 12, 2) := by decide +kernel
theorem dX4_init_23 : decode cX4_init 23 = .ok (.newarray .int, 2) := by decide +kernel
theorem dX4_init_25 : decode cX4_init 25 = .ok (.putfield 18, 3) := by decide +kernel
theorem dX4_init_28 : decode cX4_init 28 = .ok (.aload_n 0, 1) := by decide +kernel
theorem dX4_init_29 : decode cX4_init 29 = .ok (.iconst 0, 1) := by decide +kernel
theorem dX4_init_30 : decode cX4_init 30 = .ok (.putfield 21, 3) := by decide +kernel
theorem dX4_init_33 : decode cX4_init 33 = .ok (.return_, 1) := by decide +kernel
theorem dX4_stand_0 : decode cX4_stand 0 = .ok (.aload_n 0, 1) := by decide +kernel
theorem dX4_stand_1 : decode cX4_stand 1 = .ok (.iload_n 1, 1) := by decide +kernel
theorem dX4_stand_2 : decode cX4_stand 2 = .ok (.iload_n 2, 1) := by decide +kernel
theorem dX4_stand_3 : decode cX4_stand 3 = .ok (.invokevirtual 25, 3) := by decide +kernel
theorem dX4_stand_6 : decode cX4_stand 6 = .ok (.istore 4, 2) := by decide +kernel
theorem dX4_stand_8 : decode cX4_stand 8 = .ok (.iload 4, 2) := by decide +kernel
theorem dX4_stand_10 : decode cX4_stand 10 = .ok (.bipush (-4), 2) := by decide +kernel
theorem dX4_stand_12 : decode cX4_stand 12 = .ok (.if_icmp .ne 31, 3) := by decide +kernel
theorem dX4_stand_15 : decode cX4_stand 15 = .ok (.aload_n 0, 1) := by decide +kernel
theorem dX4_stand_16 : decode cX4_stand 16 = .ok (.getfield 21, 3) := by decide +kernel
theorem dX4_stand_19 : decode cX4_stand 19 = .ok (.bipush 12, 2) := by decide +kernel
theorem dX4_stand_21 : decode cX4_stand 21 = .ok (.if_icmp .lt 6, 3) := by decide +kernel
theorem dX4_stand_24 : decode cX4_stand 24 = .ok (.bipush (-3), 2) := by decide +kernel
theorem dX4_stand_26 : decode cX4_stand 26 = .ok (.ireturn, 1) := by decide +kernel
theorem dX4_stand_27 : decode cX4_stand 27 = .ok (.aload_n 0, 1) := by decide +kernel
theorem dX4_stand_28 : decode cX4_stand 28 = .ok (.getfield 21, 3) := by decide +kernel
theorem dX4_stand_31 : decode cX4_stand 31 = .ok (.istore 4, 2) := by decide +kernel
theorem dX4_stand_33 : decode cX4_stand 33 = .ok (.aload_n 0, 1) := by decide +kernel
theorem dX4_stand_34 : decode cX4_stand 34 = .ok (.dup, 1) := by decide +kernel
theorem dX4_stand_35 : decode cX4_stand 35 = .ok (.getfield 21, 3) := by decide +kernel
theorem dX4_stand_38 : decode cX4_stand 38 = .ok (.iconst 1, 1) := by decide +kernel
theorem dX4_stand_39 : decode cX4_stand 39 = .ok (.iadd, 1) := by decide +kernel
theorem dX4_stand_40 : decode cX4_stand 40 = .ok (.putfield 21, 3) := by decide +kernel
theorem dX4_stand_43 : decode cX4_stand 43 = .ok (.aload_n 0, 1) := by decide +kernel
theorem dX4_stand_44 : decode cX4_stand 44 = .ok (.getfield 9, 3) := by decide +kernel
theorem dX4_stand_47 : decode cX4_stand 47 = .ok (.iload 4, 2) := by decide +kernel
theorem dX4_stand_49 : decode cX4_stand 49 = .ok (.iload_n 1, 1) := by decide +kernel
theorem dX4_stand_50 : decode cX4_stand 50 = .ok (.iastore, 1) := by decide +kernel
theorem dX4_stand_51 : decode cX4_stand 51 = .ok (.aload_n 0, 1) := by decide +kernel
theorem dX4_stand_52 : decode cX4_stand 52 = .ok (.getfield 15, 3) := by decide +kernel
theorem dX4_stand_55 : decode cX4_stand 55 = .ok (.iload 4, 2) := by decide +kernel
theorem dX4_stand_57 : decode cX4_stand 57 = .ok (.iload_n 2, 1) := by decide +kernel
theorem dX4_stand_58 : decode cX4_stand 58 = .ok (.iastore, 1) := by decide +kernel
theorem dX4_stand_59 : decode cX4_stand 59 = .ok (.aload_n 0, 1) := by decide +kernel
theorem dX4_stand_60 : decode cX4_stand 60 = .ok (.getfield 18, 3) := by decide +kernel
theorem dX4_stand_63 : decode cX4_stand 63 = .ok (.iload 4, 2) := by decide +kernel
theorem dX4_stand_65 : decode cX4_stand 65 = .ok (.iload_n 3, 1) := by decide +kernel
theorem dX4_stand_66 : decode cX4_stand 66 = .ok (.iastore, 1) := by decide +kernel
theorem dX4_stand_67 : decode cX4_stand 67 = .ok (.aload_n 0, 1) := by decide +kernel
theorem dX4_stand_68 : decode cX4_stand 68 = .ok (.getfield 21, 3) := by decide +kernel
theorem dX4_stand_71 : decode cX4_stand 71 = .ok (.ireturn, 1) := by decide +kernel
theorem dX4_effectOf_0 : decode cX4_effectOf 0 = .ok (.iload_n 1, 1) := by decide +kernel
theorem dX4_effectOf_1 : decode cX4_effectOf 1 = .ok (.ifCond .lt 20, 3) := by decide +kernel
theorem dX4_effectOf_4 : decode cX4_effectOf 4 = .ok (.iload_n 1, 1) := by decide +kernel
theorem dX4_effectOf_5 : decode cX4_effectOf 5 = .ok (.aload_n 0, 1) := by decide +kernel
theorem dX4_effectOf_6 : decode cX4_effectOf 6 = .ok (.getfield 21, 3) := by decide +kernel
theorem dX4_effectOf_9 : decode cX4_effectOf 9 = .ok (.if_icmp .ge 12, 3) := by decide +kernel
theorem dX4_effectOf_12 : decode cX4_effectOf 12 = .ok (.aload_n 0, 1) := by decide +kernel
theorem dX4_effectOf_13 : decode cX4_effectOf 13 = .ok (.getfield 18, 3) := by decide +kernel
theorem dX4_effectOf_16 : decode cX4_effectOf 16 = .ok (.iload_n 1, 1) := by decide +kernel
theorem dX4_effectOf_17 : decode cX4_effectOf 17 = .ok (.iaload, 1) := by decide +kernel
theorem dX4_effectOf_18 : decode cX4_effectOf 18 = .ok (.goto 4, 3) := by decide +kernel
theorem dX4_effectOf_21 : decode cX4_effectOf 21 = .ok (.iconst 0, 1) := by decide +kernel
theorem dX4_effectOf_22 : decode cX4_effectOf 22 = .ok (.ireturn, 1) := by decide +kernel
theorem dX4_drop_0 : decode cX4_drop 0 = .ok (.iload_n 1, 1) := by decide +kernel
theorem dX4_drop_1 : decode cX4_drop 1 = .ok (.ifCond .lt 11, 3) := by decide +kernel
theorem dX4_drop_4 : decode cX4_drop 4 = .ok (.iload_n 1, 1) := by decide +kernel
theorem dX4_drop_5 : decode cX4_drop 5 = .ok (.aload_n 0, 1) := by decide +kernel
theorem dX4_drop_6 : decode cX4_drop 6 = .ok (.getfield 21, 3) := by decide +kernel
theorem dX4_drop_9 : decode cX4_drop 9 = .ok (.if_icmp .lt 4, 3) := by decide +kernel
theorem dX4_drop_12 : decode cX4_drop 12 = .ok (.return_, 1) := by decide +kernel
theorem dX4_drop_13 : decode cX4_drop 13 = .ok (.aload_n 0, 1) := by decide +kernel
theorem dX4_drop_14 : decode cX4_drop 14 = .ok (.dup, 1) := by decide +kernel
theorem dX4_drop_15 : decode cX4_drop 15 = .ok (.getfield 21, 3) := by decide +kernel
theorem dX4_drop_18 : decode cX4_drop 18 = .ok (.iconst 1, 1) := by decide +kernel
theorem dX4_drop_19 : decode cX4_drop 19 = .ok (.isub, 1) := by decide +kernel
theorem dX4_drop_20 : decode cX4_drop 20 = .ok (.putfield 21, 3) := by decide +kernel
theorem dX4_drop_23 : decode cX4_drop 23 = .ok (.aload_n 0, 1) := by decide +kernel
theorem dX4_drop_24 : decode cX4_drop 24 = .ok (.getfield 9, 3) := by decide +kernel
theorem dX4_drop_27 : decode cX4_drop 27 = .ok (.iload_n 1, 1) := by decide +kernel
theorem dX4_drop_28 : decode cX4_drop 28 = .ok (.aload_n 0, 1) := by decide +kernel
theorem dX4_drop_29 : decode cX4_drop 29 = .ok (.getfield 9, 3) := by decide +kernel
theorem dX4_drop_32 : decode cX4_drop 32 = .ok (.aload_n 0, 1) := by decide +kernel
theorem dX4_drop_33 : decode cX4_drop 33 = .ok (.getfield 21, 3) := by decide +kernel
theorem dX4_drop_36 : decode cX4_drop 36 = .ok (.iaload, 1) := by decide +kernel
theorem dX4_drop_37 : decode cX4_drop 37 = .ok (.iastore, 1) := by decide +kernel
theorem dX4_drop_38 : decode cX4_drop 38 = .ok (.aload_n 0, 1) := by decide +kernel
theorem dX4_drop_39 : decode cX4_drop 39 = .ok (.getfield 15, 3) := by decide +kernel
theorem dX4_drop_42 : decode cX4_drop 42 = .ok (.iload_n 1, 1) := by decide +kernel
theorem dX4_drop_43 : decode cX4_drop 43 = .ok (.aload_n 0, 1) := by decide +kernel
theorem dX4_drop_44 : decode cX4_drop 44 = .ok (.getfield 15, 3) := by decide +kernel
theorem dX4_drop_47 : decode cX4_drop 47 = .ok (.aload_n 0, 1) := by decide +kernel
theorem dX4_drop_48 : decode cX4_drop 48 = .ok (.getfield 21, 3) := by decide +kernel
theorem dX4_drop_51 : decode cX4_drop 51 = .ok (.iaload, 1) := by decide +kernel
theorem dX4_drop_52 : decode cX4_drop 52 = .ok (.iastore, 1) := by decide +kernel
theorem dX4_drop_53 : decode cX4_drop 53 = .ok (.aload_n 0, 1) := by decide +kernel
theorem dX4_drop_54 : decode cX4_drop 54 = .ok (.getfield 18, 3) := by decide +kernel
theorem dX4_drop_57 : decode cX4_drop 57 = .ok (.iload_n 1, 1) := by decide +kernel
theorem dX4_drop_58 : decode cX4_drop 58 = .ok (.aload_n 0, 1) := by decide +kernel
theorem dX4_drop_59 : decode cX4_drop 59 = .ok (.getfield 18, 3) := by decide +kernel
theorem dX4_drop_62 : decode cX4_drop 62 = .ok (.aload_n 0, 1) := by decide +kernel
theorem dX4_drop_63 : decode cX4_drop 63 = .ok (.getfield 21, 3) := by decide +kernel
theorem dX4_drop_66 : decode cX4_drop 66 = .ok (.iaload, 1) := by decide +kernel
theorem dX4_drop_67 : decode cX4_drop 67 = .ok (.iastore, 1) := by decide +kernel
theorem dX4_drop_68 : decode cX4_drop 68 = .ok (.return_, 1) := by decide +kernel
theorem dX4_clear_0 : decode cX4_clear 0 = .ok (.aload_n 0, 1) := by decide +kernel
theorem dX4_clear_1 : decode cX4_clear 1 = .ok (.getfield 21, 3) := by decide +kernel
theorem dX4_clear_4 : decode cX4_clear 4 = .ok (.istore_n 1, 1) := by decide +kernel
theorem dX4_clear_5 : decode cX4_clear 5 = .ok (.aload_n 0, 1) := by decide +kernel
theorem dX4_clear_6 : decode cX4_clear 6 = .ok (.iconst 0, 1) := by decide +kernel
theorem dX4_clear_7 : decode cX4_clear 7 = .ok (.putfield 21, 3) := by decide +kernel
theorem dX4_clear_10 : decode cX4_clear 10 = .ok (.iload_n 1, 1) := by decide +kernel
theorem dX4_clear_11 : decode cX4_clear 11 = .ok (.ireturn, 1) := by decide +kernel
theorem dX4_standingFor_0 : decode cX4_standingFor 0 = .ok (.iconst 0, 1) := by decide +kernel
theorem dX4_standingFor_1 : decode cX4_standingFor 1 = .ok (.istore_n 2, 1) := by decide +kernel
theorem dX4_standingFor_2 : decode cX4_standingFor 2 = .ok (.iconst 0, 1) := by decide +kernel
theorem dX4_standingFor_3 : decode cX4_standingFor 3 = .ok (.istore_n 3, 1) := by decide +kernel
theorem dX4_standingFor_4 : decode cX4_standingFor 4 = .ok (.iload_n 3, 1) := by decide +kernel
theorem dX4_standingFor_5 : decode cX4_standingFor 5 = .ok (.aload_n 0, 1) := by decide +kernel
theorem dX4_standingFor_6 : decode cX4_standingFor 6 = .ok (.getfield 21, 3) := by decide +kernel
theorem dX4_standingFor_9 : decode cX4_standingFor 9 = .ok (.if_icmp .ge 22, 3) := by decide +kernel
theorem dX4_standingFor_12 : decode cX4_standingFor 12 = .ok (.aload_n 0, 1) := by decide +kernel
theorem dX4_standingFor_13 : decode cX4_standingFor 13 = .ok (.getfield 9, 3) := by decide +kernel
theorem dX4_standingFor_16 : decode cX4_standingFor 16 = .ok (.iload_n 3, 1) := by decide +kernel
theorem dX4_standingFor_17 : decode cX4_standingFor 17 = .ok (.iaload, 1) := by decide +kernel
theorem dX4_standingFor_18 : decode cX4_standingFor 18 = .ok (.iload_n 1, 1) := by decide +kernel
theorem dX4_standingFor_19 : decode cX4_standingFor 19 = .ok (.if_icmp .ne 6, 3) := by decide +kernel
theorem dX4_standingFor_22 : decode cX4_standingFor 22 = .ok (.iinc 2 1, 3) := by decide +kernel
theorem dX4_standingFor_25 : decode cX4_standingFor 25 = .ok (.iinc 3 1, 3) := by decide +kernel
theorem dX4_standingFor_28 : decode cX4_standingFor 28 = .ok (.goto (-24), 3) := by decide +kernel
theorem dX4_standingFor_31 : decode cX4_standingFor 31 = .ok (.iload_n 2, 1) := by decide +kernel
theorem dX4_standingFor_32 : decode cX4_standingFor 32 = .ok (.ireturn, 1) := by decide +kernel
theorem dX4_indexOf_0 : decode cX4_indexOf 0 = .ok (.iconst 0, 1) := by decide +kernel
theorem dX4_indexOf_1 : decode cX4_indexOf 1 = .ok (.istore_n 3, 1) := by decide +kernel
theorem dX4_indexOf_2 : decode cX4_indexOf 2 = .ok (.iload_n 3, 1) := by decide +kernel
theorem dX4_indexOf_3 : decode cX4_indexOf 3 = .ok (.aload_n 0, 1) := by decide +kernel
theorem dX4_indexOf_4 : decode cX4_indexOf 4 = .ok (.getfield 21, 3) := by decide +kernel
theorem dX4_indexOf_7 : decode cX4_indexOf 7 = .ok (.if_icmp .ge 31, 3) := by decide +kernel
theorem dX4_indexOf_10 : decode cX4_indexOf 10 = .ok (.aload_n 0, 1) := by decide +kernel
theorem dX4_indexOf_11 : decode cX4_indexOf 11 = .ok (.getfield 9, 3) := by decide +kernel
theorem dX4_indexOf_14 : decode cX4_indexOf 14 = .ok (.iload_n 3, 1) := by decide +kernel
theorem dX4_indexOf_15 : decode cX4_indexOf 15 = .ok (.iaload, 1) := by decide +kernel
theorem dX4_indexOf_16 : decode cX4_indexOf 16 = .ok (.iload_n 1, 1) := by decide +kernel
theorem dX4_indexOf_17 : decode cX4_indexOf 17 = .ok (.if_icmp .ne 15, 3) := by decide +kernel
theorem dX4_indexOf_20 : decode cX4_indexOf 20 = .ok (.aload_n 0, 1) := by decide +kernel
theorem dX4_indexOf_21 : decode cX4_indexOf 21 = .ok (.getfield 15, 3) := by decide +kernel
theorem dX4_indexOf_24 : decode cX4_indexOf 24 = .ok (.iload_n 3, 1) := by decide +kernel
theorem dX4_indexOf_25 : decode cX4_indexOf 25 = .ok (.iaload, 1) := by decide +kernel
theorem dX4_indexOf_26 : decode cX4_indexOf 26 = .ok (.iload_n 2, 1) := by decide +kernel
theorem dX4_indexOf_27 : decode cX4_indexOf 27 = .ok (.if_icmp .ne 5, 3) := by decide +kernel
theorem dX4_indexOf_30 : decode cX4_indexOf 30 = .ok (.iload_n 3, 1) := by decide +kernel
theorem dX4_indexOf_31 : decode cX4_indexOf 31 = .ok (.ireturn, 1) := by decide +kernel
theorem dX4_indexOf_32 : decode cX4_indexOf 32 = .ok (.iinc 3 1, 3) := by decide +kernel
theorem dX4_indexOf_35 : decode cX4_indexOf 35 = .ok (.goto (-33), 3) := by decide +kernel
theorem dX4_indexOf_38 : decode cX4_indexOf 38 = .ok (.bipush (-4), 2) := by decide +kernel
theorem dX4_indexOf_40 : decode cX4_indexOf 40 = .ok (.ireturn, 1) := by decide +kernel
theorem dX5_init_0 : decode cX5_init 0 = .ok (.aload_n 0, 1) := by decide +kernel
theorem dX5_init_1 : decode cX5_init 1 = .ok (.invokespecial 3, 3) := by decide +kernel
theorem dX5_init_4 : decode cX5_init 4 = .ok (.aload_n 0, 1) := by decide +kernel
theorem dX5_init_5 : decode cX5_init 5 = .ok (.bipush 40, 2) := by decide +kernel
theorem dX5_init_7 : decode cX5_init 7 = .ok (.newarray .int, 2) := by decide +kernel
theorem dX5_init_9 : decode cX5_init 9 = .ok (.putfield 9, 3) := by decide +kernel
theorem dX5_init_12 : decode cX5_init 12 = .ok (.aload_n 0, 1) := by decide +kernel
theorem dX5_init_13 : decode cX5_init 13 = .ok (.iconst 0, 1) := by decide +kernel
theorem dX5_init_14 : decode cX5_init 14 = .ok (.putfield 15, 3) := by decide +kernel
theorem dX5_init_17 : decode cX5_init 17 = .ok (.return_, 1) := by decide +kernel
theorem dX5_hasPlace_0 : decode cX5_hasPlace 0 = .ok (.iload_n 1, 1) := by decide +kernel
theorem dX5_hasPlace_1 : decode cX5_hasPlace 1 = .ok (.ifCond .lt 15, 3) := by decide +kernel
theorem dX5_hasPlace_4 : decode cX5_hasPlace 4 = .ok (.iload_n 1, 1) := by decide +kernel
theorem dX5_hasPlace_5 : decode cX5_hasPlace 5 = .ok (.aload_n 0, 1) := by decide +kernel
theorem dX5_hasPlace_6 : decode cX5_hasPlace 6 = .ok (.getfield 15, 3) := by decide +kernel
theorem dX5_hasPlace_9 : decode cX5_hasPlace 9 = .ok (.if_icmp .ge 7, 3) := by decide +kernel
theorem dX5_hasPlace_12 : decode cX5_hasPlace 12 = .ok (.iconst 1, 1) := by decide +kernel
theorem dX5_hasPlace_13 : decode cX5_hasPlace 13 = .ok (.goto 4, 3) := by decide +kernel
theorem dX5_hasPlace_16 : decode cX5_hasPlace 16 = .ok (.iconst 0, 1) := by decide +kernel
theorem dX5_hasPlace_17 : decode cX5_hasPlace 17 = .ok (.ireturn, 1) := by decide +kernel
theorem dX5_cardAt_0 : decode cX5_cardAt 0 = .ok (.aload_n 0, 1) := by decide +kernel
theorem dX5_cardAt_1 : decode cX5_cardAt 1 = .ok (.iload_n 1, 1) := by decide +kernel
theorem dX5_cardAt_2 : decode cX5_cardAt 2 = .ok (.invokevirtual 19, 3) := by decide +kernel
theorem dX5_cardAt_5 : decode cX5_cardAt 5 = .ok (.ifCond .eq 12, 3) := by decide +kernel
theorem dX5_cardAt_8 : decode cX5_cardAt 8 = .ok (.aload_n 0, 1) := by decide +kernel
theorem dX5_cardAt_9 : decode cX5_cardAt 9 = .ok (.getfield 9, 3) := by decide +kernel
theorem dX5_cardAt_12 : decode cX5_cardAt 12 = .ok (.iload_n 1, 1) := by decide +kernel
theorem dX5_cardAt_13 : decode cX5_cardAt 13 = .ok (.iaload, 1) := by decide +kernel
theorem dX5_cardAt_14 : decode cX5_cardAt 14 = .ok (.goto 5, 3) := by decide +kernel
theorem dX5_cardAt_17 : decode cX5_cardAt 17 = .ok (.bipush (-4), 2) := by decide +kernel
theorem dX5_cardAt_19 : decode cX5_cardAt 19 = .ok (.ireturn, 1) := by decide +kernel
theorem dX5_isLike_0 : decode cX5_isLike 0 = .ok (.aload_n 0, 1) := by decide +kernel
theorem dX5_isLike_1 : decode cX5_isLike 1 = .ok (.getfield 15, 3) := by decide +kernel
theorem dX5_isLike_4 : decode cX5_isLike 4 = .ok (.aload_n 1, 1) := by decide +kernel
theorem dX5_isLike_5 : decode cX5_isLike 5 = .ok (.getfield 15, 3) := by decide +kernel
theorem dX5_isLike_8 : decode cX5_isLike 8 = .ok (.if_icmp .eq 5, 3) := by decide +kernel
theorem dX5_isLike_11 : decode cX5_isLike 11 = .ok (.iconst 0, 1) := by decide +kernel
theorem dX5_isLike_12 : decode cX5_isLike 12 = .ok (.ireturn, 1) := by decide +kernel
theorem dX5_isLike_13 : decode cX5_isLike 13 = .ok (.iconst 0, 1) := by decide +kernel
theorem dX5_isLike_14 : decode cX5_isLike 14 = .ok (.istore_n 2, 1) := by decide +kernel
theorem dX5_isLike_15 : decode cX5_isLike 15 = .ok (.iload_n 2, 1) := by decide +kernel
theorem dX5_isLike_16 : decode cX5_isLike 16 = .ok (.aload_n 0, 1) := by decide +kernel
theorem dX5_isLike_17 : decode cX5_isLike 17 = .ok (.getfield 15, 3) := by decide +kernel
theorem dX5_isLike_20 : decode cX5_isLike 20 = .ok (.if_icmp .ge 26, 3) := by decide +kernel
theorem dX5_isLike_23 : decode cX5_isLike 23 = .ok (.aload_n 0, 1) := by decide +kernel
theorem dX5_isLike_24 : decode cX5_isLike 24 = .ok (.getfield 9, 3) := by decide +kernel
theorem dX5_isLike_27 : decode cX5_isLike 27 = .ok (.iload_n 2, 1) := by decide +kernel
theorem dX5_isLike_28 : decode cX5_isLike 28 = .ok (.iaload, 1) := by decide +kernel
theorem dX5_isLike_29 : decode cX5_isLike 29 = .ok (.aload_n 1, 1) := by decide +kernel
theorem dX5_isLike_30 : decode cX5_isLike 30 = .ok (.getfield 9, 3) := by decide +kernel
theorem dX5_isLike_33 : decode cX5_isLike 33 = .ok (.iload_n 2, 1) := by decide +kernel
theorem dX5_isLike_34 : decode cX5_isLike 34 = .ok (.iaload, 1) := by decide +kernel
theorem dX5_isLike_35 : decode cX5_isLike 35 = .ok (.if_icmp .eq 5, 3) := by decide +kernel
theorem dX5_isLike_38 : decode cX5_isLike 38 = .ok (.iconst 0, 1) := by decide +kernel
theorem dX5_isLike_39 : decode cX5_isLike 39 = .ok (.ireturn, 1) := by decide +kernel
theorem dX5_isLike_40 : decode cX5_isLike 40 = .ok (.iinc 2 1, 3) := by decide +kernel
theorem dX5_isLike_43 : decode cX5_isLike 43 = .ok (.goto (-28), 3) := by decide +kernel
theorem dX5_isLike_46 : decode cX5_isLike 46 = .ok (.iconst 1, 1) := by decide +kernel
theorem dX5_isLike_47 : decode cX5_isLike 47 = .ok (.ireturn, 1) := by decide +kernel
theorem dX5_clear_0 : decode cX5_clear 0 = .ok (.aload_n 0, 1) := by decide +kernel
theorem dX5_clear_1 : decode cX5_clear 1 = .ok (.iconst 0, 1) := by decide +kernel
theorem dX5_clear_2 : decode cX5_clear 2 = .ok (.putfield 15, 3) := by decide +kernel
theorem dX5_clear_5 : decode cX5_clear 5 = .ok (.return_, 1) := by decide +kernel
theorem dX5_copy_0 : decode cX5_copy 0 = .ok (.aload_n 0, 1) := by decide +kernel
theorem dX5_copy_1 : decode cX5_copy 1 = .ok (.invokevirtual 23, 3) := by decide +kernel
theorem dX5_copy_4 : decode cX5_copy 4 = .ok (.aload_n 0, 1) := by decide +kernel
theorem dX5_copy_5 : decode cX5_copy 5 = .ok (.aload_n 1, 1) := by decide +kernel
theorem dX5_copy_6 : decode cX5_copy 6 = .ok (.iconst 0, 1) := by decide +kernel
theorem dX5_copy_7 : decode cX5_copy 7 = .ok (.aload_n 1, 1) := by decide +kernel
theorem dX5_copy_8 : decode cX5_copy 8 = .ok (.getfield 15, 3) := by decide +kernel
theorem dX5_copy_11 : decode cX5_copy 11 = .ok (.invokevirtual 26, 3) := by decide +kernel
theorem dX5_copy_14 : decode cX5_copy 14 = .ok (.return_, 1) := by decide +kernel
theorem dX5_append_0 : decode cX5_append 0 = .ok (.aload_n 0, 1) := by decide +kernel
theorem dX5_append_1 : decode cX5_append 1 = .ok (.getfield 15, 3) := by decide +kernel
theorem dX5_append_4 : decode cX5_append 4 = .ok (.bipush 40, 2) := by decide +kernel
theorem dX5_append_6 : decode cX5_append 6 = .ok (.if_icmp .ge 23, 3) := by decide +kernel
theorem dX5_append_9 : decode cX5_append 9 = .ok (.aload_n 0, 1) := by decide +kernel
theorem dX5_append_10 : decode cX5_append 10 = .ok (.getfield 9, 3) := by decide +kernel
theorem dX5_append_13 : decode cX5_append 13 = .ok (.aload_n 0, 1) := by decide +kernel
theorem dX5_append_14 : decode cX5_append 14 = .ok (.getfield 15, 3) := by decide +kernel
theorem dX5_append_17 : decode cX5_append 17 = .ok (.iload_n 1, 1) := by decide +kernel
theorem dX5_append_18 : decode cX5_append 18 = .ok (.iastore, 1) := by decide +kernel
theorem dX5_append_19 : decode cX5_append 19 = .ok (.aload_n 0, 1) := by decide +kernel
theorem dX5_append_20 : decode cX5_append 20 = .ok (.dup, 1) := by decide +kernel
theorem dX5_append_21 : decode cX5_append 21 = .ok (.getfield 15, 3) := by decide +kernel
theorem dX5_append_24 : decode cX5_append 24 = .ok (.iconst 1, 1) := by decide +kernel
theorem dX5_append_25 : decode cX5_append 25 = .ok (.iadd, 1) := by decide +kernel
theorem dX5_append_26 : decode cX5_append 26 = .ok (.putfield 15, 3) := by decide +kernel
theorem dX5_append_29 : decode cX5_append 29 = .ok (.return_, 1) := by decide +kernel
theorem dX5_appendPart_0 : decode cX5_appendPart 0 = .ok (.iload_n 2, 1) := by decide +kernel
theorem dX5_appendPart_1 : decode cX5_appendPart 1 = .ok (.istore 4, 2) := by decide +kernel
theorem dX5_appendPart_3 : decode cX5_appendPart 3 = .ok (.iload 4, 2) := by decide +kernel
theorem dX5_appendPart_5 : decode cX5_appendPart 5 = .ok (.iload_n 3, 1) := by decide +kernel
theorem dX5_appendPart_6 : decode cX5_appendPart 6 = .ok (.if_icmp .ge 19, 3) := by decide +kernel
theorem dX5_appendPart_9 : decode cX5_appendPart 9 = .ok (.aload_n 0, 1) := by decide +kernel
theorem dX5_appendPart_10 : decode cX5_appendPart 10 = .ok (.aload_n 1, 1) := by decide +kernel
theorem dX5_appendPart_11 : decode cX5_appendPart 11 = .ok (.iload 4, 2) := by decide +kernel
theorem dX5_appendPart_13 : decode cX5_appendPart 13 = .ok (.invokevirtual 30, 3) := by decide +kernel
theorem dX5_appendPart_16 : decode cX5_appendPart 16 = .ok (.invokevirtual 34, 3) := by decide +kernel
theorem dX5_appendPart_19 : decode cX5_appendPart 19 = .ok (.iinc 4 1, 3) := by decide +kernel
theorem dX5_appendPart_22 : decode cX5_appendPart 22 = .ok (.goto (-19), 3) := by decide +kernel
theorem dX5_appendPart_25 : decode cX5_appendPart 25 = .ok (.return_, 1) := by decide +kernel
theorem dX5_replace_0 : decode cX5_replace 0 = .ok (.aload_n 0, 1) := by decide +kernel
theorem dX5_replace_1 : decode cX5_replace 1 = .ok (.iload_n 1, 1) := by decide +kernel
theorem dX5_replace_2 : decode cX5_replace 2 = .ok (.invokevirtual 19, 3) := by decide +kernel
theorem dX5_replace_5 : decode cX5_replace 5 = .ok (.ifCond .eq 10, 3) := by decide +kernel
theorem dX5_replace_8 : decode cX5_replace 8 = .ok (.aload_n 0, 1) := by decide +kernel
theorem dX5_replace_9 : decode cX5_replace 9 = .ok (.getfield 9, 3) := by decide +kernel
theorem dX5_replace_12 : decode cX5_replace 12 = .ok (.iload_n 1, 1) := by decide +kernel
theorem dX5_replace_13 : decode cX5_replace 13 = .ok (.iload_n 2, 1) := by decide +kernel
theorem dX5_replace_14 : decode cX5_replace 14 = .ok (.iastore, 1) := by decide +kernel
theorem dX5_replace_15 : decode cX5_replace 15 = .ok (.return_, 1) := by decide +kernel
theorem dX5_swap_0 : decode cX5_swap 0 = .ok (.aload_n 0, 1) := by decide +kernel
theorem dX5_swap_1 : decode cX5_swap 1 = .ok (.iload_n 1, 1) := by decide +kernel
theorem dX5_swap_2 : decode cX5_swap 2 = .ok (.invokevirtual 30, 3) := by decide +kernel
theorem dX5_swap_5 : decode cX5_swap 5 = .ok (.istore_n 3, 1) := by decide +kernel
theorem dX5_swap_6 : decode cX5_swap 6 = .ok (.aload_n 0, 1) := by decide +kernel
theorem dX5_swap_7 : decode cX5_swap 7 = .ok (.iload_n 1, 1) := by decide +kernel
theorem dX5_swap_8 : decode cX5_swap 8 = .ok (.aload_n 0, 1) := by decide +kernel
theorem dX5_swap_9 : decode cX5_swap 9 = .ok (.iload_n 2, 1) := by decide +kernel
theorem dX5_swap_10 : decode cX5_swap 10 = .ok (.invokevirtual 30, 3) := by decide +kernel
theorem dX5_swap_13 : decode cX5_swap 13 = .ok (.invokevirtual 38, 3) := by decide +kernel
theorem dX5_swap_16 : decode cX5_swap 16 = .ok (.aload_n 0, 1) := by decide +kernel
theorem dX5_swap_17 : decode cX5_swap 17 = .ok (.iload_n 2, 1) := by decide +kernel
theorem dX5_swap_18 : decode cX5_swap 18 = .ok (.iload_n 3, 1) := by decide +kernel
theorem dX5_swap_19 : decode cX5_swap 19 = .ok (.invokevirtual 38, 3) := by decide +kernel
theorem dX5_swap_22 : decode cX5_swap 22 = .ok (.return_, 1) := by decide +kernel
theorem dX5_insert_0 : decode cX5_insert 0 = .ok (.aload_n 0, 1) := by decide +kernel
theorem dX5_insert_1 : decode cX5_insert 1 = .ok (.iload_n 2, 1) := by decide +kernel
theorem dX5_insert_2 : decode cX5_insert 2 = .ok (.invokevirtual 34, 3) := by decide +kernel
theorem dX5_insert_5 : decode cX5_insert 5 = .ok (.aload_n 0, 1) := by decide +kernel
theorem dX5_insert_6 : decode cX5_insert 6 = .ok (.getfield 15, 3) := by decide +kernel
theorem dX5_insert_9 : decode cX5_insert 9 = .ok (.iconst 1, 1) := by decide +kernel
theorem dX5_insert_10 : decode cX5_insert 10 = .ok (.isub, 1) := by decide +kernel
theorem dX5_insert_11 : decode cX5_insert 11 = .ok (.istore_n 3, 1) := by decide +kernel
theorem dX5_insert_12 : decode cX5_insert 12 = .ok (.iload_n 3, 1) := by decide +kernel
theorem dX5_insert_13 : decode cX5_insert 13 = .ok (.iload_n 1, 1) := by decide +kernel
theorem dX5_insert_14 : decode cX5_insert 14 = .ok (.if_icmp .le 17, 3) := by decide +kernel
theorem dX5_insert_17 : decode cX5_insert 17 = .ok (.aload_n 0, 1) := by decide +kernel
theorem dX5_insert_18 : decode cX5_insert 18 = .ok (.iload_n 3, 1) := by decide +kernel
theorem dX5_insert_19 : decode cX5_insert 19 = .ok (.iload_n 3, 1) := by decide +kernel
theorem dX5_insert_20 : decode cX5_insert 20 = .ok (.iconst 1, 1) := by decide +kernel
theorem dX5_insert_21 : decode cX5_insert 21 = .ok (.isub, 1) := by decide +kernel
theorem dX5_insert_22 : decode cX5_insert 22 = .ok (.invokevirtual 42, 3) := by decide +kernel
theorem dX5_insert_25 : decode cX5_insert 25 = .ok (.iinc 3 (-1), 3) := by decide +kernel
theorem dX5_insert_28 : decode cX5_insert 28 = .ok (.goto (-16), 3) := by decide +kernel
theorem dX5_insert_31 : decode cX5_insert 31 = .ok (.return_, 1) := by decide +kernel
theorem dX5_remove_0 : decode cX5_remove 0 = .ok (.aload_n 0, 1) := by decide +kernel
theorem dX5_remove_1 : decode cX5_remove 1 = .ok (.iload_n 1, 1) := by decide +kernel
theorem dX5_remove_2 : decode cX5_remove 2 = .ok (.invokevirtual 19, 3) := by decide +kernel
theorem dX5_remove_5 : decode cX5_remove 5 = .ok (.ifCond .ne 4, 3) := by decide +kernel
theorem dX5_remove_8 : decode cX5_remove 8 = .ok (.return_, 1) := by decide +kernel
theorem dX5_remove_9 : decode cX5_remove 9 = .ok (.iload_n 1, 1) := by decide +kernel
theorem dX5_remove_10 : decode cX5_remove 10 = .ok (.istore_n 2, 1) := by decide +kernel
theorem dX5_remove_11 : decode cX5_remove 11 = .ok (.iload_n 2, 1) := by decide +kernel
theorem dX5_remove_12 : decode cX5_remove 12 = .ok (.aload_n 0, 1) := by decide +kernel
theorem dX5_remove_13 : decode cX5_remove 13 = .ok (.getfield 15, 3) := by decide +kernel
theorem dX5_remove_16 : decode cX5_remove 16 = .ok (.iconst 1, 1) := by decide +kernel
theorem dX5_remove_17 : decode cX5_remove 17 = .ok (.isub, 1) := by decide +kernel
theorem dX5_remove_18 : decode cX5_remove 18 = .ok (.if_icmp .ge 23, 3) := by decide +kernel
theorem dX5_remove_21 : decode cX5_remove 21 = .ok (.aload_n 0, 1) := by decide +kernel
theorem dX5_remove_22 : decode cX5_remove 22 = .ok (.getfield 9, 3) := by decide +kernel
theorem dX5_remove_25 : decode cX5_remove 25 = .ok (.iload_n 2, 1) := by decide +kernel
theorem dX5_remove_26 : decode cX5_remove 26 = .ok (.aload_n 0, 1) := by decide +kernel
theorem dX5_remove_27 : decode cX5_remove 27 = .ok (.getfield 9, 3) := by decide +kernel
theorem dX5_remove_30 : decode cX5_remove 30 = .ok (.iload_n 2, 1) := by decide +kernel
theorem dX5_remove_31 : decode cX5_remove 31 = .ok (.iconst 1, 1) := by decide +kernel
theorem dX5_remove_32 : decode cX5_remove 32 = .ok (.iadd, 1) := by decide +kernel
theorem dX5_remove_33 : decode cX5_remove 33 = .ok (.iaload, 1) := by decide +kernel
theorem dX5_remove_34 : decode cX5_remove 34 = .ok (.iastore, 1) := by decide +kernel
theorem dX5_remove_35 : decode cX5_remove 35 = .ok (.iinc 2 1, 3) := by decide +kernel
theorem dX5_remove_38 : decode cX5_remove 38 = .ok (.goto (-27), 3) := by decide +kernel
theorem dX5_remove_41 : decode cX5_remove 41 = .ok (.aload_n 0, 1) := by decide +kernel
theorem dX5_remove_42 : decode cX5_remove 42 = .ok (.dup, 1) := by decide +kernel
theorem dX5_remove_43 : decode cX5_remove 43 = .ok (.getfield 15, 3) := by decide +kernel
theorem dX5_remove_46 : decode cX5_remove 46 = .ok (.iconst 1, 1) := by decide +kernel
theorem dX5_remove_47 : decode cX5_remove 47 = .ok (.isub, 1) := by decide +kernel
theorem dX5_remove_48 : decode cX5_remove 48 = .ok (.putfield 15, 3) := by decide +kernel
theorem dX5_remove_51 : decode cX5_remove 51 = .ok (.return_, 1) := by decide +kernel
theorem dX5_placeFor_0 : decode cX5_placeFor 0 = .ok (.iconst 0, 1) := by decide +kernel
theorem dX5_placeFor_1 : decode cX5_placeFor 1 = .ok (.istore 4, 2) := by decide +kernel
theorem dX5_placeFor_3 : decode cX5_placeFor 3 = .ok (.aload_n 0, 1) := by decide +kernel
theorem dX5_placeFor_4 : decode cX5_placeFor 4 = .ok (.getfield 15, 3) := by decide +kernel
theorem dX5_placeFor_7 : decode cX5_placeFor 7 = .ok (.istore 5, 2) := by decide +kernel
theorem dX5_placeFor_9 : decode cX5_placeFor 9 = .ok (.iload 4, 2) := by decide +kernel
theorem dX5_placeFor_11 : decode cX5_placeFor 11 = .ok (.iload 5, 2) := by decide +kernel
theorem dX5_placeFor_13 : decode cX5_placeFor 13 = .ok (.if_icmp .ge 57, 3) := by decide +kernel
theorem dX5_placeFor_16 : decode cX5_placeFor 16 = .ok (.iload 4, 2) := by decide +kernel
theorem dX5_placeFor_18 : decode cX5_placeFor 18 = .ok (.iload 5, 2) := by decide +kernel
theorem dX5_placeFor_20 : decode cX5_placeFor 20 = .ok (.iadd, 1) := by decide +kernel
theorem dX5_placeFor_21 : decode cX5_placeFor 21 = .ok (.iconst 2, 1) := by decide +kernel
theorem dX5_placeFor_22 : decode cX5_placeFor 22 = .ok (.idiv, 1) := by decide +kernel
theorem dX5_placeFor_23 : decode cX5_placeFor 23 = .ok (.istore 6, 2) := by decide +kernel
theorem dX5_placeFor_25 : decode cX5_placeFor 25 = .ok (.aload_n 2, 1) := by decide +kernel
theorem dX5_placeFor_26 : decode cX5_placeFor 26 = .ok (.iload_n 3, 1) := by decide +kernel
theorem dX5_placeFor_27 : decode cX5_placeFor 27 = .ok (.iload_n 1, 1) := by decide +kernel
theorem dX5_placeFor_28 : decode cX5_placeFor 28 = .ok (.aload_n 0, 1) := by decide +kernel
theorem dX5_placeFor_29 : decode cX5_placeFor 29 = .ok (.iload 6, 2) := by decide +kernel
theorem dX5_placeFor_31 : decode cX5_placeFor 31 = .ok (.invokevirtual 30, 3) := by decide +kernel
theorem dX5_placeFor_34 : decode cX5_placeFor 34 = .ok (.invokevirtual 45, 3) := by decide +kernel
theorem dX5_placeFor_37 : decode cX5_placeFor 37 = .ok (.istore 7, 2) := by decide +kernel
theorem dX5_placeFor_39 : decode cX5_placeFor 39 = .ok (.iload 7, 2) := by decide +kernel
theorem dX5_placeFor_41 : decode cX5_placeFor 41 = .ok (.bipush (-11), 2) := by decide +kernel
theorem dX5_placeFor_43 : decode cX5_placeFor 43 = .ok (.if_icmp .ne 6, 3) := by decide +kernel
theorem dX5_placeFor_46 : decode cX5_placeFor 46 = .ok (.bipush (-11), 2) := by decide +kernel
theorem dX5_placeFor_48 : decode cX5_placeFor 48 = .ok (.ireturn, 1) := by decide +kernel
theorem dX5_placeFor_49 : decode cX5_placeFor 49 = .ok (.iload 7, 2) := by decide +kernel
theorem dX5_placeFor_51 : decode cX5_placeFor 51 = .ok (.ifCond .ge 10, 3) := by decide +kernel
theorem dX5_placeFor_54 : decode cX5_placeFor 54 = .ok (.iload 6, 2) := by decide +kernel
theorem dX5_placeFor_56 : decode cX5_placeFor 56 = .ok (.istore 5, 2) := by decide +kernel
theorem dX5_placeFor_58 : decode cX5_placeFor 58 = .ok (.goto 9, 3) := by decide +kernel
theorem dX5_placeFor_61 : decode cX5_placeFor 61 = .ok (.iload 6, 2) := by decide +kernel
theorem dX5_placeFor_63 : decode cX5_placeFor 63 = .ok (.iconst 1, 1) := by decide +kernel
theorem dX5_placeFor_64 : decode cX5_placeFor 64 = .ok (.iadd, 1) := by decide +kernel
theorem dX5_placeFor_65 : decode cX5_placeFor 65 = .ok (.istore 4, 2) := by decide +kernel
theorem dX5_placeFor_67 : decode cX5_placeFor 67 = .ok (.goto (-58), 3) := by decide +kernel
theorem dX5_placeFor_70 : decode cX5_placeFor 70 = .ok (.iload 4, 2) := by decide +kernel
theorem dX5_placeFor_72 : decode cX5_placeFor 72 = .ok (.ireturn, 1) := by decide +kernel
theorem dX5_rise_0 : decode cX5_rise 0 = .ok (.iload_n 1, 1) := by decide +kernel
theorem dX5_rise_1 : decode cX5_rise 1 = .ok (.istore 4, 2) := by decide +kernel
theorem dX5_rise_3 : decode cX5_rise 3 = .ok (.iload 4, 2) := by decide +kernel
theorem dX5_rise_5 : decode cX5_rise 5 = .ok (.ifCond .le 63, 3) := by decide +kernel
theorem dX5_rise_8 : decode cX5_rise 8 = .ok (.iload 4, 2) := by decide +kernel
theorem dX5_rise_10 : decode cX5_rise 10 = .ok (.iconst 1, 1) := by decide +kernel
theorem dX5_rise_11 : decode cX5_rise 11 = .ok (.isub, 1) := by decide +kernel
theorem dX5_rise_12 : decode cX5_rise 12 = .ok (.iconst 2, 1) := by decide +kernel
theorem dX5_rise_13 : decode cX5_rise 13 = .ok (.idiv, 1) := by decide +kernel
theorem dX5_rise_14 : decode cX5_rise 14 = .ok (.istore 5, 2) := by decide +kernel
theorem dX5_rise_16 : decode cX5_rise 16 = .ok (.aload_n 2, 1) := by decide +kernel
theorem dX5_rise_17 : decode cX5_rise 17 = .ok (.iload_n 3, 1) := by decide +kernel
theorem dX5_rise_18 : decode cX5_rise 18 = .ok (.aload_n 0, 1) := by decide +kernel
theorem dX5_rise_19 : decode cX5_rise 19 = .ok (.iload 4, 2) := by decide +kernel
theorem dX5_rise_21 : decode cX5_rise 21 = .ok (.invokevirtual 30, 3) := by decide +kernel
theorem dX5_rise_24 : decode cX5_rise 24 = .ok (.aload_n 0, 1) := by decide +kernel
theorem dX5_rise_25 : decode cX5_rise 25 = .ok (.iload 5, 2) := by decide +kernel
theorem dX5_rise_27 : decode cX5_rise 27 = .ok (.invokevirtual 30, 3) := by decide +kernel
theorem dX5_rise_30 : decode cX5_rise 30 = .ok (.invokevirtual 45, 3) := by decide +kernel
theorem dX5_rise_33 : decode cX5_rise 33 = .ok (.istore 6, 2) := by decide +kernel
theorem dX5_rise_35 : decode cX5_rise 35 = .ok (.iload 6, 2) := by decide +kernel
theorem dX5_rise_37 : decode cX5_rise 37 = .ok (.bipush (-11), 2) := by decide +kernel
theorem dX5_rise_39 : decode cX5_rise 39 = .ok (.if_icmp .ne 6, 3) := by decide +kernel
theorem dX5_rise_42 : decode cX5_rise 42 = .ok (.bipush (-11), 2) := by decide +kernel
theorem dX5_rise_44 : decode cX5_rise 44 = .ok (.ireturn, 1) := by decide +kernel
theorem dX5_rise_45 : decode cX5_rise 45 = .ok (.iload 6, 2) := by decide +kernel
theorem dX5_rise_47 : decode cX5_rise 47 = .ok (.ifCond .lt 6, 3) := by decide +kernel
theorem dX5_rise_50 : decode cX5_rise 50 = .ok (.iload 4, 2) := by decide +kernel
theorem dX5_rise_52 : decode cX5_rise 52 = .ok (.ireturn, 1) := by decide +kernel
theorem dX5_rise_53 : decode cX5_rise 53 = .ok (.aload_n 0, 1) := by decide +kernel
theorem dX5_rise_54 : decode cX5_rise 54 = .ok (.iload 4, 2) := by decide +kernel
theorem dX5_rise_56 : decode cX5_rise 56 = .ok (.iload 5, 2) := by decide +kernel
theorem dX5_rise_58 : decode cX5_rise 58 = .ok (.invokevirtual 42, 3) := by decide +kernel
theorem dX5_rise_61 : decode cX5_rise 61 = .ok (.iload 5, 2) := by decide +kernel
theorem dX5_rise_63 : decode cX5_rise 63 = .ok (.istore 4, 2) := by decide +kernel
theorem dX5_rise_65 : decode cX5_rise 65 = .ok (.goto (-62), 3) := by decide +kernel
theorem dX5_rise_68 : decode cX5_rise 68 = .ok (.iload 4, 2) := by decide +kernel
theorem dX5_rise_70 : decode cX5_rise 70 = .ok (.ireturn, 1) := by decide +kernel
theorem dX5_sink_0 : decode cX5_sink 0 = .ok (.iload_n 1, 1) := by decide +kernel
theorem dX5_sink_1 : decode cX5_sink 1 = .ok (.istore 4, 2) := by decide +kernel
theorem dX5_sink_3 : decode cX5_sink 3 = .ok (.iconst 2, 1) := by decide +kernel
theorem dX5_sink_4 : decode cX5_sink 4 = .ok (.iload 4, 2) := by decide +kernel
theorem dX5_sink_6 : decode cX5_sink 6 = .ok (.imul, 1) := by decide +kernel
theorem dX5_sink_7 : decode cX5_sink 7 = .ok (.iconst 1, 1) := by decide +kernel
theorem dX5_sink_8 : decode cX5_sink 8 = .ok (.iadd, 1) := by decide +kernel
theorem dX5_sink_9 : decode cX5_sink 9 = .ok (.istore 5, 2) := by decide +kernel
theorem dX5_sink_11 : decode cX5_sink 11 = .ok (.iload 5, 2) := by decide +kernel
theorem dX5_sink_13 : decode cX5_sink 13 = .ok (.aload_n 0, 1) := by decide +kernel
theorem dX5_sink_14 : decode cX5_sink 14 = .ok (.getfield 15, 3) := by decide +kernel
theorem dX5_sink_17 : decode cX5_sink 17 = .ok (.if_icmp .ge 113, 3) := by decide +kernel
theorem dX5_sink_20 : decode cX5_sink 20 = .ok (.iload 5, 2) := by decide +kernel
theorem dX5_sink_22 : decode cX5_sink 22 = .ok (.iconst 1, 1) := by decide +kernel
theorem dX5_sink_23 : decode cX5_sink 23 = .ok (.iadd, 1) := by decide +kernel
theorem dX5_sink_24 : decode cX5_sink 24 = .ok (.aload_n 0, 1) := by decide +kernel
theorem dX5_sink_25 : decode cX5_sink 25 = .ok (.getfield 15, 3) := by decide +kernel
theorem dX5_sink_28 : decode cX5_sink 28 = .ok (.if_icmp .ge 42, 3) := by decide +kernel
theorem dX5_sink_31 : decode cX5_sink 31 = .ok (.aload_n 2, 1) := by decide +kernel
theorem dX5_sink_32 : decode cX5_sink 32 = .ok (.iload_n 3, 1) := by decide +kernel
theorem dX5_sink_33 : decode cX5_sink 33 = .ok (.aload_n 0, 1) := by decide +kernel
theorem dX5_sink_34 : decode cX5_sink 34 = .ok (.iload 5, 2) := by decide +kernel
theorem dX5_sink_36 : decode cX5_sink 36 = .ok (.iconst 1, 1) := by decide +kernel
theorem dX5_sink_37 : decode cX5_sink 37 = .ok (.iadd, 1) := by decide +kernel
theorem dX5_sink_38 : decode cX5_sink 38 = .ok (.invokevirtual 30, 3) := by decide +kernel
theorem dX5_sink_41 : decode cX5_sink 41 = .ok (.aload_n 0, 1) := by decide +kernel
theorem dX5_sink_42 : decode cX5_sink 42 = .ok (.iload 5, 2) := by decide +kernel
theorem dX5_sink_44 : decode cX5_sink 44 = .ok (.invokevirtual 30, 3) := by decide +kernel
theorem dX5_sink_47 : decode cX5_sink 47 = .ok (.invokevirtual 45, 3) := by decide +kernel
theorem dX5_sink_50 : decode cX5_sink 50 = .ok (.istore 6, 2) := by decide +kernel
theorem dX5_sink_52 : decode cX5_sink 52 = .ok (.iload 6, 2) := by decide +kernel
theorem dX5_sink_54 : decode cX5_sink 54 = .ok (.bipush (-11), 2) := by decide +kernel
theorem dX5_sink_56 : decode cX5_sink 56 = .ok (.if_icmp .ne 6, 3) := by decide +kernel
theorem dX5_sink_59 : decode cX5_sink 59 = .ok (.bipush (-11), 2) := by decide +kernel
theorem dX5_sink_61 : decode cX5_sink 61 = .ok (.ireturn, 1) := by decide +kernel
theorem dX5_sink_62 : decode cX5_sink 62 = .ok (.iload 6, 2) := by decide +kernel
theorem dX5_sink_64 : decode cX5_sink 64 = .ok (.ifCond .ge 6, 3) := by decide +kernel
theorem dX5_sink_67 : decode cX5_sink 67 = .ok (.iinc 5 1, 3) := by decide +kernel
theorem dX5_sink_70 : decode cX5_sink 70 = .ok (.aload_n 2, 1) := by decide +kernel
theorem dX5_sink_71 : decode cX5_sink 71 = .ok (.iload_n 3, 1) := by decide +kernel
theorem dX5_sink_72 : decode cX5_sink 72 = .ok (.aload_n 0, 1) := by decide +kernel
theorem dX5_sink_73 : decode cX5_sink 73 = .ok (.iload 5, 2) := by decide +kernel
theorem dX5_sink_75 : decode cX5_sink 75 = .ok (.invokevirtual 30, 3) := by decide +kernel
theorem dX5_sink_78 : decode cX5_sink 78 = .ok (.aload_n 0, 1) := by decide +kernel
theorem dX5_sink_79 : decode cX5_sink 79 = .ok (.iload 4, 2) := by decide +kernel
theorem dX5_sink_81 : decode cX5_sink 81 = .ok (.invokevirtual 30, 3) := by decide +kernel
theorem dX5_sink_84 : decode cX5_sink 84 = .ok (.invokevirtual 45, 3) := by decide +kernel
theorem dX5_sink_87 : decode cX5_sink 87 = .ok (.istore 6, 2) := by decide +kernel
theorem dX5_sink_89 : decode cX5_sink 89 = .ok (.iload 6, 2) := by decide +kernel
theorem dX5_sink_91 : decode cX5_sink 91 = .ok (.bipush (-11), 2) := by decide +kernel
theorem dX5_sink_93 : decode cX5_sink 93 = .ok (.if_icmp .ne 6, 3) := by decide +kernel
theorem dX5_sink_96 : decode cX5_sink 96 = .ok (.bipush (-11), 2) := by decide +kernel
theorem dX5_sink_98 : decode cX5_sink 98 = .ok (.ireturn, 1) := by decide +kernel
theorem dX5_sink_99 : decode cX5_sink 99 = .ok (.iload 6, 2) := by decide +kernel
theorem dX5_sink_101 : decode cX5_sink 101 = .ok (.ifCond .lt 6, 3) := by decide +kernel
theorem dX5_sink_104 : decode cX5_sink 104 = .ok (.iload 4, 2) := by decide +kernel
theorem dX5_sink_106 : decode cX5_sink 106 = .ok (.ireturn, 1) := by decide +kernel
theorem dX5_sink_107 : decode cX5_sink 107 = .ok (.aload_n 0, 1) := by decide +kernel
theorem dX5_sink_108 : decode cX5_sink 108 = .ok (.iload 5, 2) := by decide +kernel
theorem dX5_sink_110 : decode cX5_sink 110 = .ok (.iload 4, 2) := by decide +kernel
theorem dX5_sink_112 : decode cX5_sink 112 = .ok (.invokevirtual 42, 3) := by decide +kernel
theorem dX5_sink_115 : decode cX5_sink 115 = .ok (.iload 5, 2) := by decide +kernel
theorem dX5_sink_117 : decode cX5_sink 117 = .ok (.istore 4, 2) := by decide +kernel
theorem dX5_sink_119 : decode cX5_sink 119 = .ok (.iconst 2, 1) := by decide +kernel
theorem dX5_sink_120 : decode cX5_sink 120 = .ok (.iload 4, 2) := by decide +kernel
theorem dX5_sink_122 : decode cX5_sink 122 = .ok (.imul, 1) := by decide +kernel
theorem dX5_sink_123 : decode cX5_sink 123 = .ok (.iconst 1, 1) := by decide +kernel
theorem dX5_sink_124 : decode cX5_sink 124 = .ok (.iadd, 1) := by decide +kernel
theorem dX5_sink_125 : decode cX5_sink 125 = .ok (.istore 5, 2) := by decide +kernel
theorem dX5_sink_127 : decode cX5_sink 127 = .ok (.goto (-116), 3) := by decide +kernel
theorem dX5_sink_130 : decode cX5_sink 130 = .ok (.iload 4, 2) := by decide +kernel
theorem dX5_sink_132 : decode cX5_sink 132 = .ok (.ireturn, 1) := by decide +kernel
theorem dX5_appendMerged_0 : decode cX5_appendMerged 0 = .ok (.iload_n 2, 1) := by decide +kernel
theorem dX5_appendMerged_1 : decode cX5_appendMerged 1 = .ok (.istore 7, 2) := by decide +kernel
theorem dX5_appendMerged_3 : decode cX5_appendMerged 3 = .ok (.iload_n 3, 1) := by decide +kernel
theorem dX5_appendMerged_4 : decode cX5_appendMerged 4 = .ok (.istore 8, 2) := by decide +kernel
theorem dX5_appendMerged_6 : decode cX5_appendMerged 6 = .ok (.iload 7, 2) := by decide +kernel
theorem dX5_appendMerged_8 : decode cX5_appendMerged 8 = .ok (.iload_n 3, 1) := by decide +kernel
theorem dX5_appendMerged_9 : decode cX5_appendMerged 9 = .ok (.if_icmp .ge 77, 3) := by decide +kernel
theorem dX5_appendMerged_12 : decode cX5_appendMerged 12 = .ok (.iload 8, 2) := by decide +kernel
theorem dX5_appendMerged_14 : decode cX5_appendMerged 14 = .ok (.iload 4, 2) := by decide +kernel
theorem dX5_appendMerged_16 : decode cX5_appendMerged 16 = .ok (.if_icmp .ge 70, 3) := by decide +kernel
theorem dX5_appendMerged_19 : decode cX5_appendMerged 19 = .ok (.aload 5, 2) := by decide +kernel
theorem dX5_appendMerged_21 : decode cX5_appendMerged 21 = .ok (.iload 6, 2) := by decide +kernel
theorem dX5_appendMerged_23 : decode cX5_appendMerged 23 = .ok (.aload_n 1, 1) := by decide +kernel
theorem dX5_appendMerged_24 : decode cX5_appendMerged 24 = .ok (.iload 8, 2) := by decide +kernel
theorem dX5_appendMerged_26 : decode cX5_appendMerged 26 = .ok (.invokevirtual 30, 3) := by decide +kernel
theorem dX5_appendMerged_29 : decode cX5_appendMerged 29 = .ok (.aload_n 1, 1) := by decide +kernel
theorem dX5_appendMerged_30 : decode cX5_appendMerged 30 = .ok (.iload 7, 2) := by decide +kernel
theorem dX5_appendMerged_32 : decode cX5_appendMerged 32 = .ok (.invokevirtual 30, 3) := by decide +kernel
theorem dX5_appendMerged_35 : decode cX5_appendMerged 35 = .ok (.invokevirtual 45, 3) := by decide +kernel
theorem dX5_appendMerged_38 : decode cX5_appendMerged 38 = .ok (.istore 9, 2) := by decide +kernel
theorem dX5_appendMerged_40 : decode cX5_appendMerged 40 = .ok (.iload 9, 2) := by decide +kernel
theorem dX5_appendMerged_42 : decode cX5_appendMerged 42 = .ok (.bipush (-11), 2) := by decide +kernel
theorem dX5_appendMerged_44 : decode cX5_appendMerged 44 = .ok (.if_icmp .ne 5, 3) := by decide +kernel
theorem dX5_appendMerged_47 : decode cX5_appendMerged 47 = .ok (.iconst 0, 1) := by decide +kernel
theorem dX5_appendMerged_48 : decode cX5_appendMerged 48 = .ok (.ireturn, 1) := by decide +kernel
theorem dX5_appendMerged_49 : decode cX5_appendMerged 49 = .ok (.iload 9, 2) := by decide +kernel
theorem dX5_appendMerged_51 : decode cX5_appendMerged 51 = .ok (.ifCond .ge 19, 3) := by decide +kernel
theorem dX5_appendMerged_54 : decode cX5_appendMerged 54 = .ok (.aload_n 0, 1) := by decide +kernel
theorem dX5_appendMerged_55 : decode cX5_appendMerged 55 = .ok (.aload_n 1, 1) := by decide +kernel
theorem dX5_appendMerged_56 : decode cX5_appendMerged 56 = .ok (.iload 8, 2) := by decide +kernel
theorem dX5_appendMerged_58 : decode cX5_appendMerged 58 = .ok (.invokevirtual 30, 3) := by decide +kernel
theorem dX5_appendMerged_61 : decode cX5_appendMerged 61 = .ok (.invokevirtual 34, 3) := by decide +kernel
theorem dX5_appendMerged_64 : decode cX5_appendMerged 64 = .ok (.iinc 8 1, 3) := by decide +kernel
theorem dX5_appendMerged_67 : decode cX5_appendMerged 67 = .ok (.goto 16, 3) := by decide +kernel
theorem dX5_appendMerged_70 : decode cX5_appendMerged 70 = .ok (.aload_n 0, 1) := by decide +kernel
theorem dX5_appendMerged_71 : decode cX5_appendMerged 71 = .ok (.aload_n 1, 1) := by decide +kernel
theorem dX5_appendMerged_72 : decode cX5_appendMerged 72 = .ok (.iload 7, 2) := by decide +kernel
theorem dX5_appendMerged_74 : decode cX5_appendMerged 74 = .ok (.invokevirtual 30, 3) := by decide +kernel
theorem dX5_appendMerged_77 : decode cX5_appendMerged 77 = .ok (.invokevirtual 34, 3) := by decide +kernel
theorem dX5_appendMerged_80 : decode cX5_appendMerged 80 = .ok (.iinc 7 1, 3) := by decide +kernel
theorem dX5_appendMerged_83 : decode cX5_appendMerged 83 = .ok (.goto (-77), 3) := by decide +kernel
theorem dX5_appendMerged_86 : decode cX5_appendMerged 86 = .ok (.aload_n 0, 1) := by decide +kernel
theorem dX5_appendMerged_87 : decode cX5_appendMerged 87 = .ok (.aload_n 1, 1) := by decide +kernel
theorem dX5_appendMerged_88 : decode cX5_appendMerged 88 = .ok (.iload 7, 2) := by decide +kernel
theorem dX5_appendMerged_90 : decode cX5_appendMerged 90 = .ok (.iload_n 3, 1) := by decide +kernel
theorem dX5_appendMerged_91 : decode cX5_appendMerged 91 = .ok (.invokevirtual 26, 3) := by decide +kernel
theorem dX5_appendMerged_94 : decode cX5_appendMerged 94 = .ok (.aload_n 0, 1) := by decide +kernel
theorem dX5_appendMerged_95 : decode cX5_appendMerged 95 = .ok (.aload_n 1, 1) := by decide +kernel
theorem dX5_appendMerged_96 : decode cX5_appendMerged 96 = .ok (.iload 8, 2) := by decide +kernel
theorem dX5_appendMerged_98 : decode cX5_appendMerged 98 = .ok (.iload 4, 2) := by decide +kernel
theorem dX5_appendMerged_100 : decode cX5_appendMerged 100 = .ok (.invokevirtual 26, 3) := by decide +kernel
theorem dX5_appendMerged_103 : decode cX5_appendMerged 103 = .ok (.iconst 1, 1) := by decide +kernel
theorem dX5_appendMerged_104 : decode cX5_appendMerged 104 = .ok (.ireturn, 1) := by decide +kernel
theorem dX6_init_0 : decode cX6_init 0 = .ok (.aload_n 0, 1) := by decide +kernel
theorem dX6_init_1 : decode cX6_init 1 = .ok (.invokespecial 3, 3) := by decide +kernel
theorem dX6_init_4 : decode cX6_init 4 = .ok (.aload_n 0, 1) := by decide +kernel
theorem dX6_init_5 : decode cX6_init 5 = .ok (.new 9, 3) := by decide +kernel
theorem dX6_init_8 : decode cX6_init 8 = .ok (.dup, 1) := by decide +kernel
theorem dX6_init_9 : decode cX6_init 9 = .ok (.invokespecial 11, 3) := by decide +kernel
theorem dX6_init_12 : decode cX6_init 12 = .ok (.putfield 12, 3) := by decide +kernel
theorem dX6_init_15 : decode cX6_init 15 = .ok (.aload_n 0, 1) := by decide +kernel
theorem dX6_init_16 : decode cX6_init 16 = .ok (.iconst 0, 1) := by decide +kernel
theorem dX6_init_17 : decode cX6_init 17 = .ok (.putfield 18, 3) := by decide +kernel
theorem dX6_init_20 : decode cX6_init 20 = .ok (.aload_n 0, 1) := by decide +kernel
theorem dX6_init_21 : decode cX6_init 21 = .ok (.bipush (-4), 2) := by decide +kernel
theorem dX6_init_23 : decode cX6_init 23 = .ok (.putfield 22, 3) := by decide +kernel
theorem dX6_init_26 : decode cX6_init 26 = .ok (.return_, 1) := by decide +kernel
theorem dX6_become_0 : decode cX6_become 0 = .ok (.aload_n 0, 1) := by decide +kernel
theorem dX6_become_1 : decode cX6_become 1 = .ok (.iload_n 1, 1) := by decide +kernel
theorem dX6_become_2 : decode cX6_become 2 = .ok (.putfield 18, 3) := by decide +kernel
theorem dX6_become_5 : decode cX6_become 5 = .ok (.aload_n 0, 1) := by decide +kernel
theorem dX6_become_6 : decode cX6_become 6 = .ok (.iload_n 2, 1) := by decide +kernel
theorem dX6_become_7 : decode cX6_become 7 = .ok (.putfield 22, 3) := by decide +kernel
theorem dX6_become_10 : decode cX6_become 10 = .ok (.return_, 1) := by decide +kernel
theorem dX7_init_0 : decode cX7_init 0 = .ok (.aload_n 0, 1) := by decide +kernel
theorem dX7_init_1 : decode cX7_init 1 = .ok (.invokespecial 1, 3) := by decide +kernel
theorem dX7_init_4 : decode cX7_init 4 = .ok (.aload_n 0, 1) := by decide +kernel
theorem dX7_init_5 : decode cX7_init 5 = .ok (.iconst 0, 1) := by decide +kernel
theorem dX7_init_6 : decode cX7_init 6 = .ok (.putfield 7, 3) := by decide +kernel
theorem dX7_init_9 : decode cX7_init 9 = .ok (.aload_n 0, 1) := by decide +kernel
theorem dX7_init_10 : decode cX7_init 10 = .ok (.new 13, 3) := by decide +kernel
theorem dX7_init_13 : decode cX7_init 13 = .ok (.dup, 1) := by decide +kernel
theorem dX7_init_14 : decode cX7_init 14 = .ok (.invokespecial 15, 3) := by decide +kernel
theorem dX7_init_17 : decode cX7_init 17 = .ok (.putfield 16, 3) := by decide +kernel
theorem dX7_init_20 : decode cX7_init 20 = .ok (.aload_n 0, 1) := by decide +kernel
theorem dX7_init_21 : decode cX7_init 21 = .ok (.bipush 6, 2) := by decide +kernel
theorem dX7_init_23 : decode cX7_init 23 = .ok (.anewarray 20, 3) := by decide +kernel
theorem dX7_init_26 : decode cX7_init 26 = .ok (.putfield 22, 3) := by decide +kernel
theorem dX7_init_29 : decode cX7_init 29 = .ok (.iconst 0, 1) := by decide +kernel
theorem dX7_init_30 : decode cX7_init 30 = .ok (.istore_n 1, 1) := by decide +kernel
theorem dX7_init_31 : decode cX7_init 31 = .ok (.iload_n 1, 1) := by decide +kernel
theorem dX7_init_32 : decode cX7_init 32 = .ok (.bipush 6, 2) := by decide +kernel
theorem dX7_init_34 : decode cX7_init 34 = .ok (.if_icmp .ge 22, 3) := by decide +kernel
theorem dX7_init_37 : decode cX7_init 37 = .ok (.aload_n 0, 1) := by decide +kernel
theorem dX7_init_38 : decode cX7_init 38 = .ok (.getfield 22, 3) := by decide +kernel
theorem dX7_init_41 : decode cX7_init 41 = .ok (.iload_n 1, 1) := by decide +kernel
theorem dX7_init_42 : decode cX7_init 42 = .ok (.new 20, 3) := by decide +kernel
theorem dX7_init_45 : decode cX7_init 45 = .ok (.dup, 1) := by decide +kernel
theorem dX7_init_46 : decode cX7_init 46 = .ok (.invokespecial 26, 3) := by decide +kernel
theorem dX7_init_49 : decode cX7_init 49 = .ok (.aastore, 1) := by decide +kernel
theorem dX7_init_50 : decode cX7_init 50 = .ok (.iinc 1 1, 3) := by decide +kernel
theorem dX7_init_53 : decode cX7_init 53 = .ok (.goto (-22), 3) := by decide +kernel
theorem dX7_init_56 : decode cX7_init 56 = .ok (.aload_n 0, 1) := by decide +kernel
theorem dX7_init_57 : decode cX7_init 57 = .ok (.new 27, 3) := by decide +kernel
theorem dX7_init_60 : decode cX7_init 60 = .ok (.dup, 1) := by decide +kernel
theorem dX7_init_61 : decode cX7_init 61 = .ok (.invokespecial 29, 3) := by decide +kernel
theorem dX7_init_64 : decode cX7_init 64 = .ok (.putfield 30, 3) := by decide +kernel
theorem dX7_init_67 : decode cX7_init 67 = .ok (.aload_n 0, 1) := by decide +kernel
theorem dX7_init_68 : decode cX7_init 68 = .ok (.new 27, 3) := by decide +kernel
theorem dX7_init_71 : decode cX7_init 71 = .ok (.dup, 1) := by decide +kernel
theorem dX7_init_72 : decode cX7_init 72 = .ok (.invokespecial 29, 3) := by decide +kernel
theorem dX7_init_75 : decode cX7_init 75 = .ok (.putfield 34, 3) := by decide +kernel
theorem dX7_init_78 : decode cX7_init 78 = .ok (.return_, 1) := by decide +kernel
theorem dX7_card_0 : decode cX7_card 0 = .ok (.iload_n 2, 1) := by decide +kernel
theorem dX7_card_1 : decode cX7_card 1 = .ok (.iconst 0, 1) := by decide +kernel
theorem dX7_card_2 : decode cX7_card 2 = .ok (.bipush 99, 2) := by decide +kernel
theorem dX7_card_4 : decode cX7_card 4 = .ok (.invokestatic 37, 3) := by decide +kernel
theorem dX7_card_7 : decode cX7_card 7 = .ok (.ifCond .ne 5, 3) := by decide +kernel
theorem dX7_card_10 : decode cX7_card 10 = .ok (.iconst (-1), 1) := by decide +kernel
theorem dX7_card_11 : decode cX7_card 11 = .ok (.ireturn, 1) := by decide +kernel
theorem dX7_card_12 : decode cX7_card 12 = .ok (.aload_n 0, 1) := by decide +kernel
theorem dX7_card_13 : decode cX7_card 13 = .ok (.getfield 16, 3) := by decide +kernel
theorem dX7_card_16 : decode cX7_card 16 = .ok (.getfield 41, 3) := by decide +kernel
theorem dX7_card_19 : decode cX7_card 19 = .ok (.iload_n 1, 1) := by decide +kernel
theorem dX7_card_20 : decode cX7_card 20 = .ok (.iload_n 2, 1) := by decide +kernel
theorem dX7_card_21 : decode cX7_card 21 = .ok (.invokevirtual 45, 3) := by decide +kernel
theorem dX7_card_24 : decode cX7_card 24 = .ok (.ireturn, 1) := by decide +kernel
theorem dX7_told_0 : decode cX7_told 0 = .ok (.aload_n 0, 1) := by decide +kernel
theorem dX7_told_1 : decode cX7_told 1 = .ok (.getfield 16, 3) := by decide +kernel
theorem dX7_told_4 : decode cX7_told 4 = .ok (.getfield 41, 3) := by decide +kernel
theorem dX7_told_7 : decode cX7_told 7 = .ok (.iload_n 1, 1) := by decide +kernel
theorem dX7_told_8 : decode cX7_told 8 = .ok (.invokevirtual 51, 3) := by decide +kernel
theorem dX7_told_11 : decode cX7_told 11 = .ok (.ifCond .ne 7, 3) := by decide +kernel
theorem dX7_told_14 : decode cX7_told 14 = .ok (.ldc2_w 55, 3) := by decide +kernel
theorem dX7_told_17 : decode cX7_told 17 = .ok (.lreturn, 1) := by decide +kernel
theorem dX7_told_18 : decode cX7_told 18 = .ok (.iload_n 2, 1) := by decide +kernel
theorem dX7_told_19 : decode cX7_told 19 = .ok (.lookupswitch 51 #[(0, 25), (1, 38)], 25) := by decide +kernel
theorem dX7_told_44 : decode cX7_told 44 = .ok (.aload_n 0, 1) := by decide +kernel
theorem dX7_told_45 : decode cX7_told 45 = .ok (.getfield 16, 3) := by decide +kernel
theorem dX7_told_48 : decode cX7_told 48 = .ok (.getfield 41, 3) := by decide +kernel
theorem dX7_told_51 : decode cX7_told 51 = .ok (.iload_n 1, 1) := by decide +kernel
theorem dX7_told_52 : decode cX7_told 52 = .ok (.invokevirtual 57, 3) := by decide +kernel
theorem dX7_told_55 : decode cX7_told 55 = .ok (.i2l, 1) := by decide +kernel
theorem dX7_told_56 : decode cX7_told 56 = .ok (.lreturn, 1) := by decide +kernel
theorem dX7_told_57 : decode cX7_told 57 = .ok (.aload_n 0, 1) := by decide +kernel
theorem dX7_told_58 : decode cX7_told 58 = .ok (.getfield 16, 3) := by decide +kernel
theorem dX7_told_61 : decode cX7_told 61 = .ok (.getfield 41, 3) := by decide +kernel
theorem dX7_told_64 : decode cX7_told 64 = .ok (.iload_n 1, 1) := by decide +kernel
theorem dX7_told_65 : decode cX7_told 65 = .ok (.invokevirtual 61, 3) := by decide +kernel
theorem dX7_told_68 : decode cX7_told 68 = .ok (.i2l, 1) := by decide +kernel
theorem dX7_told_69 : decode cX7_told 69 = .ok (.lreturn, 1) := by decide +kernel
theorem dX7_told_70 : decode cX7_told 70 = .ok (.ldc2_w 55, 3) := by decide +kernel
theorem dX7_told_73 : decode cX7_told 73 = .ok (.lreturn, 1) := by decide +kernel
theorem dX7_hook_0 : decode cX7_hook 0 = .ok (.iload_n 1, 1) := by decide +kernel
theorem dX7_hook_1 : decode cX7_hook 1 = .ok (.iconst 0, 1) := by decide +kernel
theorem dX7_hook_2 : decode cX7_hook 2 = .ok (.iconst 4, 1) := by decide +kernel
theorem dX7_hook_3 : decode cX7_hook 3 = .ok (.invokestatic 37, 3) := by decide +kernel
theorem dX7_hook_6 : decode cX7_hook 6 = .ok (.ifCond .ne 5, 3) := by decide +kernel
theorem dX7_hook_9 : decode cX7_hook 9 = .ok (.iconst (-1), 1) := by decide +kernel
theorem dX7_hook_10 : decode cX7_hook 10 = .ok (.ireturn, 1) := by decide +kernel
theorem dX7_hook_11 : decode cX7_hook 11 = .ok (.aload_n 0, 1) := by decide +kernel
theorem dX7_hook_12 : decode cX7_hook 12 = .ok (.getfield 16, 3) := by decide +kernel
theorem dX7_hook_15 : decode cX7_hook 15 = .ok (.iload_n 1, 1) := by decide +kernel
theorem dX7_hook_16 : decode cX7_hook 16 = .ok (.iload_n 2, 1) := by decide +kernel
theorem dX7_hook_17 : decode cX7_hook 17 = .ok (.invokevirtual 64, 3) := by decide +kernel
theorem dX7_hook_20 : decode cX7_hook 20 = .ok (.ireturn, 1) := by decide +kernel
theorem dX7_plan_0 : decode cX7_plan 0 = .ok (.aload_n 0, 1) := by decide +kernel
theorem dX7_plan_1 : decode cX7_plan 1 = .ok (.getfield 16, 3) := by decide +kernel
theorem dX7_plan_4 : decode cX7_plan 4 = .ok (.iload_n 1, 1) := by decide +kernel
theorem dX7_plan_5 : decode cX7_plan 5 = .ok (.invokevirtual 67, 3) := by decide +kernel
theorem dX7_plan_8 : decode cX7_plan 8 = .ok (.ifCond .eq 23, 3) := by decide +kernel
theorem dX7_plan_11 : decode cX7_plan 11 = .ok (.iload_n 2, 1) := by decide +kernel
theorem dX7_plan_12 : decode cX7_plan 12 = .ok (.iconst 1, 1) := by decide +kernel
theorem dX7_plan_13 : decode cX7_plan 13 = .ok (.sipush 1000, 3) := by decide +kernel
theorem dX7_plan_16 : decode cX7_plan 16 = .ok (.invokestatic 37, 3) := by decide +kernel
theorem dX7_plan_19 : decode cX7_plan 19 = .ok (.ifCond .eq 12, 3) := by decide +kernel
theorem dX7_plan_22 : decode cX7_plan 22 = .ok (.iload_n 3, 1) := by decide +kernel
theorem dX7_plan_23 : decode cX7_plan 23 = .ok (.iconst 0, 1) := by decide +kernel
theorem dX7_plan_24 : decode cX7_plan 24 = .ok (.iconst 2, 1) := by decide +kernel
theorem dX7_plan_25 : decode cX7_plan 25 = .ok (.invokestatic 37, 3) := by decide +kernel
theorem dX7_plan_28 : decode cX7_plan 28 = .ok (.ifCond .ne 5, 3) := by decide +kernel
theorem dX7_plan_31 : decode cX7_plan 31 = .ok (.iconst (-1), 1) := by decide +kernel
theorem dX7_plan_32 : decode cX7_plan 32 = .ok (.ireturn, 1) := by decide +kernel
theorem dX7_plan_33 : decode cX7_plan 33 = .ok (.iload_n 3, 1) := by decide +kernel
theorem dX7_plan_34 : decode cX7_plan 34 = .ok (.ifCond .ne 16, 3) := by decide +kernel
theorem dX7_plan_37 : decode cX7_plan 37 = .ok (.iload 4, 2) := by decide +kernel
theorem dX7_plan_39 : decode cX7_plan 39 = .ok (.iconst 1, 1) := by decide +kernel
theorem dX7_plan_40 : decode cX7_plan 40 = .ok (.bipush 99, 2) := by decide +kernel
theorem dX7_plan_42 : decode cX7_plan 42 = .ok (.invokestatic 37, 3) := by decide +kernel
theorem dX7_plan_45 : decode cX7_plan 45 = .ok (.ifCond .ne 5, 3) := by decide +kernel
theorem dX7_plan_48 : decode cX7_plan 48 = .ok (.iconst (-1), 1) := by decide +kernel
theorem dX7_plan_49 : decode cX7_plan 49 = .ok (.ireturn, 1) := by decide +kernel
theorem dX7_plan_50 : decode cX7_plan 50 = .ok (.aload_n 0, 1) := by decide +kernel
theorem dX7_plan_51 : decode cX7_plan 51 = .ok (.getfield 16, 3) := by decide +kernel
theorem dX7_plan_54 : decode cX7_plan 54 = .ok (.getfield 70, 3) := by decide +kernel
theorem dX7_plan_57 : decode cX7_plan 57 = .ok (.iload_n 1, 1) := by decide +kernel
theorem dX7_plan_58 : decode cX7_plan 58 = .ok (.aload_n 0, 1) := by decide +kernel
theorem dX7_plan_59 : decode cX7_plan 59 = .ok (.getfield 16, 3) := by decide +kernel
theorem dX7_plan_62 : decode cX7_plan 62 = .ok (.iload_n 1, 1) := by decide +kernel
theorem dX7_plan_63 : decode cX7_plan 63 = .ok (.invokevirtual 74, 3) := by decide +kernel
theorem dX7_plan_66 : decode cX7_plan 66 = .ok (.iload_n 2, 1) := by decide +kernel
theorem dX7_plan_67 : decode cX7_plan 67 = .ok (.iadd, 1) := by decide +kernel
theorem dX7_plan_68 : decode cX7_plan 68 = .ok (.iload_n 3, 1) := by decide +kernel
theorem dX7_plan_69 : decode cX7_plan 69 = .ok (.iload 4, 2) := by decide +kernel
theorem dX7_plan_71 : decode cX7_plan 71 = .ok (.invokestatic 77, 3) := by decide +kernel
theorem dX7_plan_74 : decode cX7_plan 74 = .ok (.invokevirtual 80, 3) := by decide +kernel
theorem dX7_plan_77 : decode cX7_plan 77 = .ok (.ireturn, 1) := by decide +kernel
theorem dX7_clearPlans_0 : decode cX7_clearPlans 0 = .ok (.aload_n 0, 1) := by decide +kernel
theorem dX7_clearPlans_1 : decode cX7_clearPlans 1 = .ok (.getfield 16, 3) := by decide +kernel
theorem dX7_clearPlans_4 : decode cX7_clearPlans 4 = .ok (.getfield 70, 3) := by decide +kernel
theorem dX7_clearPlans_7 : decode cX7_clearPlans 7 = .ok (.invokevirtual 86, 3) := by decide +kernel
theorem dX7_clearPlans_10 : decode cX7_clearPlans 10 = .ok (.ireturn, 1) := by decide +kernel
theorem dX7_about_0 : decode cX7_about 0 = .ok (.aload_n 0, 1) := by decide +kernel
theorem dX7_about_1 : decode cX7_about 1 = .ok (.getfield 16, 3) := by decide +kernel
theorem dX7_about_4 : decode cX7_about 4 = .ok (.iload_n 1, 1) := by decide +kernel
theorem dX7_about_5 : decode cX7_about 5 = .ok (.invokevirtual 67, 3) := by decide +kernel
theorem dX7_about_8 : decode cX7_about 8 = .ok (.ifCond .ne 5, 3) := by decide +kernel
theorem dX7_about_11 : decode cX7_about 11 = .ok (.iconst (-1), 1) := by decide +kernel
theorem dX7_about_12 : decode cX7_about 12 = .ok (.ireturn, 1) := by decide +kernel
theorem dX7_about_13 : decode cX7_about 13 = .ok (.iload_n 2, 1) := by decide +kernel
theorem dX7_about_14 : decode cX7_about 14 = .ok (.tableswitch 82 0 4 #[34, 43, 52, 61, 70], 34) := by decide +kernel
theorem dX7_about_48 : decode cX7_about 48 = .ok (.aload_n 0, 1) := by decide +kernel
theorem dX7_about_49 : decode cX7_about 49 = .ok (.getfield 16, 3) := by decide +kernel
theorem dX7_about_52 : decode cX7_about 52 = .ok (.iload_n 1, 1) := by decide +kernel
theorem dX7_about_53 : decode cX7_about 53 = .ok (.invokevirtual 90, 3) := by decide +kernel
theorem dX7_about_56 : decode cX7_about 56 = .ok (.ireturn, 1) := by decide +kernel
theorem dX7_about_57 : decode cX7_about 57 = .ok (.aload_n 0, 1) := by decide +kernel
theorem dX7_about_58 : decode cX7_about 58 = .ok (.getfield 16, 3) := by decide +kernel
theorem dX7_about_61 : decode cX7_about 61 = .ok (.iload_n 1, 1) := by decide +kernel
theorem dX7_about_62 : decode cX7_about 62 = .ok (.invokevirtual 74, 3) := by decide +kernel
theorem dX7_about_65 : decode cX7_about 65 = .ok (.ireturn, 1) := by decide +kernel
theorem dX7_about_66 : decode cX7_about 66 = .ok (.aload_n 0, 1) := by decide +kernel
theorem dX7_about_67 : decode cX7_about 67 = .ok (.getfield 16, 3) := by decide +kernel
theorem dX7_about_70 : decode cX7_about 70 = .ok (.iload_n 1, 1) := by decide +kernel
theorem dX7_about_71 : decode cX7_about 71 = .ok (.invokevirtual 93, 3) := by decide +kernel
theorem dX7_about_74 : decode cX7_about 74 = .ok (.ireturn, 1) := by decide +kernel
theorem dX7_about_75 : decode cX7_about 75 = .ok (.aload_n 0, 1) := by decide +kernel
theorem dX7_about_76 : decode cX7_about 76 = .ok (.getfield 16, 3) := by decide +kernel
theorem dX7_about_79 : decode cX7_about 79 = .ok (.iload_n 1, 1) := by decide +kernel
theorem dX7_about_80 : decode cX7_about 80 = .ok (.invokevirtual 96, 3) := by decide +kernel
theorem dX7_about_83 : decode cX7_about 83 = .ok (.ireturn, 1) := by decide +kernel
theorem dX7_about_84 : decode cX7_about 84 = .ok (.aload_n 0, 1) := by decide +kernel
theorem dX7_about_85 : decode cX7_about 85 = .ok (.getfield 16, 3) := by decide +kernel
theorem dX7_about_88 : decode cX7_about 88 = .ok (.getfield 70, 3) := by decide +kernel
theorem dX7_about_91 : decode cX7_about 91 = .ok (.iload_n 1, 1) := by decide +kernel
theorem dX7_about_92 : decode cX7_about 92 = .ok (.invokevirtual 99, 3) := by decide +kernel
theorem dX7_about_95 : decode cX7_about 95 = .ok (.ireturn, 1) := by decide +kernel
theorem dX7_about_96 : decode cX7_about 96 = .ok (.iconst (-1), 1) := by decide +kernel
theorem dX7_about_97 : decode cX7_about 97 = .ok (.ireturn, 1) := by decide +kernel
theorem dX7_tray_0 : decode cX7_tray 0 = .ok (.iload_n 1, 1) := by decide +kernel
theorem dX7_tray_1 : decode cX7_tray 1 = .ok (.iconst 0, 1) := by decide +kernel
theorem dX7_tray_2 : decode cX7_tray 2 = .ok (.iconst 2, 1) := by decide +kernel
theorem dX7_tray_3 : decode cX7_tray 3 = .ok (.invokestatic 37, 3) := by decide +kernel
theorem dX7_tray_6 : decode cX7_tray 6 = .ok (.ifCond .eq 18, 3) := by decide +kernel
theorem dX7_tray_9 : decode cX7_tray 9 = .ok (.iload_n 1, 1) := by decide +kernel
theorem dX7_tray_10 : decode cX7_tray 10 = .ok (.ifCond .eq 16, 3) := by decide +kernel
theorem dX7_tray_13 : decode cX7_tray 13 = .ok (.aload_n 0, 1) := by decide +kernel
theorem dX7_tray_14 : decode cX7_tray 14 = .ok (.getfield 16, 3) := by decide +kernel
theorem dX7_tray_17 : decode cX7_tray 17 = .ok (.iload_n 2, 1) := by decide +kernel
theorem dX7_tray_18 : decode cX7_tray 18 = .ok (.invokevirtual 67, 3) := by decide +kernel
theorem dX7_tray_21 : decode cX7_tray 21 = .ok (.ifCond .ne 5, 3) := by decide +kernel
theorem dX7_tray_24 : decode cX7_tray 24 = .ok (.iconst (-1), 1) := by decide +kernel
theorem dX7_tray_25 : decode cX7_tray 25 = .ok (.ireturn, 1) := by decide +kernel
theorem dX7_tray_26 : decode cX7_tray 26 = .ok (.iload_n 1, 1) := by decide +kernel
theorem dX7_tray_27 : decode cX7_tray 27 = .ok (.ifCond .eq 17, 3) := by decide +kernel
theorem dX7_tray_30 : decode cX7_tray 30 = .ok (.aload_n 0, 1) := by decide +kernel
theorem dX7_tray_31 : decode cX7_tray 31 = .ok (.getfield 16, 3) := by decide +kernel
theorem dX7_tray_34 : decode cX7_tray 34 = .ok (.iload_n 2, 1) := by decide +kernel
theorem dX7_tray_35 : decode cX7_tray 35 = .ok (.invokevirtual 102, 3) := by decide +kernel
theorem dX7_tray_38 : decode cX7_tray 38 = .ok (.ifCond .ne 6, 3) := by decide +kernel
theorem dX7_tray_41 : decode cX7_tray 41 = .ok (.bipush (-2), 2) := by decide +kernel
theorem dX7_tray_43 : decode cX7_tray 43 = .ok (.ireturn, 1) := by decide +kernel
theorem dX7_tray_44 : decode cX7_tray 44 = .ok (.aload_n 0, 1) := by decide +kernel
theorem dX7_tray_45 : decode cX7_tray 45 = .ok (.getfield 7, 3) := by decide +kernel
theorem dX7_tray_48 : decode cX7_tray 48 = .ok (.bipush 6, 2) := by decide +kernel
theorem dX7_tray_50 : decode cX7_tray 50 = .ok (.if_icmp .lt 6, 3) := by decide +kernel
theorem dX7_tray_53 : decode cX7_tray 53 = .ok (.bipush (-3), 2) := by decide +kernel
theorem dX7_tray_55 : decode cX7_tray 55 = .ok (.ireturn, 1) := by decide +kernel
theorem dX7_tray_56 : decode cX7_tray 56 = .ok (.aload_n 0, 1) := by decide +kernel
theorem dX7_tray_57 : decode cX7_tray 57 = .ok (.getfield 22, 3) := by decide +kernel
theorem dX7_tray_60 : decode cX7_tray 60 = .ok (.aload_n 0, 1) := by decide +kernel
theorem dX7_tray_61 : decode cX7_tray 61 = .ok (.getfield 7, 3) := by decide +kernel
theorem dX7_tray_64 : decode cX7_tray 64 = .ok (.aaload, 1) := by decide +kernel
theorem dX7_tray_65 : decode cX7_tray 65 = .ok (.iload_n 1, 1) := by decide +kernel
theorem dX7_tray_66 : decode cX7_tray 66 = .ok (.iload_n 1, 1) := by decide +kernel
theorem dX7_tray_67 : decode cX7_tray 67 = .ok (.ifCond .ne 8, 3) := by decide +kernel
theorem dX7_tray_70 : decode cX7_tray 70 = .ok (.bipush (-4), 2) := by decide +kernel
theorem dX7_tray_72 : decode cX7_tray 72 = .ok (.goto 4, 3) := by decide +kernel
theorem dX7_tray_75 : decode cX7_tray 75 = .ok (.iload_n 2, 1) := by decide +kernel
theorem dX7_tray_76 : decode cX7_tray 76 = .ok (.invokevirtual 105, 3) := by decide +kernel
theorem dX7_tray_79 : decode cX7_tray 79 = .ok (.aload_n 0, 1) := by decide +kernel
theorem dX7_tray_80 : decode cX7_tray 80 = .ok (.dup, 1) := by decide +kernel
theorem dX7_tray_81 : decode cX7_tray 81 = .ok (.getfield 7, 3) := by decide +kernel
theorem dX7_tray_84 : decode cX7_tray 84 = .ok (.iconst 1, 1) := by decide +kernel
theorem dX7_tray_85 : decode cX7_tray 85 = .ok (.iadd, 1) := by decide +kernel
theorem dX7_tray_86 : decode cX7_tray 86 = .ok (.putfield 7, 3) := by decide +kernel
theorem dX7_tray_89 : decode cX7_tray 89 = .ok (.aload_n 0, 1) := by decide +kernel
theorem dX7_tray_90 : decode cX7_tray 90 = .ok (.getfield 7, 3) := by decide +kernel
theorem dX7_tray_93 : decode cX7_tray 93 = .ok (.iconst 1, 1) := by decide +kernel
theorem dX7_tray_94 : decode cX7_tray 94 = .ok (.isub, 1) := by decide +kernel
theorem dX7_tray_95 : decode cX7_tray 95 = .ok (.ireturn, 1) := by decide +kernel
theorem dX7_put_0 : decode cX7_put 0 = .ok (.aload_n 0, 1) := by decide +kernel
theorem dX7_put_1 : decode cX7_put 1 = .ok (.iload_n 1, 1) := by decide +kernel
theorem dX7_put_2 : decode cX7_put 2 = .ok (.invokevirtual 109, 3) := by decide +kernel
theorem dX7_put_5 : decode cX7_put 5 = .ok (.ifCond .eq 17, 3) := by decide +kernel
theorem dX7_put_8 : decode cX7_put 8 = .ok (.aload_n 0, 1) := by decide +kernel
theorem dX7_put_9 : decode cX7_put 9 = .ok (.getfield 16, 3) := by decide +kernel
theorem dX7_put_12 : decode cX7_put 12 = .ok (.getfield 41, 3) := by decide +kernel
theorem dX7_put_15 : decode cX7_put 15 = .ok (.iload_n 2, 1) := by decide +kernel
theorem dX7_put_16 : decode cX7_put 16 = .ok (.invokevirtual 51, 3) := by decide +kernel
theorem dX7_put_19 : decode cX7_put 19 = .ok (.ifCond .ne 5, 3) := by decide +kernel
theorem dX7_put_22 : decode cX7_put 22 = .ok (.iconst (-1), 1) := by decide +kernel
theorem dX7_put_23 : decode cX7_put 23 = .ok (.ireturn, 1) := by decide +kernel
theorem dX7_put_24 : decode cX7_put 24 = .ok (.aload_n 0, 1) := by decide +kernel
theorem dX7_put_25 : decode cX7_put 25 = .ok (.getfield 22, 3) := by decide +kernel
theorem dX7_put_28 : decode cX7_put 28 = .ok (.iload_n 1, 1) := by decide +kernel
theorem dX7_put_29 : decode cX7_put 29 = .ok (.aaload, 1) := by decide +kernel
theorem dX7_put_30 : decode cX7_put 30 = .ok (.astore_n 3, 1) := by decide +kernel
theorem dX7_put_31 : decode cX7_put 31 = .ok (.aload_n 3, 1) := by decide +kernel
theorem dX7_put_32 : decode cX7_put 32 = .ok (.getfield 112, 3) := by decide +kernel
theorem dX7_put_35 : decode cX7_put 35 = .ok (.getfield 115, 3) := by decide +kernel
theorem dX7_put_38 : decode cX7_put 38 = .ok (.bipush 40, 2) := by decide +kernel
theorem dX7_put_40 : decode cX7_put 40 = .ok (.if_icmp .lt 6, 3) := by decide +kernel
theorem dX7_put_43 : decode cX7_put 43 = .ok (.bipush (-3), 2) := by decide +kernel
theorem dX7_put_45 : decode cX7_put 45 = .ok (.ireturn, 1) := by decide +kernel
theorem dX7_put_46 : decode cX7_put 46 = .ok (.aload_n 0, 1) := by decide +kernel
theorem dX7_put_47 : decode cX7_put 47 = .ok (.getfield 16, 3) := by decide +kernel
theorem dX7_put_50 : decode cX7_put 50 = .ok (.invokevirtual 118, 3) := by decide +kernel
theorem dX7_put_53 : decode cX7_put 53 = .ok (.aload_n 0, 1) := by decide +kernel
theorem dX7_put_54 : decode cX7_put 54 = .ok (.getfield 30, 3) := by decide +kernel
theorem dX7_put_57 : decode cX7_put 57 = .ok (.aload_n 3, 1) := by decide +kernel
theorem dX7_put_58 : decode cX7_put 58 = .ok (.getfield 112, 3) := by decide +kernel
theorem dX7_put_61 : decode cX7_put 61 = .ok (.invokevirtual 121, 3) := by decide +kernel
theorem dX7_put_64 : decode cX7_put 64 = .ok (.aload_n 0, 1) := by decide +kernel
theorem dX7_put_65 : decode cX7_put 65 = .ok (.aload_n 3, 1) := by decide +kernel
theorem dX7_put_66 : decode cX7_put 66 = .ok (.aload_n 0, 1) := by decide +kernel
theorem dX7_put_67 : decode cX7_put 67 = .ok (.aload_n 3, 1) := by decide +kernel
theorem dX7_put_68 : decode cX7_put 68 = .ok (.iload_n 2, 1) := by decide +kernel
theorem dX7_put_69 : decode cX7_put 69 = .ok (.invokevirtual 125, 3) := by decide +kernel
theorem dX7_put_72 : decode cX7_put 72 = .ok (.invokevirtual 129, 3) := by decide +kernel
theorem dX7_put_75 : decode cX7_put 75 = .ok (.ireturn, 1) := by decide +kernel
theorem dX7_take_0 : decode cX7_take 0 = .ok (.aload_n 0, 1) := by decide +kernel
theorem dX7_take_1 : decode cX7_take 1 = .ok (.iload_n 1, 1) := by decide +kernel
theorem dX7_take_2 : decode cX7_take 2 = .ok (.invokevirtual 109, 3) := by decide +kernel
theorem dX7_take_5 : decode cX7_take 5 = .ok (.ifCond .eq 19, 3) := by decide +kernel
theorem dX7_take_8 : decode cX7_take 8 = .ok (.aload_n 0, 1) := by decide +kernel
theorem dX7_take_9 : decode cX7_take 9 = .ok (.getfield 22, 3) := by decide +kernel
theorem dX7_take_12 : decode cX7_take 12 = .ok (.iload_n 1, 1) := by decide +kernel
theorem dX7_take_13 : decode cX7_take 13 = .ok (.aaload, 1) := by decide +kernel
theorem dX7_take_14 : decode cX7_take 14 = .ok (.getfield 112, 3) := by decide +kernel
theorem dX7_take_17 : decode cX7_take 17 = .ok (.iload_n 2, 1) := by decide +kernel
theorem dX7_take_18 : decode cX7_take 18 = .ok (.invokevirtual 133, 3) := by decide +kernel
theorem dX7_take_21 : decode cX7_take 21 = .ok (.ifCond .ne 5, 3) := by decide +kernel
theorem dX7_take_24 : decode cX7_take 24 = .ok (.iconst (-1), 1) := by decide +kernel
theorem dX7_take_25 : decode cX7_take 25 = .ok (.ireturn, 1) := by decide +kernel
theorem dX7_take_26 : decode cX7_take 26 = .ok (.aload_n 0, 1) := by decide +kernel
theorem dX7_take_27 : decode cX7_take 27 = .ok (.getfield 16, 3) := by decide +kernel
theorem dX7_take_30 : decode cX7_take 30 = .ok (.invokevirtual 118, 3) := by decide +kernel
theorem dX7_take_33 : decode cX7_take 33 = .ok (.aload_n 0, 1) := by decide +kernel
theorem dX7_take_34 : decode cX7_take 34 = .ok (.aload_n 0, 1) := by decide +kernel
theorem dX7_take_35 : decode cX7_take 35 = .ok (.getfield 22, 3) := by decide +kernel
theorem dX7_take_38 : decode cX7_take 38 = .ok (.iload_n 1, 1) := by decide +kernel
theorem dX7_take_39 : decode cX7_take 39 = .ok (.aaload, 1) := by decide +kernel
theorem dX7_take_40 : decode cX7_take 40 = .ok (.aload_n 0, 1) := by decide +kernel
theorem dX7_take_41 : decode cX7_take 41 = .ok (.aload_n 0, 1) := by decide +kernel
theorem dX7_take_42 : decode cX7_take 42 = .ok (.getfield 22, 3) := by decide +kernel
theorem dX7_take_45 : decode cX7_take 45 = .ok (.iload_n 1, 1) := by decide +kernel
theorem dX7_take_46 : decode cX7_take 46 = .ok (.aaload, 1) := by decide +kernel
theorem dX7_take_47 : decode cX7_take 47 = .ok (.iload_n 2, 1) := by decide +kernel
theorem dX7_take_48 : decode cX7_take 48 = .ok (.invokevirtual 136, 3) := by decide +kernel
theorem dX7_take_51 : decode cX7_take 51 = .ok (.invokevirtual 129, 3) := by decide +kernel
theorem dX7_take_54 : decode cX7_take 54 = .ok (.ireturn, 1) := by decide +kernel
theorem dX7_first_0 : decode cX7_first 0 = .ok (.aload_n 0, 1) := by decide +kernel
theorem dX7_first_1 : decode cX7_first 1 = .ok (.iload_n 1, 1) := by decide +kernel
theorem dX7_first_2 : decode cX7_first 2 = .ok (.invokevirtual 109, 3) := by decide +kernel
theorem dX7_first_5 : decode cX7_first 5 = .ok (.ifCond .eq 19, 3) := by decide +kernel
theorem dX7_first_8 : decode cX7_first 8 = .ok (.aload_n 0, 1) := by decide +kernel
theorem dX7_first_9 : decode cX7_first 9 = .ok (.getfield 22, 3) := by decide +kernel
theorem dX7_first_12 : decode cX7_first 12 = .ok (.iload_n 1, 1) := by decide +kernel
theorem dX7_first_13 : decode cX7_first 13 = .ok (.aaload, 1) := by decide +kernel
theorem dX7_first_14 : decode cX7_first 14 = .ok (.getfield 112, 3) := by decide +kernel
theorem dX7_first_17 : decode cX7_first 17 = .ok (.iconst 0, 1) := by decide +kernel
theorem dX7_first_18 : decode cX7_first 18 = .ok (.invokevirtual 133, 3) := by decide +kernel
theorem dX7_first_21 : decode cX7_first 21 = .ok (.ifCond .ne 5, 3) := by decide +kernel
theorem dX7_first_24 : decode cX7_first 24 = .ok (.iconst (-1), 1) := by decide +kernel
theorem dX7_first_25 : decode cX7_first 25 = .ok (.ireturn, 1) := by decide +kernel
theorem dX7_first_26 : decode cX7_first 26 = .ok (.aload_n 0, 1) := by decide +kernel
theorem dX7_first_27 : decode cX7_first 27 = .ok (.getfield 22, 3) := by decide +kernel
theorem dX7_first_30 : decode cX7_first 30 = .ok (.iload_n 1, 1) := by decide +kernel
theorem dX7_first_31 : decode cX7_first 31 = .ok (.aaload, 1) := by decide +kernel
theorem dX7_first_32 : decode cX7_first 32 = .ok (.getfield 112, 3) := by decide +kernel
theorem dX7_first_35 : decode cX7_first 35 = .ok (.iconst 0, 1) := by decide +kernel
theorem dX7_first_36 : decode cX7_first 36 = .ok (.invokevirtual 139, 3) := by decide +kernel
theorem dX7_first_39 : decode cX7_first 39 = .ok (.istore_n 2, 1) := by decide +kernel
theorem dX7_first_40 : decode cX7_first 40 = .ok (.aload_n 0, 1) := by decide +kernel
theorem dX7_first_41 : decode cX7_first 41 = .ok (.getfield 16, 3) := by decide +kernel
theorem dX7_first_44 : decode cX7_first 44 = .ok (.invokevirtual 118, 3) := by decide +kernel
theorem dX7_first_47 : decode cX7_first 47 = .ok (.aload_n 0, 1) := by decide +kernel
theorem dX7_first_48 : decode cX7_first 48 = .ok (.aload_n 0, 1) := by decide +kernel
theorem dX7_first_49 : decode cX7_first 49 = .ok (.getfield 22, 3) := by decide +kernel
theorem dX7_first_52 : decode cX7_first 52 = .ok (.iload_n 1, 1) := by decide +kernel
theorem dX7_first_53 : decode cX7_first 53 = .ok (.aaload, 1) := by decide +kernel
theorem dX7_first_54 : decode cX7_first 54 = .ok (.aload_n 0, 1) := by decide +kernel
theorem dX7_first_55 : decode cX7_first 55 = .ok (.aload_n 0, 1) := by decide +kernel
theorem dX7_first_56 : decode cX7_first 56 = .ok (.getfield 22, 3) := by decide +kernel
theorem dX7_first_59 : decode cX7_first 59 = .ok (.iload_n 1, 1) := by decide +kernel
theorem dX7_first_60 : decode cX7_first 60 = .ok (.aaload, 1) := by decide +kernel
theorem dX7_first_61 : decode cX7_first 61 = .ok (.iconst 0, 1) := by decide +kernel
theorem dX7_first_62 : decode cX7_first 62 = .ok (.invokevirtual 136, 3) := by decide +kernel
theorem dX7_first_65 : decode cX7_first 65 = .ok (.invokevirtual 129, 3) := by decide +kernel
theorem dX7_first_68 : decode cX7_first 68 = .ok (.istore_n 3, 1) := by decide +kernel
theorem dX7_first_69 : decode cX7_first 69 = .ok (.iload_n 3, 1) := by decide +kernel
theorem dX7_first_70 : decode cX7_first 70 = .ok (.ifCond .ne 7, 3) := by decide +kernel
theorem dX7_first_73 : decode cX7_first 73 = .ok (.iload_n 2, 1) := by decide +kernel
theorem dX7_first_74 : decode cX7_first 74 = .ok (.goto 5, 3) := by decide +kernel
theorem dX7_first_77 : decode cX7_first 77 = .ok (.bipush (-11), 2) := by decide +kernel
theorem dX7_first_79 : decode cX7_first 79 = .ok (.ireturn, 1) := by decide +kernel
theorem dX7_find_0 : decode cX7_find 0 = .ok (.aload_n 0, 1) := by decide +kernel
theorem dX7_find_1 : decode cX7_find 1 = .ok (.iload_n 1, 1) := by decide +kernel
theorem dX7_find_2 : decode cX7_find 2 = .ok (.invokevirtual 109, 3) := by decide +kernel
theorem dX7_find_5 : decode cX7_find 5 = .ok (.ifCond .eq 17, 3) := by decide +kernel
theorem dX7_find_8 : decode cX7_find 8 = .ok (.aload_n 0, 1) := by decide +kernel
theorem dX7_find_9 : decode cX7_find 9 = .ok (.getfield 16, 3) := by decide +kernel
theorem dX7_find_12 : decode cX7_find 12 = .ok (.getfield 41, 3) := by decide +kernel
theorem dX7_find_15 : decode cX7_find 15 = .ok (.iload_n 2, 1) := by decide +kernel
theorem dX7_find_16 : decode cX7_find 16 = .ok (.invokevirtual 51, 3) := by decide +kernel
theorem dX7_find_19 : decode cX7_find 19 = .ok (.ifCond .ne 5, 3) := by decide +kernel
theorem dX7_find_22 : decode cX7_find 22 = .ok (.iconst (-1), 1) := by decide +kernel
theorem dX7_find_23 : decode cX7_find 23 = .ok (.ireturn, 1) := by decide +kernel
theorem dX7_find_24 : decode cX7_find 24 = .ok (.aload_n 0, 1) := by decide +kernel
theorem dX7_find_25 : decode cX7_find 25 = .ok (.getfield 22, 3) := by decide +kernel
theorem dX7_find_28 : decode cX7_find 28 = .ok (.iload_n 1, 1) := by decide +kernel
theorem dX7_find_29 : decode cX7_find 29 = .ok (.aaload, 1) := by decide +kernel
theorem dX7_find_30 : decode cX7_find 30 = .ok (.astore_n 3, 1) := by decide +kernel
theorem dX7_find_31 : decode cX7_find 31 = .ok (.aload_n 3, 1) := by decide +kernel
theorem dX7_find_32 : decode cX7_find 32 = .ok (.getfield 142, 3) := by decide +kernel
theorem dX7_find_35 : decode cX7_find 35 = .ok (.iconst 1, 1) := by decide +kernel
theorem dX7_find_36 : decode cX7_find 36 = .ok (.if_icmp .eq 6, 3) := by decide +kernel
theorem dX7_find_39 : decode cX7_find 39 = .ok (.bipush (-2), 2) := by decide +kernel
theorem dX7_find_41 : decode cX7_find 41 = .ok (.ireturn, 1) := by decide +kernel
theorem dX7_find_42 : decode cX7_find 42 = .ok (.aload_n 0, 1) := by decide +kernel
theorem dX7_find_43 : decode cX7_find 43 = .ok (.getfield 16, 3) := by decide +kernel
theorem dX7_find_46 : decode cX7_find 46 = .ok (.invokevirtual 118, 3) := by decide +kernel
theorem dX7_find_49 : decode cX7_find 49 = .ok (.aload_n 3, 1) := by decide +kernel
theorem dX7_find_50 : decode cX7_find 50 = .ok (.getfield 112, 3) := by decide +kernel
theorem dX7_find_53 : decode cX7_find 53 = .ok (.iload_n 2, 1) := by decide +kernel
theorem dX7_find_54 : decode cX7_find 54 = .ok (.aload_n 0, 1) := by decide +kernel
theorem dX7_find_55 : decode cX7_find 55 = .ok (.getfield 16, 3) := by decide +kernel
theorem dX7_find_58 : decode cX7_find 58 = .ok (.aload_n 3, 1) := by decide +kernel
theorem dX7_find_59 : decode cX7_find 59 = .ok (.getfield 145, 3) := by decide +kernel
theorem dX7_find_62 : decode cX7_find 62 = .ok (.invokevirtual 148, 3) := by decide +kernel
theorem dX7_find_65 : decode cX7_find 65 = .ok (.ireturn, 1) := by decide +kernel
theorem dX7_sort_0 : decode cX7_sort 0 = .ok (.aload_n 0, 1) := by decide +kernel
theorem dX7_sort_1 : decode cX7_sort 1 = .ok (.iload_n 1, 1) := by decide +kernel
theorem dX7_sort_2 : decode cX7_sort 2 = .ok (.invokevirtual 109, 3) := by decide +kernel
theorem dX7_sort_5 : decode cX7_sort 5 = .ok (.ifCond .eq 14, 3) := by decide +kernel
theorem dX7_sort_8 : decode cX7_sort 8 = .ok (.aload_n 0, 1) := by decide +kernel
theorem dX7_sort_9 : decode cX7_sort 9 = .ok (.getfield 16, 3) := by decide +kernel
theorem dX7_sort_12 : decode cX7_sort 12 = .ok (.iload_n 2, 1) := by decide +kernel
theorem dX7_sort_13 : decode cX7_sort 13 = .ok (.invokevirtual 67, 3) := by decide +kernel
theorem dX7_sort_16 : decode cX7_sort 16 = .ok (.ifCond .ne 5, 3) := by decide +kernel
theorem dX7_sort_19 : decode cX7_sort 19 = .ok (.iconst (-1), 1) := by decide +kernel
theorem dX7_sort_20 : decode cX7_sort 20 = .ok (.ireturn, 1) := by decide +kernel
theorem dX7_sort_21 : decode cX7_sort 21 = .ok (.aload_n 0, 1) := by decide +kernel
theorem dX7_sort_22 : decode cX7_sort 22 = .ok (.getfield 22, 3) := by decide +kernel
theorem dX7_sort_25 : decode cX7_sort 25 = .ok (.iload_n 1, 1) := by decide +kernel
theorem dX7_sort_26 : decode cX7_sort 26 = .ok (.aaload, 1) := by decide +kernel
theorem dX7_sort_27 : decode cX7_sort 27 = .ok (.astore_n 3, 1) := by decide +kernel
theorem dX7_sort_28 : decode cX7_sort 28 = .ok (.aload_n 3, 1) := by decide +kernel
theorem dX7_sort_29 : decode cX7_sort 29 = .ok (.getfield 142, 3) := by decide +kernel
theorem dX7_sort_32 : decode cX7_sort 32 = .ok (.ifCond .ne 14, 3) := by decide +kernel
theorem dX7_sort_35 : decode cX7_sort 35 = .ok (.aload_n 0, 1) := by decide +kernel
theorem dX7_sort_36 : decode cX7_sort 36 = .ok (.getfield 16, 3) := by decide +kernel
theorem dX7_sort_39 : decode cX7_sort 39 = .ok (.iload_n 2, 1) := by decide +kernel
theorem dX7_sort_40 : decode cX7_sort 40 = .ok (.invokevirtual 102, 3) := by decide +kernel
theorem dX7_sort_43 : decode cX7_sort 43 = .ok (.ifCond .ne 6, 3) := by decide +kernel
theorem dX7_sort_46 : decode cX7_sort 46 = .ok (.bipush (-2), 2) := by decide +kernel
theorem dX7_sort_48 : decode cX7_sort 48 = .ok (.ireturn, 1) := by decide +kernel
theorem dX7_sort_49 : decode cX7_sort 49 = .ok (.aload_n 0, 1) := by decide +kernel
theorem dX7_sort_50 : decode cX7_sort 50 = .ok (.getfield 16, 3) := by decide +kernel
theorem dX7_sort_53 : decode cX7_sort 53 = .ok (.invokevirtual 118, 3) := by decide +kernel
theorem dX7_sort_56 : decode cX7_sort 56 = .ok (.aload_n 0, 1) := by decide +kernel
theorem dX7_sort_57 : decode cX7_sort 57 = .ok (.getfield 30, 3) := by decide +kernel
theorem dX7_sort_60 : decode cX7_sort 60 = .ok (.aload_n 3, 1) := by decide +kernel
theorem dX7_sort_61 : decode cX7_sort 61 = .ok (.getfield 112, 3) := by decide +kernel
theorem dX7_sort_64 : decode cX7_sort 64 = .ok (.invokevirtual 121, 3) := by decide +kernel
theorem dX7_sort_67 : decode cX7_sort 67 = .ok (.aload_n 0, 1) := by decide +kernel
theorem dX7_sort_68 : decode cX7_sort 68 = .ok (.aload_n 3, 1) := by decide +kernel
theorem dX7_sort_69 : decode cX7_sort 69 = .ok (.aload_n 0, 1) := by decide +kernel
theorem dX7_sort_70 : decode cX7_sort 70 = .ok (.iload_n 2, 1) := by decide +kernel
theorem dX7_sort_71 : decode cX7_sort 71 = .ok (.invokevirtual 152, 3) := by decide +kernel
theorem dX7_sort_74 : decode cX7_sort 74 = .ok (.invokevirtual 129, 3) := by decide +kernel
theorem dX7_sort_77 : decode cX7_sort 77 = .ok (.ireturn, 1) := by decide +kernel
theorem dX7_filter_0 : decode cX7_filter 0 = .ok (.aload_n 0, 1) := by decide +kernel
theorem dX7_filter_1 : decode cX7_filter 1 = .ok (.iload_n 1, 1) := by decide +kernel
theorem dX7_filter_2 : decode cX7_filter 2 = .ok (.invokevirtual 109, 3) := by decide +kernel
theorem dX7_filter_5 : decode cX7_filter 5 = .ok (.ifCond .eq 14, 3) := by decide +kernel
theorem dX7_filter_8 : decode cX7_filter 8 = .ok (.aload_n 0, 1) := by decide +kernel
theorem dX7_filter_9 : decode cX7_filter 9 = .ok (.getfield 16, 3) := by decide +kernel
theorem dX7_filter_12 : decode cX7_filter 12 = .ok (.iload_n 2, 1) := by decide +kernel
theorem dX7_filter_13 : decode cX7_filter 13 = .ok (.invokevirtual 67, 3) := by decide +kernel
theorem dX7_filter_16 : decode cX7_filter 16 = .ok (.ifCond .ne 5, 3) := by decide +kernel
theorem dX7_filter_19 : decode cX7_filter 19 = .ok (.iconst (-1), 1) := by decide +kernel
theorem dX7_filter_20 : decode cX7_filter 20 = .ok (.ireturn, 1) := by decide +kernel
theorem dX7_filter_21 : decode cX7_filter 21 = .ok (.aload_n 0, 1) := by decide +kernel
theorem dX7_filter_22 : decode cX7_filter 22 = .ok (.getfield 16, 3) := by decide +kernel
theorem dX7_filter_25 : decode cX7_filter 25 = .ok (.iload_n 2, 1) := by decide +kernel
theorem dX7_filter_26 : decode cX7_filter 26 = .ok (.invokevirtual 90, 3) := by decide +kernel
theorem dX7_filter_29 : decode cX7_filter 29 = .ok (.iconst 3, 1) := by decide +kernel
theorem dX7_filter_30 : decode cX7_filter 30 = .ok (.if_icmp .eq 6, 3) := by decide +kernel
theorem dX7_filter_33 : decode cX7_filter 33 = .ok (.bipush (-2), 2) := by decide +kernel
theorem dX7_filter_35 : decode cX7_filter 35 = .ok (.ireturn, 1) := by decide +kernel
theorem dX7_filter_36 : decode cX7_filter 36 = .ok (.aload_n 0, 1) := by decide +kernel
theorem dX7_filter_37 : decode cX7_filter 37 = .ok (.getfield 22, 3) := by decide +kernel
theorem dX7_filter_40 : decode cX7_filter 40 = .ok (.iload_n 1, 1) := by decide +kernel
theorem dX7_filter_41 : decode cX7_filter 41 = .ok (.aaload, 1) := by decide +kernel
theorem dX7_filter_42 : decode cX7_filter 42 = .ok (.astore_n 3, 1) := by decide +kernel
theorem dX7_filter_43 : decode cX7_filter 43 = .ok (.aload_n 0, 1) := by decide +kernel
theorem dX7_filter_44 : decode cX7_filter 44 = .ok (.getfield 16, 3) := by decide +kernel
theorem dX7_filter_47 : decode cX7_filter 47 = .ok (.invokevirtual 118, 3) := by decide +kernel
theorem dX7_filter_50 : decode cX7_filter 50 = .ok (.aload_n 0, 1) := by decide +kernel
theorem dX7_filter_51 : decode cX7_filter 51 = .ok (.aload_n 3, 1) := by decide +kernel
theorem dX7_filter_52 : decode cX7_filter 52 = .ok (.getfield 112, 3) := by decide +kernel
theorem dX7_filter_55 : decode cX7_filter 55 = .ok (.iload_n 2, 1) := by decide +kernel
theorem dX7_filter_56 : decode cX7_filter 56 = .ok (.invokevirtual 155, 3) := by decide +kernel
theorem dX7_filter_59 : decode cX7_filter 59 = .ok (.istore 4, 2) := by decide +kernel
theorem dX7_filter_61 : decode cX7_filter 61 = .ok (.aload_n 3, 1) := by decide +kernel
theorem dX7_filter_62 : decode cX7_filter 62 = .ok (.getfield 142, 3) := by decide +kernel
theorem dX7_filter_65 : decode cX7_filter 65 = .ok (.iconst 2, 1) := by decide +kernel
theorem dX7_filter_66 : decode cX7_filter 66 = .ok (.if_icmp .ne 49, 3) := by decide +kernel
theorem dX7_filter_69 : decode cX7_filter 69 = .ok (.aload_n 0, 1) := by decide +kernel
theorem dX7_filter_70 : decode cX7_filter 70 = .ok (.getfield 34, 3) := by decide +kernel
theorem dX7_filter_73 : decode cX7_filter 73 = .ok (.aload_n 0, 1) := by decide +kernel
theorem dX7_filter_74 : decode cX7_filter 74 = .ok (.getfield 30, 3) := by decide +kernel
theorem dX7_filter_77 : decode cX7_filter 77 = .ok (.invokevirtual 121, 3) := by decide +kernel
theorem dX7_filter_80 : decode cX7_filter 80 = .ok (.aload_n 0, 1) := by decide +kernel
theorem dX7_filter_81 : decode cX7_filter 81 = .ok (.getfield 30, 3) := by decide +kernel
theorem dX7_filter_84 : decode cX7_filter 84 = .ok (.invokevirtual 159, 3) := by decide +kernel
theorem dX7_filter_87 : decode cX7_filter 87 = .ok (.aload_n 0, 1) := by decide +kernel
theorem dX7_filter_88 : decode cX7_filter 88 = .ok (.aload_n 3, 1) := by decide +kernel
theorem dX7_filter_89 : decode cX7_filter 89 = .ok (.iload 4, 2) := by decide +kernel
theorem dX7_filter_91 : decode cX7_filter 91 = .ok (.ifCond .eq 19, 3) := by decide +kernel
theorem dX7_filter_94 : decode cX7_filter 94 = .ok (.aload_n 0, 1) := by decide +kernel
theorem dX7_filter_95 : decode cX7_filter 95 = .ok (.aload_n 3, 1) := by decide +kernel
theorem dX7_filter_96 : decode cX7_filter 96 = .ok (.aload_n 0, 1) := by decide +kernel
theorem dX7_filter_97 : decode cX7_filter 97 = .ok (.getfield 34, 3) := by decide +kernel
theorem dX7_filter_100 : decode cX7_filter 100 = .ok (.invokevirtual 161, 3) := by decide +kernel
theorem dX7_filter_103 : decode cX7_filter 103 = .ok (.ifCond .eq 7, 3) := by decide +kernel
theorem dX7_filter_106 : decode cX7_filter 106 = .ok (.iconst 1, 1) := by decide +kernel
theorem dX7_filter_107 : decode cX7_filter 107 = .ok (.goto 4, 3) := by decide +kernel
theorem dX7_filter_110 : decode cX7_filter 110 = .ok (.iconst 0, 1) := by decide +kernel
theorem dX7_filter_111 : decode cX7_filter 111 = .ok (.invokevirtual 129, 3) := by decide +kernel
theorem dX7_filter_114 : decode cX7_filter 114 = .ok (.ireturn, 1) := by decide +kernel
theorem dX7_filter_115 : decode cX7_filter 115 = .ok (.aload_n 3, 1) := by decide +kernel
theorem dX7_filter_116 : decode cX7_filter 116 = .ok (.getfield 112, 3) := by decide +kernel
theorem dX7_filter_119 : decode cX7_filter 119 = .ok (.aload_n 0, 1) := by decide +kernel
theorem dX7_filter_120 : decode cX7_filter 120 = .ok (.getfield 30, 3) := by decide +kernel
theorem dX7_filter_123 : decode cX7_filter 123 = .ok (.invokevirtual 121, 3) := by decide +kernel
theorem dX7_filter_126 : decode cX7_filter 126 = .ok (.iload 4, 2) := by decide +kernel
theorem dX7_filter_128 : decode cX7_filter 128 = .ok (.ifCond .eq 7, 3) := by decide +kernel
theorem dX7_filter_131 : decode cX7_filter 131 = .ok (.iconst 0, 1) := by decide +kernel
theorem dX7_filter_132 : decode cX7_filter 132 = .ok (.goto 4, 3) := by decide +kernel
theorem dX7_filter_135 : decode cX7_filter 135 = .ok (.iconst 2, 1) := by decide +kernel
theorem dX7_filter_136 : decode cX7_filter 136 = .ok (.ireturn, 1) := by decide +kernel
theorem dX7_change_0 : decode cX7_change 0 = .ok (.aload_n 0, 1) := by decide +kernel
theorem dX7_change_1 : decode cX7_change 1 = .ok (.iload_n 1, 1) := by decide +kernel
theorem dX7_change_2 : decode cX7_change 2 = .ok (.invokevirtual 109, 3) := by decide +kernel
theorem dX7_change_5 : decode cX7_change 5 = .ok (.ifCond .eq 14, 3) := by decide +kernel
theorem dX7_change_8 : decode cX7_change 8 = .ok (.aload_n 0, 1) := by decide +kernel
theorem dX7_change_9 : decode cX7_change 9 = .ok (.getfield 16, 3) := by decide +kernel
theorem dX7_change_12 : decode cX7_change 12 = .ok (.iload_n 2, 1) := by decide +kernel
theorem dX7_change_13 : decode cX7_change 13 = .ok (.invokevirtual 67, 3) := by decide +kernel
theorem dX7_change_16 : decode cX7_change 16 = .ok (.ifCond .ne 5, 3) := by decide +kernel
theorem dX7_change_19 : decode cX7_change 19 = .ok (.iconst (-1), 1) := by decide +kernel
theorem dX7_change_20 : decode cX7_change 20 = .ok (.ireturn, 1) := by decide +kernel
theorem dX7_change_21 : decode cX7_change 21 = .ok (.aload_n 0, 1) := by decide +kernel
theorem dX7_change_22 : decode cX7_change 22 = .ok (.getfield 22, 3) := by decide +kernel
theorem dX7_change_25 : decode cX7_change 25 = .ok (.iload_n 1, 1) := by decide +kernel
theorem dX7_change_26 : decode cX7_change 26 = .ok (.aaload, 1) := by decide +kernel
theorem dX7_change_27 : decode cX7_change 27 = .ok (.astore_n 3, 1) := by decide +kernel
theorem dX7_change_28 : decode cX7_change 28 = .ok (.aload_n 3, 1) := by decide +kernel
theorem dX7_change_29 : decode cX7_change 29 = .ok (.getfield 142, 3) := by decide +kernel
theorem dX7_change_32 : decode cX7_change 32 = .ok (.ifCond .ne 15, 3) := by decide +kernel
theorem dX7_change_35 : decode cX7_change 35 = .ok (.aload_n 0, 1) := by decide +kernel
theorem dX7_change_36 : decode cX7_change 36 = .ok (.getfield 16, 3) := by decide +kernel
theorem dX7_change_39 : decode cX7_change 39 = .ok (.iload_n 2, 1) := by decide +kernel
theorem dX7_change_40 : decode cX7_change 40 = .ok (.invokevirtual 90, 3) := by decide +kernel
theorem dX7_change_43 : decode cX7_change 43 = .ok (.iconst 4, 1) := by decide +kernel
theorem dX7_change_44 : decode cX7_change 44 = .ok (.if_icmp .eq 6, 3) := by decide +kernel
theorem dX7_change_47 : decode cX7_change 47 = .ok (.bipush (-2), 2) := by decide +kernel
theorem dX7_change_49 : decode cX7_change 49 = .ok (.ireturn, 1) := by decide +kernel
theorem dX7_change_50 : decode cX7_change 50 = .ok (.aload_n 0, 1) := by decide +kernel
theorem dX7_change_51 : decode cX7_change 51 = .ok (.getfield 16, 3) := by decide +kernel
theorem dX7_change_54 : decode cX7_change 54 = .ok (.getfield 41, 3) := by decide +kernel
theorem dX7_change_57 : decode cX7_change 57 = .ok (.getfield 165, 3) := by decide +kernel
theorem dX7_change_60 : decode cX7_change 60 = .ok (.aload_n 3, 1) := by decide +kernel
theorem dX7_change_61 : decode cX7_change 61 = .ok (.getfield 112, 3) := by decide +kernel
theorem dX7_change_64 : decode cX7_change 64 = .ok (.getfield 115, 3) := by decide +kernel
theorem dX7_change_67 : decode cX7_change 67 = .ok (.iadd, 1) := by decide +kernel
theorem dX7_change_68 : decode cX7_change 68 = .ok (.bipush 120, 2) := by decide +kernel
theorem dX7_change_70 : decode cX7_change 70 = .ok (.if_icmp .le 6, 3) := by decide +kernel
theorem dX7_change_73 : decode cX7_change 73 = .ok (.bipush (-3), 2) := by decide +kernel
theorem dX7_change_75 : decode cX7_change 75 = .ok (.ireturn, 1) := by decide +kernel
theorem dX7_change_76 : decode cX7_change 76 = .ok (.aload_n 0, 1) := by decide +kernel
theorem dX7_change_77 : decode cX7_change 77 = .ok (.getfield 16, 3) := by decide +kernel
theorem dX7_change_80 : decode cX7_change 80 = .ok (.invokevirtual 118, 3) := by decide +kernel
theorem dX7_change_83 : decode cX7_change 83 = .ok (.aload_n 0, 1) := by decide +kernel
theorem dX7_change_84 : decode cX7_change 84 = .ok (.aload_n 3, 1) := by decide +kernel
theorem dX7_change_85 : decode cX7_change 85 = .ok (.getfield 112, 3) := by decide +kernel
theorem dX7_change_88 : decode cX7_change 88 = .ok (.iload_n 2, 1) := by decide +kernel
theorem dX7_change_89 : decode cX7_change 89 = .ok (.invokevirtual 166, 3) := by decide +kernel
theorem dX7_change_92 : decode cX7_change 92 = .ok (.ifCond .eq 7, 3) := by decide +kernel
theorem dX7_change_95 : decode cX7_change 95 = .ok (.iconst 0, 1) := by decide +kernel
theorem dX7_change_96 : decode cX7_change 96 = .ok (.goto 4, 3) := by decide +kernel
theorem dX7_change_99 : decode cX7_change 99 = .ok (.iconst 2, 1) := by decide +kernel
theorem dX7_change_100 : decode cX7_change 100 = .ok (.ireturn, 1) := by decide +kernel
theorem dX7_all_0 : decode cX7_all 0 = .ok (.aload_n 0, 1) := by decide +kernel
theorem dX7_all_1 : decode cX7_all 1 = .ok (.iload_n 1, 1) := by decide +kernel
theorem dX7_all_2 : decode cX7_all 2 = .ok (.invokevirtual 109, 3) := by decide +kernel
theorem dX7_all_5 : decode cX7_all 5 = .ok (.ifCond .eq 16, 3) := by decide +kernel
theorem dX7_all_8 : decode cX7_all 8 = .ok (.aload_n 0, 1) := by decide +kernel
theorem dX7_all_9 : decode cX7_all 9 = .ok (.iload_n 2, 1) := by decide +kernel
theorem dX7_all_10 : decode cX7_all 10 = .ok (.invokevirtual 109, 3) := by decide +kernel
theorem dX7_all_13 : decode cX7_all 13 = .ok (.ifCond .eq 8, 3) := by decide +kernel
theorem dX7_all_16 : decode cX7_all 16 = .ok (.iload_n 1, 1) := by decide +kernel
theorem dX7_all_17 : decode cX7_all 17 = .ok (.iload_n 2, 1) := by decide +kernel
theorem dX7_all_18 : decode cX7_all 18 = .ok (.if_icmp .ne 5, 3) := by decide +kernel
theorem dX7_all_21 : decode cX7_all 21 = .ok (.iconst (-1), 1) := by decide +kernel
theorem dX7_all_22 : decode cX7_all 22 = .ok (.ireturn, 1) := by decide +kernel
theorem dX7_all_23 : decode cX7_all 23 = .ok (.aload_n 0, 1) := by decide +kernel
theorem dX7_all_24 : decode cX7_all 24 = .ok (.getfield 22, 3) := by decide +kernel
theorem dX7_all_27 : decode cX7_all 27 = .ok (.iload_n 1, 1) := by decide +kernel
theorem dX7_all_28 : decode cX7_all 28 = .ok (.aaload, 1) := by decide +kernel
theorem dX7_all_29 : decode cX7_all 29 = .ok (.astore_n 3, 1) := by decide +kernel
theorem dX7_all_30 : decode cX7_all 30 = .ok (.aload_n 0, 1) := by decide +kernel
theorem dX7_all_31 : decode cX7_all 31 = .ok (.getfield 22, 3) := by decide +kernel
theorem dX7_all_34 : decode cX7_all 34 = .ok (.iload_n 2, 1) := by decide +kernel
theorem dX7_all_35 : decode cX7_all 35 = .ok (.aaload, 1) := by decide +kernel
theorem dX7_all_36 : decode cX7_all 36 = .ok (.astore 4, 2) := by decide +kernel
theorem dX7_all_38 : decode cX7_all 38 = .ok (.aload_n 3, 1) := by decide +kernel
theorem dX7_all_39 : decode cX7_all 39 = .ok (.getfield 142, 3) := by decide +kernel
theorem dX7_all_42 : decode cX7_all 42 = .ok (.aload 4, 2) := by decide +kernel
theorem dX7_all_44 : decode cX7_all 44 = .ok (.getfield 142, 3) := by decide +kernel
theorem dX7_all_47 : decode cX7_all 47 = .ok (.if_icmp .ne 15, 3) := by decide +kernel
theorem dX7_all_50 : decode cX7_all 50 = .ok (.aload_n 3, 1) := by decide +kernel
theorem dX7_all_51 : decode cX7_all 51 = .ok (.getfield 145, 3) := by decide +kernel
theorem dX7_all_54 : decode cX7_all 54 = .ok (.aload 4, 2) := by decide +kernel
theorem dX7_all_56 : decode cX7_all 56 = .ok (.getfield 145, 3) := by decide +kernel
theorem dX7_all_59 : decode cX7_all 59 = .ok (.if_icmp .eq 6, 3) := by decide +kernel
theorem dX7_all_62 : decode cX7_all 62 = .ok (.bipush (-2), 2) := by decide +kernel
theorem dX7_all_64 : decode cX7_all 64 = .ok (.ireturn, 1) := by decide +kernel
theorem dX7_all_65 : decode cX7_all 65 = .ok (.aload_n 3, 1) := by decide +kernel
theorem dX7_all_66 : decode cX7_all 66 = .ok (.getfield 112, 3) := by decide +kernel
theorem dX7_all_69 : decode cX7_all 69 = .ok (.getfield 115, 3) := by decide +kernel
theorem dX7_all_72 : decode cX7_all 72 = .ok (.aload 4, 2) := by decide +kernel
theorem dX7_all_74 : decode cX7_all 74 = .ok (.getfield 112, 3) := by decide +kernel
theorem dX7_all_77 : decode cX7_all 77 = .ok (.getfield 115, 3) := by decide +kernel
theorem dX7_all_80 : decode cX7_all 80 = .ok (.iadd, 1) := by decide +kernel
theorem dX7_all_81 : decode cX7_all 81 = .ok (.bipush 40, 2) := by decide +kernel
theorem dX7_all_83 : decode cX7_all 83 = .ok (.if_icmp .le 6, 3) := by decide +kernel
theorem dX7_all_86 : decode cX7_all 86 = .ok (.bipush (-3), 2) := by decide +kernel
theorem dX7_all_88 : decode cX7_all 88 = .ok (.ireturn, 1) := by decide +kernel
theorem dX7_all_89 : decode cX7_all 89 = .ok (.aload_n 0, 1) := by decide +kernel
theorem dX7_all_90 : decode cX7_all 90 = .ok (.getfield 16, 3) := by decide +kernel
theorem dX7_all_93 : decode cX7_all 93 = .ok (.invokevirtual 118, 3) := by decide +kernel
theorem dX7_all_96 : decode cX7_all 96 = .ok (.aload_n 0, 1) := by decide +kernel
theorem dX7_all_97 : decode cX7_all 97 = .ok (.getfield 30, 3) := by decide +kernel
theorem dX7_all_100 : decode cX7_all 100 = .ok (.aload 4, 2) := by decide +kernel
theorem dX7_all_102 : decode cX7_all 102 = .ok (.getfield 112, 3) := by decide +kernel
theorem dX7_all_105 : decode cX7_all 105 = .ok (.invokevirtual 121, 3) := by decide +kernel
theorem dX7_all_108 : decode cX7_all 108 = .ok (.aload 4, 2) := by decide +kernel
theorem dX7_all_110 : decode cX7_all 110 = .ok (.getfield 142, 3) := by decide +kernel
theorem dX7_all_113 : decode cX7_all 113 = .ok (.iconst 1, 1) := by decide +kernel
theorem dX7_all_114 : decode cX7_all 114 = .ok (.if_icmp .ne 19, 3) := by decide +kernel
theorem dX7_all_117 : decode cX7_all 117 = .ok (.aload_n 0, 1) := by decide +kernel
theorem dX7_all_118 : decode cX7_all 118 = .ok (.aload_n 3, 1) := by decide +kernel
theorem dX7_all_119 : decode cX7_all 119 = .ok (.getfield 112, 3) := by decide +kernel
theorem dX7_all_122 : decode cX7_all 122 = .ok (.aload 4, 2) := by decide +kernel
theorem dX7_all_124 : decode cX7_all 124 = .ok (.getfield 145, 3) := by decide +kernel
theorem dX7_all_127 : decode cX7_all 127 = .ok (.invokevirtual 169, 3) := by decide +kernel
theorem dX7_all_130 : decode cX7_all 130 = .ok (.goto 13, 3) := by decide +kernel
theorem dX7_all_133 : decode cX7_all 133 = .ok (.aload_n 0, 1) := by decide +kernel
theorem dX7_all_134 : decode cX7_all 134 = .ok (.aload 4, 2) := by decide +kernel
theorem dX7_all_136 : decode cX7_all 136 = .ok (.aload_n 3, 1) := by decide +kernel
theorem dX7_all_137 : decode cX7_all 137 = .ok (.getfield 112, 3) := by decide +kernel
theorem dX7_all_140 : decode cX7_all 140 = .ok (.invokevirtual 161, 3) := by decide +kernel
theorem dX7_all_143 : decode cX7_all 143 = .ok (.istore 5, 2) := by decide +kernel
theorem dX7_all_145 : decode cX7_all 145 = .ok (.aload_n 0, 1) := by decide +kernel
theorem dX7_all_146 : decode cX7_all 146 = .ok (.aload 4, 2) := by decide +kernel
theorem dX7_all_148 : decode cX7_all 148 = .ok (.iload 5, 2) := by decide +kernel
theorem dX7_all_150 : decode cX7_all 150 = .ok (.invokevirtual 129, 3) := by decide +kernel
theorem dX7_all_153 : decode cX7_all 153 = .ok (.istore 6, 2) := by decide +kernel
theorem dX7_all_155 : decode cX7_all 155 = .ok (.iload 6, 2) := by decide +kernel
theorem dX7_all_157 : decode cX7_all 157 = .ok (.ifCond .ne 10, 3) := by decide +kernel
theorem dX7_all_160 : decode cX7_all 160 = .ok (.aload_n 3, 1) := by decide +kernel
theorem dX7_all_161 : decode cX7_all 161 = .ok (.getfield 112, 3) := by decide +kernel
theorem dX7_all_164 : decode cX7_all 164 = .ok (.invokevirtual 159, 3) := by decide +kernel
theorem dX7_all_167 : decode cX7_all 167 = .ok (.iload 6, 2) := by decide +kernel
theorem dX7_all_169 : decode cX7_all 169 = .ok (.ireturn, 1) := by decide +kernel
theorem dX7_at_0 : decode cX7_at 0 = .ok (.aload_n 0, 1) := by decide +kernel
theorem dX7_at_1 : decode cX7_at 1 = .ok (.iload_n 1, 1) := by decide +kernel
theorem dX7_at_2 : decode cX7_at 2 = .ok (.invokevirtual 109, 3) := by decide +kernel
theorem dX7_at_5 : decode cX7_at 5 = .ok (.ifCond .eq 7, 3) := by decide +kernel
theorem dX7_at_8 : decode cX7_at 8 = .ok (.iload_n 2, 1) := by decide +kernel
theorem dX7_at_9 : decode cX7_at 9 = .ok (.ifCond .ge 5, 3) := by decide +kernel
theorem dX7_at_12 : decode cX7_at 12 = .ok (.iconst (-1), 1) := by decide +kernel
theorem dX7_at_13 : decode cX7_at 13 = .ok (.ireturn, 1) := by decide +kernel
theorem dX7_at_14 : decode cX7_at 14 = .ok (.aload_n 0, 1) := by decide +kernel
theorem dX7_at_15 : decode cX7_at 15 = .ok (.getfield 22, 3) := by decide +kernel
theorem dX7_at_18 : decode cX7_at 18 = .ok (.iload_n 1, 1) := by decide +kernel
theorem dX7_at_19 : decode cX7_at 19 = .ok (.aaload, 1) := by decide +kernel
theorem dX7_at_20 : decode cX7_at 20 = .ok (.getfield 112, 3) := by decide +kernel
theorem dX7_at_23 : decode cX7_at 23 = .ok (.iload_n 2, 1) := by decide +kernel
theorem dX7_at_24 : decode cX7_at 24 = .ok (.invokevirtual 139, 3) := by decide +kernel
theorem dX7_at_27 : decode cX7_at 27 = .ok (.ireturn, 1) := by decide +kernel
theorem dX7_whole_0 : decode cX7_whole 0 = .ok (.aload_n 0, 1) := by decide +kernel
theorem dX7_whole_1 : decode cX7_whole 1 = .ok (.iload_n 1, 1) := by decide +kernel
theorem dX7_whole_2 : decode cX7_whole 2 = .ok (.invokevirtual 109, 3) := by decide +kernel
theorem dX7_whole_5 : decode cX7_whole 5 = .ok (.ifCond .ne 5, 3) := by decide +kernel
theorem dX7_whole_8 : decode cX7_whole 8 = .ok (.iconst (-1), 1) := by decide +kernel
theorem dX7_whole_9 : decode cX7_whole 9 = .ok (.ireturn, 1) := by decide +kernel
theorem dX7_whole_10 : decode cX7_whole 10 = .ok (.aload_n 0, 1) := by decide +kernel
theorem dX7_whole_11 : decode cX7_whole 11 = .ok (.getfield 22, 3) := by decide +kernel
theorem dX7_whole_14 : decode cX7_whole 14 = .ok (.iload_n 1, 1) := by decide +kernel
theorem dX7_whole_15 : decode cX7_whole 15 = .ok (.aaload, 1) := by decide +kernel
theorem dX7_whole_16 : decode cX7_whole 16 = .ok (.astore_n 3, 1) := by decide +kernel
theorem dX7_whole_17 : decode cX7_whole 17 = .ok (.iload_n 2, 1) := by decide +kernel
theorem dX7_whole_18 : decode cX7_whole 18 = .ok (.tableswitch 62 0 3 #[30, 35, 43, 48], 30) := by decide +kernel
theorem dX7_whole_48 : decode cX7_whole 48 = .ok (.aload_n 3, 1) := by decide +kernel
theorem dX7_whole_49 : decode cX7_whole 49 = .ok (.getfield 142, 3) := by decide +kernel
theorem dX7_whole_52 : decode cX7_whole 52 = .ok (.ireturn, 1) := by decide +kernel
theorem dX7_whole_53 : decode cX7_whole 53 = .ok (.aload_n 3, 1) := by decide +kernel
theorem dX7_whole_54 : decode cX7_whole 54 = .ok (.getfield 112, 3) := by decide +kernel
theorem dX7_whole_57 : decode cX7_whole 57 = .ok (.getfield 115, 3) := by decide +kernel
theorem dX7_whole_60 : decode cX7_whole 60 = .ok (.ireturn, 1) := by decide +kernel
theorem dX7_whole_61 : decode cX7_whole 61 = .ok (.aload_n 3, 1) := by decide +kernel
theorem dX7_whole_62 : decode cX7_whole 62 = .ok (.getfield 145, 3) := by decide +kernel
theorem dX7_whole_65 : decode cX7_whole 65 = .ok (.ireturn, 1) := by decide +kernel
theorem dX7_whole_66 : decode cX7_whole 66 = .ok (.aload_n 0, 1) := by decide +kernel
theorem dX7_whole_67 : decode cX7_whole 67 = .ok (.aload_n 3, 1) := by decide +kernel
theorem dX7_whole_68 : decode cX7_whole 68 = .ok (.invokevirtual 172, 3) := by decide +kernel
theorem dX7_whole_71 : decode cX7_whole 71 = .ok (.ifCond .eq 7, 3) := by decide +kernel
theorem dX7_whole_74 : decode cX7_whole 74 = .ok (.iconst 1, 1) := by decide +kernel
theorem dX7_whole_75 : decode cX7_whole 75 = .ok (.goto 4, 3) := by decide +kernel
theorem dX7_whole_78 : decode cX7_whole 78 = .ok (.iconst 0, 1) := by decide +kernel
theorem dX7_whole_79 : decode cX7_whole 79 = .ok (.ireturn, 1) := by decide +kernel
theorem dX7_whole_80 : decode cX7_whole 80 = .ok (.iconst (-1), 1) := by decide +kernel
theorem dX7_whole_81 : decode cX7_whole 81 = .ok (.ireturn, 1) := by decide +kernel
theorem dX7_same_0 : decode cX7_same 0 = .ok (.aload_n 0, 1) := by decide +kernel
theorem dX7_same_1 : decode cX7_same 1 = .ok (.iload_n 1, 1) := by decide +kernel
theorem dX7_same_2 : decode cX7_same 2 = .ok (.invokevirtual 109, 3) := by decide +kernel
theorem dX7_same_5 : decode cX7_same 5 = .ok (.ifCond .eq 11, 3) := by decide +kernel
theorem dX7_same_8 : decode cX7_same 8 = .ok (.aload_n 0, 1) := by decide +kernel
theorem dX7_same_9 : decode cX7_same 9 = .ok (.iload_n 2, 1) := by decide +kernel
theorem dX7_same_10 : decode cX7_same 10 = .ok (.invokevirtual 109, 3) := by decide +kernel
theorem dX7_same_13 : decode cX7_same 13 = .ok (.ifCond .ne 5, 3) := by decide +kernel
theorem dX7_same_16 : decode cX7_same 16 = .ok (.iconst (-1), 1) := by decide +kernel
theorem dX7_same_17 : decode cX7_same 17 = .ok (.ireturn, 1) := by decide +kernel
theorem dX7_same_18 : decode cX7_same 18 = .ok (.aload_n 0, 1) := by decide +kernel
theorem dX7_same_19 : decode cX7_same 19 = .ok (.getfield 22, 3) := by decide +kernel
theorem dX7_same_22 : decode cX7_same 22 = .ok (.iload_n 1, 1) := by decide +kernel
theorem dX7_same_23 : decode cX7_same 23 = .ok (.aaload, 1) := by decide +kernel
theorem dX7_same_24 : decode cX7_same 24 = .ok (.getfield 112, 3) := by decide +kernel
theorem dX7_same_27 : decode cX7_same 27 = .ok (.aload_n 0, 1) := by decide +kernel
theorem dX7_same_28 : decode cX7_same 28 = .ok (.getfield 22, 3) := by decide +kernel
theorem dX7_same_31 : decode cX7_same 31 = .ok (.iload_n 2, 1) := by decide +kernel
theorem dX7_same_32 : decode cX7_same 32 = .ok (.aaload, 1) := by decide +kernel
theorem dX7_same_33 : decode cX7_same 33 = .ok (.getfield 112, 3) := by decide +kernel
theorem dX7_same_36 : decode cX7_same 36 = .ok (.invokevirtual 176, 3) := by decide +kernel
theorem dX7_same_39 : decode cX7_same 39 = .ok (.ifCond .eq 7, 3) := by decide +kernel
theorem dX7_same_42 : decode cX7_same 42 = .ok (.iconst 1, 1) := by decide +kernel
theorem dX7_same_43 : decode cX7_same 43 = .ok (.goto 4, 3) := by decide +kernel
theorem dX7_same_46 : decode cX7_same 46 = .ok (.iconst 0, 1) := by decide +kernel
theorem dX7_same_47 : decode cX7_same 47 = .ok (.ireturn, 1) := by decide +kernel
theorem dX7_thrown_0 : decode cX7_thrown 0 = .ok (.iload_n 1, 1) := by decide +kernel
theorem dX7_thrown_1 : decode cX7_thrown 1 = .ok (.tableswitch 75 0 3 #[31, 42, 53, 64], 31) := by decide +kernel
theorem dX7_thrown_32 : decode cX7_thrown 32 = .ok (.aload_n 0, 1) := by decide +kernel
theorem dX7_thrown_33 : decode cX7_thrown 33 = .ok (.getfield 16, 3) := by decide +kernel
theorem dX7_thrown_36 : decode cX7_thrown 36 = .ok (.getfield 180, 3) := by decide +kernel
theorem dX7_thrown_39 : decode cX7_thrown 39 = .ok (.getfield 184, 3) := by decide +kernel
theorem dX7_thrown_42 : decode cX7_thrown 42 = .ok (.ireturn, 1) := by decide +kernel
theorem dX7_thrown_43 : decode cX7_thrown 43 = .ok (.aload_n 0, 1) := by decide +kernel
theorem dX7_thrown_44 : decode cX7_thrown 44 = .ok (.getfield 16, 3) := by decide +kernel
theorem dX7_thrown_47 : decode cX7_thrown 47 = .ok (.getfield 180, 3) := by decide +kernel
theorem dX7_thrown_50 : decode cX7_thrown 50 = .ok (.getfield 189, 3) := by decide +kernel
theorem dX7_thrown_53 : decode cX7_thrown 53 = .ok (.ireturn, 1) := by decide +kernel
theorem dX7_thrown_54 : decode cX7_thrown 54 = .ok (.aload_n 0, 1) := by decide +kernel
theorem dX7_thrown_55 : decode cX7_thrown 55 = .ok (.getfield 16, 3) := by decide +kernel
theorem dX7_thrown_58 : decode cX7_thrown 58 = .ok (.getfield 180, 3) := by decide +kernel
theorem dX7_thrown_61 : decode cX7_thrown 61 = .ok (.getfield 190, 3) := by decide +kernel
theorem dX7_thrown_64 : decode cX7_thrown 64 = .ok (.ireturn, 1) := by decide +kernel
theorem dX7_thrown_65 : decode cX7_thrown 65 = .ok (.aload_n 0, 1) := by decide +kernel
theorem dX7_thrown_66 : decode cX7_thrown 66 = .ok (.getfield 16, 3) := by decide +kernel
theorem dX7_thrown_69 : decode cX7_thrown 69 = .ok (.getfield 180, 3) := by decide +kernel
theorem dX7_thrown_72 : decode cX7_thrown 72 = .ok (.getfield 193, 3) := by decide +kernel
theorem dX7_thrown_75 : decode cX7_thrown 75 = .ok (.ireturn, 1) := by decide +kernel
theorem dX7_thrown_76 : decode cX7_thrown 76 = .ok (.iconst (-1), 1) := by decide +kernel
theorem dX7_thrown_77 : decode cX7_thrown 77 = .ok (.ireturn, 1) := by decide +kernel
theorem dX7_count_0 : decode cX7_count 0 = .ok (.iload_n 1, 1) := by decide +kernel
theorem dX7_count_1 : decode cX7_count 1 = .ok (.tableswitch 96 0 5 #[39, 50, 58, 63, 74, 85], 39) := by decide +kernel
theorem dX7_count_40 : decode cX7_count 40 = .ok (.aload_n 0, 1) := by decide +kernel
theorem dX7_count_41 : decode cX7_count 41 = .ok (.getfield 16, 3) := by decide +kernel
theorem dX7_count_44 : decode cX7_count 44 = .ok (.getfield 41, 3) := by decide +kernel
theorem dX7_count_47 : decode cX7_count 47 = .ok (.getfield 165, 3) := by decide +kernel
theorem dX7_count_50 : decode cX7_count 50 = .ok (.ireturn, 1) := by decide +kernel
theorem dX7_count_51 : decode cX7_count 51 = .ok (.aload_n 0, 1) := by decide +kernel
theorem dX7_count_52 : decode cX7_count 52 = .ok (.getfield 16, 3) := by decide +kernel
theorem dX7_count_55 : decode cX7_count 55 = .ok (.getfield 196, 3) := by decide +kernel
theorem dX7_count_58 : decode cX7_count 58 = .ok (.ireturn, 1) := by decide +kernel
theorem dX7_count_59 : decode cX7_count 59 = .ok (.aload_n 0, 1) := by decide +kernel
theorem dX7_count_60 : decode cX7_count 60 = .ok (.getfield 7, 3) := by decide +kernel
theorem dX7_count_63 : decode cX7_count 63 = .ok (.ireturn, 1) := by decide +kernel
theorem dX7_count_64 : decode cX7_count 64 = .ok (.aload_n 0, 1) := by decide +kernel
theorem dX7_count_65 : decode cX7_count 65 = .ok (.getfield 16, 3) := by decide +kernel
theorem dX7_count_68 : decode cX7_count 68 = .ok (.getfield 70, 3) := by decide +kernel
theorem dX7_count_71 : decode cX7_count 71 = .ok (.getfield 199, 3) := by decide +kernel
theorem dX7_count_74 : decode cX7_count 74 = .ok (.ireturn, 1) := by decide +kernel
theorem dX7_count_75 : decode cX7_count 75 = .ok (.aload_n 0, 1) := by decide +kernel
theorem dX7_count_76 : decode cX7_count 76 = .ok (.getfield 16, 3) := by decide +kernel
theorem dX7_count_79 : decode cX7_count 79 = .ok (.getfield 180, 3) := by decide +kernel
theorem dX7_count_82 : decode cX7_count 82 = .ok (.getfield 200, 3) := by decide +kernel
theorem dX7_count_85 : decode cX7_count 85 = .ok (.ireturn, 1) := by decide +kernel
theorem dX7_count_86 : decode cX7_count 86 = .ok (.aload_n 0, 1) := by decide +kernel
theorem dX7_count_87 : decode cX7_count 87 = .ok (.getfield 16, 3) := by decide +kernel
theorem dX7_count_90 : decode cX7_count 90 = .ok (.getfield 180, 3) := by decide +kernel
theorem dX7_count_93 : decode cX7_count 93 = .ok (.getfield 203, 3) := by decide +kernel
theorem dX7_count_96 : decode cX7_count 96 = .ok (.ireturn, 1) := by decide +kernel
theorem dX7_count_97 : decode cX7_count 97 = .ok (.iconst (-1), 1) := by decide +kernel
theorem dX7_count_98 : decode cX7_count 98 = .ok (.ireturn, 1) := by decide +kernel
theorem dX7_isWithin_0 : decode cX7_isWithin 0 = .ok (.iload_n 0, 1) := by decide +kernel
theorem dX7_isWithin_1 : decode cX7_isWithin 1 = .ok (.iload_n 1, 1) := by decide +kernel
theorem dX7_isWithin_2 : decode cX7_isWithin 2 = .ok (.if_icmp .lt 12, 3) := by decide +kernel
theorem dX7_isWithin_5 : decode cX7_isWithin 5 = .ok (.iload_n 0, 1) := by decide +kernel
theorem dX7_isWithin_6 : decode cX7_isWithin 6 = .ok (.iload_n 2, 1) := by decide +kernel
theorem dX7_isWithin_7 : decode cX7_isWithin 7 = .ok (.if_icmp .gt 7, 3) := by decide +kernel
theorem dX7_isWithin_10 : decode cX7_isWithin 10 = .ok (.iconst 1, 1) := by decide +kernel
theorem dX7_isWithin_11 : decode cX7_isWithin 11 = .ok (.goto 4, 3) := by decide +kernel
theorem dX7_isWithin_14 : decode cX7_isWithin 14 = .ok (.iconst 0, 1) := by decide +kernel
theorem dX7_isWithin_15 : decode cX7_isWithin 15 = .ok (.ireturn, 1) := by decide +kernel
theorem dX7_plannedEffect_0 : decode cX7_plannedEffect 0 = .ok (.iload_n 0, 1) := by decide +kernel
theorem dX7_plannedEffect_1 : decode cX7_plannedEffect 1 = .ok (.lookupswitch 31 #[(0, 27), (1, 29)], 27) := by decide +kernel
theorem dX7_plannedEffect_28 : decode cX7_plannedEffect 28 = .ok (.iload_n 1, 1) := by decide +kernel
theorem dX7_plannedEffect_29 : decode cX7_plannedEffect 29 = .ok (.ireturn, 1) := by decide +kernel
theorem dX7_plannedEffect_30 : decode cX7_plannedEffect 30 = .ok (.iconst (-1), 1) := by decide +kernel
theorem dX7_plannedEffect_31 : decode cX7_plannedEffect 31 = .ok (.ireturn, 1) := by decide +kernel
theorem dX7_plannedEffect_32 : decode cX7_plannedEffect 32 = .ok (.bipush (-2), 2) := by decide +kernel
theorem dX7_plannedEffect_34 : decode cX7_plannedEffect 34 = .ok (.ireturn, 1) := by decide +kernel
theorem dX7_hasTray_0 : decode cX7_hasTray 0 = .ok (.iload_n 1, 1) := by decide +kernel
theorem dX7_hasTray_1 : decode cX7_hasTray 1 = .ok (.ifCond .lt 15, 3) := by decide +kernel
theorem dX7_hasTray_4 : decode cX7_hasTray 4 = .ok (.iload_n 1, 1) := by decide +kernel
theorem dX7_hasTray_5 : decode cX7_hasTray 5 = .ok (.aload_n 0, 1) := by decide +kernel
theorem dX7_hasTray_6 : decode cX7_hasTray 6 = .ok (.getfield 7, 3) := by decide +kernel
theorem dX7_hasTray_9 : decode cX7_hasTray 9 = .ok (.if_icmp .ge 7, 3) := by decide +kernel
theorem dX7_hasTray_12 : decode cX7_hasTray 12 = .ok (.iconst 1, 1) := by decide +kernel
theorem dX7_hasTray_13 : decode cX7_hasTray 13 = .ok (.goto 4, 3) := by decide +kernel
theorem dX7_hasTray_16 : decode cX7_hasTray 16 = .ok (.iconst 0, 1) := by decide +kernel
theorem dX7_hasTray_17 : decode cX7_hasTray 17 = .ok (.ireturn, 1) := by decide +kernel
theorem dX7_keepDraft_0 : decode cX7_keepDraft 0 = .ok (.iload_n 2, 1) := by decide +kernel
theorem dX7_keepDraft_1 : decode cX7_keepDraft 1 = .ok (.ifCond .ne 5, 3) := by decide +kernel
theorem dX7_keepDraft_4 : decode cX7_keepDraft 4 = .ok (.iconst 1, 1) := by decide +kernel
theorem dX7_keepDraft_5 : decode cX7_keepDraft 5 = .ok (.ireturn, 1) := by decide +kernel
theorem dX7_keepDraft_6 : decode cX7_keepDraft 6 = .ok (.aload_n 1, 1) := by decide +kernel
theorem dX7_keepDraft_7 : decode cX7_keepDraft 7 = .ok (.getfield 112, 3) := by decide +kernel
theorem dX7_keepDraft_10 : decode cX7_keepDraft 10 = .ok (.aload_n 0, 1) := by decide +kernel
theorem dX7_keepDraft_11 : decode cX7_keepDraft 11 = .ok (.getfield 30, 3) := by decide +kernel
theorem dX7_keepDraft_14 : decode cX7_keepDraft 14 = .ok (.invokevirtual 121, 3) := by decide +kernel
theorem dX7_keepDraft_17 : decode cX7_keepDraft 17 = .ok (.iconst 0, 1) := by decide +kernel
theorem dX7_keepDraft_18 : decode cX7_keepDraft 18 = .ok (.ireturn, 1) := by decide +kernel
theorem dX7_placeOnDraft_0 : decode cX7_placeOnDraft 0 = .ok (.aload_n 1, 1) := by decide +kernel
theorem dX7_placeOnDraft_1 : decode cX7_placeOnDraft 1 = .ok (.getfield 142, 3) := by decide +kernel
theorem dX7_placeOnDraft_4 : decode cX7_placeOnDraft 4 = .ok (.iconst 1, 1) := by decide +kernel
theorem dX7_placeOnDraft_5 : decode cX7_placeOnDraft 5 = .ok (.if_icmp .ne 39, 3) := by decide +kernel
theorem dX7_placeOnDraft_8 : decode cX7_placeOnDraft 8 = .ok (.aload_n 0, 1) := by decide +kernel
theorem dX7_placeOnDraft_9 : decode cX7_placeOnDraft 9 = .ok (.getfield 30, 3) := by decide +kernel
theorem dX7_placeOnDraft_12 : decode cX7_placeOnDraft 12 = .ok (.iload_n 2, 1) := by decide +kernel
theorem dX7_placeOnDraft_13 : decode cX7_placeOnDraft 13 = .ok (.aload_n 0, 1) := by decide +kernel
theorem dX7_placeOnDraft_14 : decode cX7_placeOnDraft 14 = .ok (.getfield 16, 3) := by decide +kernel
theorem dX7_placeOnDraft_17 : decode cX7_placeOnDraft 17 = .ok (.aload_n 1, 1) := by decide +kernel
theorem dX7_placeOnDraft_18 : decode cX7_placeOnDraft 18 = .ok (.getfield 145, 3) := by decide +kernel
theorem dX7_placeOnDraft_21 : decode cX7_placeOnDraft 21 = .ok (.invokevirtual 148, 3) := by decide +kernel
theorem dX7_placeOnDraft_24 : decode cX7_placeOnDraft 24 = .ok (.istore_n 3, 1) := by decide +kernel
theorem dX7_placeOnDraft_25 : decode cX7_placeOnDraft 25 = .ok (.iload_n 3, 1) := by decide +kernel
theorem dX7_placeOnDraft_26 : decode cX7_placeOnDraft 26 = .ok (.bipush (-11), 2) := by decide +kernel
theorem dX7_placeOnDraft_28 : decode cX7_placeOnDraft 28 = .ok (.if_icmp .ne 5, 3) := by decide +kernel
theorem dX7_placeOnDraft_31 : decode cX7_placeOnDraft 31 = .ok (.iconst 0, 1) := by decide +kernel
theorem dX7_placeOnDraft_32 : decode cX7_placeOnDraft 32 = .ok (.ireturn, 1) := by decide +kernel
theorem dX7_placeOnDraft_33 : decode cX7_placeOnDraft 33 = .ok (.aload_n 0, 1) := by decide +kernel
theorem dX7_placeOnDraft_34 : decode cX7_placeOnDraft 34 = .ok (.getfield 30, 3) := by decide +kernel
theorem dX7_placeOnDraft_37 : decode cX7_placeOnDraft 37 = .ok (.iload_n 3, 1) := by decide +kernel
theorem dX7_placeOnDraft_38 : decode cX7_placeOnDraft 38 = .ok (.iload_n 2, 1) := by decide +kernel
theorem dX7_placeOnDraft_39 : decode cX7_placeOnDraft 39 = .ok (.invokevirtual 206, 3) := by decide +kernel
theorem dX7_placeOnDraft_42 : decode cX7_placeOnDraft 42 = .ok (.iconst 1, 1) := by decide +kernel
theorem dX7_placeOnDraft_43 : decode cX7_placeOnDraft 43 = .ok (.ireturn, 1) := by decide +kernel
theorem dX7_placeOnDraft_44 : decode cX7_placeOnDraft 44 = .ok (.aload_n 0, 1) := by decide +kernel
theorem dX7_placeOnDraft_45 : decode cX7_placeOnDraft 45 = .ok (.getfield 30, 3) := by decide +kernel
theorem dX7_placeOnDraft_48 : decode cX7_placeOnDraft 48 = .ok (.iload_n 2, 1) := by decide +kernel
theorem dX7_placeOnDraft_49 : decode cX7_placeOnDraft 49 = .ok (.invokevirtual 209, 3) := by decide +kernel
theorem dX7_placeOnDraft_52 : decode cX7_placeOnDraft 52 = .ok (.aload_n 1, 1) := by decide +kernel
theorem dX7_placeOnDraft_53 : decode cX7_placeOnDraft 53 = .ok (.getfield 142, 3) := by decide +kernel
theorem dX7_placeOnDraft_56 : decode cX7_placeOnDraft 56 = .ok (.iconst 2, 1) := by decide +kernel
theorem dX7_placeOnDraft_57 : decode cX7_placeOnDraft 57 = .ok (.if_icmp .ne 32, 3) := by decide +kernel
theorem dX7_placeOnDraft_60 : decode cX7_placeOnDraft 60 = .ok (.aload_n 0, 1) := by decide +kernel
theorem dX7_placeOnDraft_61 : decode cX7_placeOnDraft 61 = .ok (.getfield 30, 3) := by decide +kernel
theorem dX7_placeOnDraft_64 : decode cX7_placeOnDraft 64 = .ok (.aload_n 0, 1) := by decide +kernel
theorem dX7_placeOnDraft_65 : decode cX7_placeOnDraft 65 = .ok (.getfield 30, 3) := by decide +kernel
theorem dX7_placeOnDraft_68 : decode cX7_placeOnDraft 68 = .ok (.getfield 115, 3) := by decide +kernel
theorem dX7_placeOnDraft_71 : decode cX7_placeOnDraft 71 = .ok (.iconst 1, 1) := by decide +kernel
theorem dX7_placeOnDraft_72 : decode cX7_placeOnDraft 72 = .ok (.isub, 1) := by decide +kernel
theorem dX7_placeOnDraft_73 : decode cX7_placeOnDraft 73 = .ok (.aload_n 0, 1) := by decide +kernel
theorem dX7_placeOnDraft_74 : decode cX7_placeOnDraft 74 = .ok (.getfield 16, 3) := by decide +kernel
theorem dX7_placeOnDraft_77 : decode cX7_placeOnDraft 77 = .ok (.aload_n 1, 1) := by decide +kernel
theorem dX7_placeOnDraft_78 : decode cX7_placeOnDraft 78 = .ok (.getfield 145, 3) := by decide +kernel
theorem dX7_placeOnDraft_81 : decode cX7_placeOnDraft 81 = .ok (.invokevirtual 213, 3) := by decide +kernel
theorem dX7_placeOnDraft_84 : decode cX7_placeOnDraft 84 = .ok (.bipush (-11), 2) := by decide +kernel
theorem dX7_placeOnDraft_86 : decode cX7_placeOnDraft 86 = .ok (.if_icmp .eq 7, 3) := by decide +kernel
theorem dX7_placeOnDraft_89 : decode cX7_placeOnDraft 89 = .ok (.iconst 1, 1) := by decide +kernel
theorem dX7_placeOnDraft_90 : decode cX7_placeOnDraft 90 = .ok (.goto 4, 3) := by decide +kernel
theorem dX7_placeOnDraft_93 : decode cX7_placeOnDraft 93 = .ok (.iconst 0, 1) := by decide +kernel
theorem dX7_placeOnDraft_94 : decode cX7_placeOnDraft 94 = .ok (.ireturn, 1) := by decide +kernel
theorem dX7_removeOnDraft_0 : decode cX7_removeOnDraft 0 = .ok (.aload_n 0, 1) := by decide +kernel
theorem dX7_removeOnDraft_1 : decode cX7_removeOnDraft 1 = .ok (.getfield 30, 3) := by decide +kernel
theorem dX7_removeOnDraft_4 : decode cX7_removeOnDraft 4 = .ok (.aload_n 1, 1) := by decide +kernel
theorem dX7_removeOnDraft_5 : decode cX7_removeOnDraft 5 = .ok (.getfield 112, 3) := by decide +kernel
theorem dX7_removeOnDraft_8 : decode cX7_removeOnDraft 8 = .ok (.invokevirtual 121, 3) := by decide +kernel
theorem dX7_removeOnDraft_11 : decode cX7_removeOnDraft 11 = .ok (.aload_n 1, 1) := by decide +kernel
theorem dX7_removeOnDraft_12 : decode cX7_removeOnDraft 12 = .ok (.getfield 142, 3) := by decide +kernel
theorem dX7_removeOnDraft_15 : decode cX7_removeOnDraft 15 = .ok (.iconst 2, 1) := by decide +kernel
theorem dX7_removeOnDraft_16 : decode cX7_removeOnDraft 16 = .ok (.if_icmp .eq 13, 3) := by decide +kernel
theorem dX7_removeOnDraft_19 : decode cX7_removeOnDraft 19 = .ok (.aload_n 0, 1) := by decide +kernel
theorem dX7_removeOnDraft_20 : decode cX7_removeOnDraft 20 = .ok (.getfield 30, 3) := by decide +kernel
theorem dX7_removeOnDraft_23 : decode cX7_removeOnDraft 23 = .ok (.iload_n 2, 1) := by decide +kernel
theorem dX7_removeOnDraft_24 : decode cX7_removeOnDraft 24 = .ok (.invokevirtual 216, 3) := by decide +kernel
theorem dX7_removeOnDraft_27 : decode cX7_removeOnDraft 27 = .ok (.iconst 1, 1) := by decide +kernel
theorem dX7_removeOnDraft_28 : decode cX7_removeOnDraft 28 = .ok (.ireturn, 1) := by decide +kernel
theorem dX7_removeOnDraft_29 : decode cX7_removeOnDraft 29 = .ok (.aload_n 0, 1) := by decide +kernel
theorem dX7_removeOnDraft_30 : decode cX7_removeOnDraft 30 = .ok (.getfield 30, 3) := by decide +kernel
theorem dX7_removeOnDraft_33 : decode cX7_removeOnDraft 33 = .ok (.getfield 115, 3) := by decide +kernel
theorem dX7_removeOnDraft_36 : decode cX7_removeOnDraft 36 = .ok (.iconst 1, 1) := by decide +kernel
theorem dX7_removeOnDraft_37 : decode cX7_removeOnDraft 37 = .ok (.isub, 1) := by decide +kernel
theorem dX7_removeOnDraft_38 : decode cX7_removeOnDraft 38 = .ok (.istore_n 3, 1) := by decide +kernel
theorem dX7_removeOnDraft_39 : decode cX7_removeOnDraft 39 = .ok (.aload_n 0, 1) := by decide +kernel
theorem dX7_removeOnDraft_40 : decode cX7_removeOnDraft 40 = .ok (.getfield 30, 3) := by decide +kernel
theorem dX7_removeOnDraft_43 : decode cX7_removeOnDraft 43 = .ok (.iload_n 2, 1) := by decide +kernel
theorem dX7_removeOnDraft_44 : decode cX7_removeOnDraft 44 = .ok (.iload_n 3, 1) := by decide +kernel
theorem dX7_removeOnDraft_45 : decode cX7_removeOnDraft 45 = .ok (.invokevirtual 219, 3) := by decide +kernel
theorem dX7_removeOnDraft_48 : decode cX7_removeOnDraft 48 = .ok (.aload_n 0, 1) := by decide +kernel
theorem dX7_removeOnDraft_49 : decode cX7_removeOnDraft 49 = .ok (.getfield 30, 3) := by decide +kernel
theorem dX7_removeOnDraft_52 : decode cX7_removeOnDraft 52 = .ok (.iload_n 3, 1) := by decide +kernel
theorem dX7_removeOnDraft_53 : decode cX7_removeOnDraft 53 = .ok (.invokevirtual 216, 3) := by decide +kernel
theorem dX7_removeOnDraft_56 : decode cX7_removeOnDraft 56 = .ok (.iload_n 2, 1) := by decide +kernel
theorem dX7_removeOnDraft_57 : decode cX7_removeOnDraft 57 = .ok (.iload_n 3, 1) := by decide +kernel
theorem dX7_removeOnDraft_58 : decode cX7_removeOnDraft 58 = .ok (.if_icmp .ne 5, 3) := by decide +kernel
theorem dX7_removeOnDraft_61 : decode cX7_removeOnDraft 61 = .ok (.iconst 1, 1) := by decide +kernel
theorem dX7_removeOnDraft_62 : decode cX7_removeOnDraft 62 = .ok (.ireturn, 1) := by decide +kernel
theorem dX7_removeOnDraft_63 : decode cX7_removeOnDraft 63 = .ok (.aload_n 0, 1) := by decide +kernel
theorem dX7_removeOnDraft_64 : decode cX7_removeOnDraft 64 = .ok (.getfield 30, 3) := by decide +kernel
theorem dX7_removeOnDraft_67 : decode cX7_removeOnDraft 67 = .ok (.iload_n 2, 1) := by decide +kernel
theorem dX7_removeOnDraft_68 : decode cX7_removeOnDraft 68 = .ok (.aload_n 0, 1) := by decide +kernel
theorem dX7_removeOnDraft_69 : decode cX7_removeOnDraft 69 = .ok (.getfield 16, 3) := by decide +kernel
theorem dX7_removeOnDraft_72 : decode cX7_removeOnDraft 72 = .ok (.aload_n 1, 1) := by decide +kernel
theorem dX7_removeOnDraft_73 : decode cX7_removeOnDraft 73 = .ok (.getfield 145, 3) := by decide +kernel
theorem dX7_removeOnDraft_76 : decode cX7_removeOnDraft 76 = .ok (.invokevirtual 213, 3) := by decide +kernel
theorem dX7_removeOnDraft_79 : decode cX7_removeOnDraft 79 = .ok (.istore 4, 2) := by decide +kernel
theorem dX7_removeOnDraft_81 : decode cX7_removeOnDraft 81 = .ok (.iload 4, 2) := by decide +kernel
theorem dX7_removeOnDraft_83 : decode cX7_removeOnDraft 83 = .ok (.iload_n 2, 1) := by decide +kernel
theorem dX7_removeOnDraft_84 : decode cX7_removeOnDraft 84 = .ok (.if_icmp .ne 21, 3) := by decide +kernel
theorem dX7_removeOnDraft_87 : decode cX7_removeOnDraft 87 = .ok (.aload_n 0, 1) := by decide +kernel
theorem dX7_removeOnDraft_88 : decode cX7_removeOnDraft 88 = .ok (.getfield 30, 3) := by decide +kernel
theorem dX7_removeOnDraft_91 : decode cX7_removeOnDraft 91 = .ok (.iload_n 2, 1) := by decide +kernel
theorem dX7_removeOnDraft_92 : decode cX7_removeOnDraft 92 = .ok (.aload_n 0, 1) := by decide +kernel
theorem dX7_removeOnDraft_93 : decode cX7_removeOnDraft 93 = .ok (.getfield 16, 3) := by decide +kernel
theorem dX7_removeOnDraft_96 : decode cX7_removeOnDraft 96 = .ok (.aload_n 1, 1) := by decide +kernel
theorem dX7_removeOnDraft_97 : decode cX7_removeOnDraft 97 = .ok (.getfield 145, 3) := by decide +kernel
theorem dX7_removeOnDraft_100 : decode cX7_removeOnDraft 100 = .ok (.invokevirtual 222, 3) := by decide +kernel
theorem dX7_removeOnDraft_103 : decode cX7_removeOnDraft 103 = .ok (.istore 4, 2) := by decide +kernel
theorem dX7_removeOnDraft_105 : decode cX7_removeOnDraft 105 = .ok (.iload 4, 2) := by decide +kernel
theorem dX7_removeOnDraft_107 : decode cX7_removeOnDraft 107 = .ok (.bipush (-11), 2) := by decide +kernel
theorem dX7_removeOnDraft_109 : decode cX7_removeOnDraft 109 = .ok (.if_icmp .eq 7, 3) := by decide +kernel
theorem dX7_removeOnDraft_112 : decode cX7_removeOnDraft 112 = .ok (.iconst 1, 1) := by decide +kernel
theorem dX7_removeOnDraft_113 : decode cX7_removeOnDraft 113 = .ok (.goto 4, 3) := by decide +kernel
theorem dX7_removeOnDraft_116 : decode cX7_removeOnDraft 116 = .ok (.iconst 0, 1) := by decide +kernel
theorem dX7_removeOnDraft_117 : decode cX7_removeOnDraft 117 = .ok (.ireturn, 1) := by decide +kernel
theorem dX7_sortDraftAnew_0 : decode cX7_sortDraftAnew 0 = .ok (.aload_n 0, 1) := by decide +kernel
theorem dX7_sortDraftAnew_1 : decode cX7_sortDraftAnew 1 = .ok (.getfield 30, 3) := by decide +kernel
theorem dX7_sortDraftAnew_4 : decode cX7_sortDraftAnew 4 = .ok (.getfield 115, 3) := by decide +kernel
theorem dX7_sortDraftAnew_7 : decode cX7_sortDraftAnew 7 = .ok (.istore_n 2, 1) := by decide +kernel
theorem dX7_sortDraftAnew_8 : decode cX7_sortDraftAnew 8 = .ok (.iconst 1, 1) := by decide +kernel
theorem dX7_sortDraftAnew_9 : decode cX7_sortDraftAnew 9 = .ok (.istore_n 3, 1) := by decide +kernel
theorem dX7_sortDraftAnew_10 : decode cX7_sortDraftAnew 10 = .ok (.iload_n 3, 1) := by decide +kernel
theorem dX7_sortDraftAnew_11 : decode cX7_sortDraftAnew 11 = .ok (.iload_n 2, 1) := by decide +kernel
theorem dX7_sortDraftAnew_12 : decode cX7_sortDraftAnew 12 = .ok (.if_icmp .ge 97, 3) := by decide +kernel
theorem dX7_sortDraftAnew_15 : decode cX7_sortDraftAnew 15 = .ok (.aload_n 0, 1) := by decide +kernel
theorem dX7_sortDraftAnew_16 : decode cX7_sortDraftAnew 16 = .ok (.getfield 34, 3) := by decide +kernel
theorem dX7_sortDraftAnew_19 : decode cX7_sortDraftAnew 19 = .ok (.aload_n 0, 1) := by decide +kernel
theorem dX7_sortDraftAnew_20 : decode cX7_sortDraftAnew 20 = .ok (.getfield 30, 3) := by decide +kernel
theorem dX7_sortDraftAnew_23 : decode cX7_sortDraftAnew 23 = .ok (.invokevirtual 121, 3) := by decide +kernel
theorem dX7_sortDraftAnew_26 : decode cX7_sortDraftAnew 26 = .ok (.aload_n 0, 1) := by decide +kernel
theorem dX7_sortDraftAnew_27 : decode cX7_sortDraftAnew 27 = .ok (.getfield 30, 3) := by decide +kernel
theorem dX7_sortDraftAnew_30 : decode cX7_sortDraftAnew 30 = .ok (.invokevirtual 159, 3) := by decide +kernel
theorem dX7_sortDraftAnew_33 : decode cX7_sortDraftAnew 33 = .ok (.iconst 0, 1) := by decide +kernel
theorem dX7_sortDraftAnew_34 : decode cX7_sortDraftAnew 34 = .ok (.istore 4, 2) := by decide +kernel
theorem dX7_sortDraftAnew_36 : decode cX7_sortDraftAnew 36 = .ok (.iload 4, 2) := by decide +kernel
theorem dX7_sortDraftAnew_38 : decode cX7_sortDraftAnew 38 = .ok (.iload_n 2, 1) := by decide +kernel
theorem dX7_sortDraftAnew_39 : decode cX7_sortDraftAnew 39 = .ok (.if_icmp .ge 63, 3) := by decide +kernel
theorem dX7_sortDraftAnew_42 : decode cX7_sortDraftAnew 42 = .ok (.iload 4, 2) := by decide +kernel
theorem dX7_sortDraftAnew_44 : decode cX7_sortDraftAnew 44 = .ok (.iload_n 3, 1) := by decide +kernel
theorem dX7_sortDraftAnew_45 : decode cX7_sortDraftAnew 45 = .ok (.iadd, 1) := by decide +kernel
theorem dX7_sortDraftAnew_46 : decode cX7_sortDraftAnew 46 = .ok (.iload_n 2, 1) := by decide +kernel
theorem dX7_sortDraftAnew_47 : decode cX7_sortDraftAnew 47 = .ok (.invokestatic 225, 3) := by decide +kernel
theorem dX7_sortDraftAnew_50 : decode cX7_sortDraftAnew 50 = .ok (.istore 5, 2) := by decide +kernel
theorem dX7_sortDraftAnew_52 : decode cX7_sortDraftAnew 52 = .ok (.iload 4, 2) := by decide +kernel
theorem dX7_sortDraftAnew_54 : decode cX7_sortDraftAnew 54 = .ok (.iconst 2, 1) := by decide +kernel
theorem dX7_sortDraftAnew_55 : decode cX7_sortDraftAnew 55 = .ok (.iload_n 3, 1) := by decide +kernel
theorem dX7_sortDraftAnew_56 : decode cX7_sortDraftAnew 56 = .ok (.imul, 1) := by decide +kernel
theorem dX7_sortDraftAnew_57 : decode cX7_sortDraftAnew 57 = .ok (.iadd, 1) := by decide +kernel
theorem dX7_sortDraftAnew_58 : decode cX7_sortDraftAnew 58 = .ok (.iload_n 2, 1) := by decide +kernel
theorem dX7_sortDraftAnew_59 : decode cX7_sortDraftAnew 59 = .ok (.invokestatic 225, 3) := by decide +kernel
theorem dX7_sortDraftAnew_62 : decode cX7_sortDraftAnew 62 = .ok (.istore 6, 2) := by decide +kernel
theorem dX7_sortDraftAnew_64 : decode cX7_sortDraftAnew 64 = .ok (.aload_n 0, 1) := by decide +kernel
theorem dX7_sortDraftAnew_65 : decode cX7_sortDraftAnew 65 = .ok (.getfield 30, 3) := by decide +kernel
theorem dX7_sortDraftAnew_68 : decode cX7_sortDraftAnew 68 = .ok (.aload_n 0, 1) := by decide +kernel
theorem dX7_sortDraftAnew_69 : decode cX7_sortDraftAnew 69 = .ok (.getfield 34, 3) := by decide +kernel
theorem dX7_sortDraftAnew_72 : decode cX7_sortDraftAnew 72 = .ok (.iload 4, 2) := by decide +kernel
theorem dX7_sortDraftAnew_74 : decode cX7_sortDraftAnew 74 = .ok (.iload 5, 2) := by decide +kernel
theorem dX7_sortDraftAnew_76 : decode cX7_sortDraftAnew 76 = .ok (.iload 6, 2) := by decide +kernel
theorem dX7_sortDraftAnew_78 : decode cX7_sortDraftAnew 78 = .ok (.aload_n 0, 1) := by decide +kernel
theorem dX7_sortDraftAnew_79 : decode cX7_sortDraftAnew 79 = .ok (.getfield 16, 3) := by decide +kernel
theorem dX7_sortDraftAnew_82 : decode cX7_sortDraftAnew 82 = .ok (.iload_n 1, 1) := by decide +kernel
theorem dX7_sortDraftAnew_83 : decode cX7_sortDraftAnew 83 = .ok (.invokevirtual 230, 3) := by decide +kernel
theorem dX7_sortDraftAnew_86 : decode cX7_sortDraftAnew 86 = .ok (.ifCond .ne 5, 3) := by decide +kernel
theorem dX7_sortDraftAnew_89 : decode cX7_sortDraftAnew 89 = .ok (.iconst 0, 1) := by decide +kernel
theorem dX7_sortDraftAnew_90 : decode cX7_sortDraftAnew 90 = .ok (.ireturn, 1) := by decide +kernel
theorem dX7_sortDraftAnew_91 : decode cX7_sortDraftAnew 91 = .ok (.iload 4, 2) := by decide +kernel
theorem dX7_sortDraftAnew_93 : decode cX7_sortDraftAnew 93 = .ok (.iconst 2, 1) := by decide +kernel
theorem dX7_sortDraftAnew_94 : decode cX7_sortDraftAnew 94 = .ok (.iload_n 3, 1) := by decide +kernel
theorem dX7_sortDraftAnew_95 : decode cX7_sortDraftAnew 95 = .ok (.imul, 1) := by decide +kernel
theorem dX7_sortDraftAnew_96 : decode cX7_sortDraftAnew 96 = .ok (.iadd, 1) := by decide +kernel
theorem dX7_sortDraftAnew_97 : decode cX7_sortDraftAnew 97 = .ok (.istore 4, 2) := by decide +kernel
theorem dX7_sortDraftAnew_99 : decode cX7_sortDraftAnew 99 = .ok (.goto (-63), 3) := by decide +kernel
theorem dX7_sortDraftAnew_102 : decode cX7_sortDraftAnew 102 = .ok (.iload_n 3, 1) := by decide +kernel
theorem dX7_sortDraftAnew_103 : decode cX7_sortDraftAnew 103 = .ok (.iconst 2, 1) := by decide +kernel
theorem dX7_sortDraftAnew_104 : decode cX7_sortDraftAnew 104 = .ok (.imul, 1) := by decide +kernel
theorem dX7_sortDraftAnew_105 : decode cX7_sortDraftAnew 105 = .ok (.istore_n 3, 1) := by decide +kernel
theorem dX7_sortDraftAnew_106 : decode cX7_sortDraftAnew 106 = .ok (.goto (-96), 3) := by decide +kernel
theorem dX7_sortDraftAnew_109 : decode cX7_sortDraftAnew 109 = .ok (.iconst 1, 1) := by decide +kernel
theorem dX7_sortDraftAnew_110 : decode cX7_sortDraftAnew 110 = .ok (.ireturn, 1) := by decide +kernel
theorem dX7_judgeOntoDraft_0 : decode cX7_judgeOntoDraft 0 = .ok (.aload_n 0, 1) := by decide +kernel
theorem dX7_judgeOntoDraft_1 : decode cX7_judgeOntoDraft 1 = .ok (.getfield 30, 3) := by decide +kernel
theorem dX7_judgeOntoDraft_4 : decode cX7_judgeOntoDraft 4 = .ok (.invokevirtual 159, 3) := by decide +kernel
theorem dX7_judgeOntoDraft_7 : decode cX7_judgeOntoDraft 7 = .ok (.iconst 0, 1) := by decide +kernel
theorem dX7_judgeOntoDraft_8 : decode cX7_judgeOntoDraft 8 = .ok (.istore_n 3, 1) := by decide +kernel
theorem dX7_judgeOntoDraft_9 : decode cX7_judgeOntoDraft 9 = .ok (.iload_n 3, 1) := by decide +kernel
theorem dX7_judgeOntoDraft_10 : decode cX7_judgeOntoDraft 10 = .ok (.aload_n 1, 1) := by decide +kernel
theorem dX7_judgeOntoDraft_11 : decode cX7_judgeOntoDraft 11 = .ok (.getfield 115, 3) := by decide +kernel
theorem dX7_judgeOntoDraft_14 : decode cX7_judgeOntoDraft 14 = .ok (.if_icmp .ge 80, 3) := by decide +kernel
theorem dX7_judgeOntoDraft_17 : decode cX7_judgeOntoDraft 17 = .ok (.aload_n 0, 1) := by decide +kernel
theorem dX7_judgeOntoDraft_18 : decode cX7_judgeOntoDraft 18 = .ok (.getfield 16, 3) := by decide +kernel
theorem dX7_judgeOntoDraft_21 : decode cX7_judgeOntoDraft 21 = .ok (.iload_n 2, 1) := by decide +kernel
theorem dX7_judgeOntoDraft_22 : decode cX7_judgeOntoDraft 22 = .ok (.aload_n 1, 1) := by decide +kernel
theorem dX7_judgeOntoDraft_23 : decode cX7_judgeOntoDraft 23 = .ok (.iload_n 3, 1) := by decide +kernel
theorem dX7_judgeOntoDraft_24 : decode cX7_judgeOntoDraft 24 = .ok (.invokevirtual 139, 3) := by decide +kernel
theorem dX7_judgeOntoDraft_27 : decode cX7_judgeOntoDraft 27 = .ok (.invokevirtual 234, 3) := by decide +kernel
theorem dX7_judgeOntoDraft_30 : decode cX7_judgeOntoDraft 30 = .ok (.istore 4, 2) := by decide +kernel
theorem dX7_judgeOntoDraft_32 : decode cX7_judgeOntoDraft 32 = .ok (.iload 4, 2) := by decide +kernel
theorem dX7_judgeOntoDraft_34 : decode cX7_judgeOntoDraft 34 = .ok (.bipush (-11), 2) := by decide +kernel
theorem dX7_judgeOntoDraft_36 : decode cX7_judgeOntoDraft 36 = .ok (.if_icmp .ne 18, 3) := by decide +kernel
theorem dX7_judgeOntoDraft_39 : decode cX7_judgeOntoDraft 39 = .ok (.aload_n 0, 1) := by decide +kernel
theorem dX7_judgeOntoDraft_40 : decode cX7_judgeOntoDraft 40 = .ok (.getfield 30, 3) := by decide +kernel
theorem dX7_judgeOntoDraft_43 : decode cX7_judgeOntoDraft 43 = .ok (.aload_n 1, 1) := by decide +kernel
theorem dX7_judgeOntoDraft_44 : decode cX7_judgeOntoDraft 44 = .ok (.iload_n 3, 1) := by decide +kernel
theorem dX7_judgeOntoDraft_45 : decode cX7_judgeOntoDraft 45 = .ok (.aload_n 1, 1) := by decide +kernel
theorem dX7_judgeOntoDraft_46 : decode cX7_judgeOntoDraft 46 = .ok (.getfield 115, 3) := by decide +kernel
theorem dX7_judgeOntoDraft_49 : decode cX7_judgeOntoDraft 49 = .ok (.invokevirtual 237, 3) := by decide +kernel
theorem dX7_judgeOntoDraft_52 : decode cX7_judgeOntoDraft 52 = .ok (.iconst 0, 1) := by decide +kernel
theorem dX7_judgeOntoDraft_53 : decode cX7_judgeOntoDraft 53 = .ok (.ireturn, 1) := by decide +kernel
theorem dX7_judgeOntoDraft_54 : decode cX7_judgeOntoDraft 54 = .ok (.aload_n 0, 1) := by decide +kernel
theorem dX7_judgeOntoDraft_55 : decode cX7_judgeOntoDraft 55 = .ok (.getfield 16, 3) := by decide +kernel
theorem dX7_judgeOntoDraft_58 : decode cX7_judgeOntoDraft 58 = .ok (.getfield 180, 3) := by decide +kernel
theorem dX7_judgeOntoDraft_61 : decode cX7_judgeOntoDraft 61 = .ok (.dup, 1) := by decide +kernel
theorem dX7_judgeOntoDraft_62 : decode cX7_judgeOntoDraft 62 = .ok (.getfield 193, 3) := by decide +kernel
theorem dX7_judgeOntoDraft_65 : decode cX7_judgeOntoDraft 65 = .ok (.iconst 1, 1) := by decide +kernel
theorem dX7_judgeOntoDraft_66 : decode cX7_judgeOntoDraft 66 = .ok (.iadd, 1) := by decide +kernel
theorem dX7_judgeOntoDraft_67 : decode cX7_judgeOntoDraft 67 = .ok (.putfield 193, 3) := by decide +kernel
theorem dX7_judgeOntoDraft_70 : decode cX7_judgeOntoDraft 70 = .ok (.iload 4, 2) := by decide +kernel
theorem dX7_judgeOntoDraft_72 : decode cX7_judgeOntoDraft 72 = .ok (.iconst 1, 1) := by decide +kernel
theorem dX7_judgeOntoDraft_73 : decode cX7_judgeOntoDraft 73 = .ok (.if_icmp .ne 15, 3) := by decide +kernel
theorem dX7_judgeOntoDraft_76 : decode cX7_judgeOntoDraft 76 = .ok (.aload_n 0, 1) := by decide +kernel
theorem dX7_judgeOntoDraft_77 : decode cX7_judgeOntoDraft 77 = .ok (.getfield 30, 3) := by decide +kernel
theorem dX7_judgeOntoDraft_80 : decode cX7_judgeOntoDraft 80 = .ok (.aload_n 1, 1) := by decide +kernel
theorem dX7_judgeOntoDraft_81 : decode cX7_judgeOntoDraft 81 = .ok (.iload_n 3, 1) := by decide +kernel
theorem dX7_judgeOntoDraft_82 : decode cX7_judgeOntoDraft 82 = .ok (.invokevirtual 139, 3) := by decide +kernel
theorem dX7_judgeOntoDraft_85 : decode cX7_judgeOntoDraft 85 = .ok (.invokevirtual 209, 3) := by decide +kernel
theorem dX7_judgeOntoDraft_88 : decode cX7_judgeOntoDraft 88 = .ok (.iinc 3 1, 3) := by decide +kernel
theorem dX7_judgeOntoDraft_91 : decode cX7_judgeOntoDraft 91 = .ok (.goto (-82), 3) := by decide +kernel
theorem dX7_judgeOntoDraft_94 : decode cX7_judgeOntoDraft 94 = .ok (.iconst 1, 1) := by decide +kernel
theorem dX7_judgeOntoDraft_95 : decode cX7_judgeOntoDraft 95 = .ok (.ireturn, 1) := by decide +kernel
theorem dX7_placeAllOnDraft_0 : decode cX7_placeAllOnDraft 0 = .ok (.iconst 0, 1) := by decide +kernel
theorem dX7_placeAllOnDraft_1 : decode cX7_placeAllOnDraft 1 = .ok (.istore_n 3, 1) := by decide +kernel
theorem dX7_placeAllOnDraft_2 : decode cX7_placeAllOnDraft 2 = .ok (.iload_n 3, 1) := by decide +kernel
theorem dX7_placeAllOnDraft_3 : decode cX7_placeAllOnDraft 3 = .ok (.aload_n 2, 1) := by decide +kernel
theorem dX7_placeAllOnDraft_4 : decode cX7_placeAllOnDraft 4 = .ok (.getfield 115, 3) := by decide +kernel
theorem dX7_placeAllOnDraft_7 : decode cX7_placeAllOnDraft 7 = .ok (.if_icmp .ge 24, 3) := by decide +kernel
theorem dX7_placeAllOnDraft_10 : decode cX7_placeAllOnDraft 10 = .ok (.aload_n 0, 1) := by decide +kernel
theorem dX7_placeAllOnDraft_11 : decode cX7_placeAllOnDraft 11 = .ok (.aload_n 1, 1) := by decide +kernel
theorem dX7_placeAllOnDraft_12 : decode cX7_placeAllOnDraft 12 = .ok (.aload_n 2, 1) := by decide +kernel
theorem dX7_placeAllOnDraft_13 : decode cX7_placeAllOnDraft 13 = .ok (.iload_n 3, 1) := by decide +kernel
theorem dX7_placeAllOnDraft_14 : decode cX7_placeAllOnDraft 14 = .ok (.invokevirtual 139, 3) := by decide +kernel
theorem dX7_placeAllOnDraft_17 : decode cX7_placeAllOnDraft 17 = .ok (.invokevirtual 125, 3) := by decide +kernel
theorem dX7_placeAllOnDraft_20 : decode cX7_placeAllOnDraft 20 = .ok (.ifCond .ne 5, 3) := by decide +kernel
theorem dX7_placeAllOnDraft_23 : decode cX7_placeAllOnDraft 23 = .ok (.iconst 0, 1) := by decide +kernel
theorem dX7_placeAllOnDraft_24 : decode cX7_placeAllOnDraft 24 = .ok (.ireturn, 1) := by decide +kernel
theorem dX7_placeAllOnDraft_25 : decode cX7_placeAllOnDraft 25 = .ok (.iinc 3 1, 3) := by decide +kernel
theorem dX7_placeAllOnDraft_28 : decode cX7_placeAllOnDraft 28 = .ok (.goto (-26), 3) := by decide +kernel
theorem dX7_placeAllOnDraft_31 : decode cX7_placeAllOnDraft 31 = .ok (.iconst 1, 1) := by decide +kernel
theorem dX7_placeAllOnDraft_32 : decode cX7_placeAllOnDraft 32 = .ok (.ireturn, 1) := by decide +kernel
theorem dX7_changeCards_0 : decode cX7_changeCards 0 = .ok (.iconst 0, 1) := by decide +kernel
theorem dX7_changeCards_1 : decode cX7_changeCards 1 = .ok (.istore_n 3, 1) := by decide +kernel
theorem dX7_changeCards_2 : decode cX7_changeCards 2 = .ok (.iload_n 3, 1) := by decide +kernel
theorem dX7_changeCards_3 : decode cX7_changeCards 3 = .ok (.aload_n 1, 1) := by decide +kernel
theorem dX7_changeCards_4 : decode cX7_changeCards 4 = .ok (.getfield 115, 3) := by decide +kernel
theorem dX7_changeCards_7 : decode cX7_changeCards 7 = .ok (.if_icmp .ge 56, 3) := by decide +kernel
theorem dX7_changeCards_10 : decode cX7_changeCards 10 = .ok (.aload_n 0, 1) := by decide +kernel
theorem dX7_changeCards_11 : decode cX7_changeCards 11 = .ok (.getfield 16, 3) := by decide +kernel
theorem dX7_changeCards_14 : decode cX7_changeCards 14 = .ok (.iload_n 2, 1) := by decide +kernel
theorem dX7_changeCards_15 : decode cX7_changeCards 15 = .ok (.aload_n 1, 1) := by decide +kernel
theorem dX7_changeCards_16 : decode cX7_changeCards 16 = .ok (.iload_n 3, 1) := by decide +kernel
theorem dX7_changeCards_17 : decode cX7_changeCards 17 = .ok (.invokevirtual 139, 3) := by decide +kernel
theorem dX7_changeCards_20 : decode cX7_changeCards 20 = .ok (.invokevirtual 241, 3) := by decide +kernel
theorem dX7_changeCards_23 : decode cX7_changeCards 23 = .ok (.istore 4, 2) := by decide +kernel
theorem dX7_changeCards_25 : decode cX7_changeCards 25 = .ok (.iload 4, 2) := by decide +kernel
theorem dX7_changeCards_27 : decode cX7_changeCards 27 = .ok (.bipush (-11), 2) := by decide +kernel
theorem dX7_changeCards_29 : decode cX7_changeCards 29 = .ok (.if_icmp .ne 5, 3) := by decide +kernel
theorem dX7_changeCards_32 : decode cX7_changeCards 32 = .ok (.iconst 0, 1) := by decide +kernel
theorem dX7_changeCards_33 : decode cX7_changeCards 33 = .ok (.ireturn, 1) := by decide +kernel
theorem dX7_changeCards_34 : decode cX7_changeCards 34 = .ok (.aload_n 1, 1) := by decide +kernel
theorem dX7_changeCards_35 : decode cX7_changeCards 35 = .ok (.iload_n 3, 1) := by decide +kernel
theorem dX7_changeCards_36 : decode cX7_changeCards 36 = .ok (.iload 4, 2) := by decide +kernel
theorem dX7_changeCards_38 : decode cX7_changeCards 38 = .ok (.invokevirtual 244, 3) := by decide +kernel
theorem dX7_changeCards_41 : decode cX7_changeCards 41 = .ok (.aload_n 0, 1) := by decide +kernel
theorem dX7_changeCards_42 : decode cX7_changeCards 42 = .ok (.getfield 16, 3) := by decide +kernel
theorem dX7_changeCards_45 : decode cX7_changeCards 45 = .ok (.getfield 180, 3) := by decide +kernel
theorem dX7_changeCards_48 : decode cX7_changeCards 48 = .ok (.dup, 1) := by decide +kernel
theorem dX7_changeCards_49 : decode cX7_changeCards 49 = .ok (.getfield 193, 3) := by decide +kernel
theorem dX7_changeCards_52 : decode cX7_changeCards 52 = .ok (.iconst 1, 1) := by decide +kernel
theorem dX7_changeCards_53 : decode cX7_changeCards 53 = .ok (.iadd, 1) := by decide +kernel
theorem dX7_changeCards_54 : decode cX7_changeCards 54 = .ok (.putfield 193, 3) := by decide +kernel
theorem dX7_changeCards_57 : decode cX7_changeCards 57 = .ok (.iinc 3 1, 3) := by decide +kernel
theorem dX7_changeCards_60 : decode cX7_changeCards 60 = .ok (.goto (-58), 3) := by decide +kernel
theorem dX7_changeCards_63 : decode cX7_changeCards 63 = .ok (.iconst 1, 1) := by decide +kernel
theorem dX7_changeCards_64 : decode cX7_changeCards 64 = .ok (.ireturn, 1) := by decide +kernel
theorem dX7_mergeIntoDraft_0 : decode cX7_mergeIntoDraft 0 = .ok (.aload_n 0, 1) := by decide +kernel
theorem dX7_mergeIntoDraft_1 : decode cX7_mergeIntoDraft 1 = .ok (.getfield 30, 3) := by decide +kernel
theorem dX7_mergeIntoDraft_4 : decode cX7_mergeIntoDraft 4 = .ok (.getfield 115, 3) := by decide +kernel
theorem dX7_mergeIntoDraft_7 : decode cX7_mergeIntoDraft 7 = .ok (.istore_n 3, 1) := by decide +kernel
theorem dX7_mergeIntoDraft_8 : decode cX7_mergeIntoDraft 8 = .ok (.aload_n 0, 1) := by decide +kernel
theorem dX7_mergeIntoDraft_9 : decode cX7_mergeIntoDraft 9 = .ok (.getfield 34, 3) := by decide +kernel
theorem dX7_mergeIntoDraft_12 : decode cX7_mergeIntoDraft 12 = .ok (.aload_n 0, 1) := by decide +kernel
theorem dX7_mergeIntoDraft_13 : decode cX7_mergeIntoDraft 13 = .ok (.getfield 30, 3) := by decide +kernel
theorem dX7_mergeIntoDraft_16 : decode cX7_mergeIntoDraft 16 = .ok (.invokevirtual 121, 3) := by decide +kernel
theorem dX7_mergeIntoDraft_19 : decode cX7_mergeIntoDraft 19 = .ok (.aload_n 0, 1) := by decide +kernel
theorem dX7_mergeIntoDraft_20 : decode cX7_mergeIntoDraft 20 = .ok (.getfield 34, 3) := by decide +kernel
theorem dX7_mergeIntoDraft_23 : decode cX7_mergeIntoDraft 23 = .ok (.aload_n 1, 1) := by decide +kernel
theorem dX7_mergeIntoDraft_24 : decode cX7_mergeIntoDraft 24 = .ok (.iconst 0, 1) := by decide +kernel
theorem dX7_mergeIntoDraft_25 : decode cX7_mergeIntoDraft 25 = .ok (.aload_n 1, 1) := by decide +kernel
theorem dX7_mergeIntoDraft_26 : decode cX7_mergeIntoDraft 26 = .ok (.getfield 115, 3) := by decide +kernel
theorem dX7_mergeIntoDraft_29 : decode cX7_mergeIntoDraft 29 = .ok (.invokevirtual 237, 3) := by decide +kernel
theorem dX7_mergeIntoDraft_32 : decode cX7_mergeIntoDraft 32 = .ok (.aload_n 0, 1) := by decide +kernel
theorem dX7_mergeIntoDraft_33 : decode cX7_mergeIntoDraft 33 = .ok (.getfield 30, 3) := by decide +kernel
theorem dX7_mergeIntoDraft_36 : decode cX7_mergeIntoDraft 36 = .ok (.invokevirtual 159, 3) := by decide +kernel
theorem dX7_mergeIntoDraft_39 : decode cX7_mergeIntoDraft 39 = .ok (.aload_n 0, 1) := by decide +kernel
theorem dX7_mergeIntoDraft_40 : decode cX7_mergeIntoDraft 40 = .ok (.getfield 30, 3) := by decide +kernel
theorem dX7_mergeIntoDraft_43 : decode cX7_mergeIntoDraft 43 = .ok (.aload_n 0, 1) := by decide +kernel
theorem dX7_mergeIntoDraft_44 : decode cX7_mergeIntoDraft 44 = .ok (.getfield 34, 3) := by decide +kernel
theorem dX7_mergeIntoDraft_47 : decode cX7_mergeIntoDraft 47 = .ok (.iconst 0, 1) := by decide +kernel
theorem dX7_mergeIntoDraft_48 : decode cX7_mergeIntoDraft 48 = .ok (.iload_n 3, 1) := by decide +kernel
theorem dX7_mergeIntoDraft_49 : decode cX7_mergeIntoDraft 49 = .ok (.aload_n 0, 1) := by decide +kernel
theorem dX7_mergeIntoDraft_50 : decode cX7_mergeIntoDraft 50 = .ok (.getfield 34, 3) := by decide +kernel
theorem dX7_mergeIntoDraft_53 : decode cX7_mergeIntoDraft 53 = .ok (.getfield 115, 3) := by decide +kernel
theorem dX7_mergeIntoDraft_56 : decode cX7_mergeIntoDraft 56 = .ok (.aload_n 0, 1) := by decide +kernel
theorem dX7_mergeIntoDraft_57 : decode cX7_mergeIntoDraft 57 = .ok (.getfield 16, 3) := by decide +kernel
theorem dX7_mergeIntoDraft_60 : decode cX7_mergeIntoDraft 60 = .ok (.iload_n 2, 1) := by decide +kernel
theorem dX7_mergeIntoDraft_61 : decode cX7_mergeIntoDraft 61 = .ok (.invokevirtual 230, 3) := by decide +kernel
theorem dX7_mergeIntoDraft_64 : decode cX7_mergeIntoDraft 64 = .ok (.ireturn, 1) := by decide +kernel
theorem dX7_isWhole_0 : decode cX7_isWhole 0 = .ok (.aload_n 1, 1) := by decide +kernel
theorem dX7_isWhole_1 : decode cX7_isWhole 1 = .ok (.getfield 142, 3) := by decide +kernel
theorem dX7_isWhole_4 : decode cX7_isWhole 4 = .ok (.ifCond .ne 5, 3) := by decide +kernel
theorem dX7_isWhole_7 : decode cX7_isWhole 7 = .ok (.iconst 1, 1) := by decide +kernel
theorem dX7_isWhole_8 : decode cX7_isWhole 8 = .ok (.ireturn, 1) := by decide +kernel
theorem dX7_isWhole_9 : decode cX7_isWhole 9 = .ok (.iconst 1, 1) := by decide +kernel
theorem dX7_isWhole_10 : decode cX7_isWhole 10 = .ok (.istore_n 2, 1) := by decide +kernel
theorem dX7_isWhole_11 : decode cX7_isWhole 11 = .ok (.iload_n 2, 1) := by decide +kernel
theorem dX7_isWhole_12 : decode cX7_isWhole 12 = .ok (.aload_n 1, 1) := by decide +kernel
theorem dX7_isWhole_13 : decode cX7_isWhole 13 = .ok (.getfield 112, 3) := by decide +kernel
theorem dX7_isWhole_16 : decode cX7_isWhole 16 = .ok (.getfield 115, 3) := by decide +kernel
theorem dX7_isWhole_19 : decode cX7_isWhole 19 = .ok (.if_icmp .ge 61, 3) := by decide +kernel
theorem dX7_isWhole_22 : decode cX7_isWhole 22 = .ok (.aload_n 1, 1) := by decide +kernel
theorem dX7_isWhole_23 : decode cX7_isWhole 23 = .ok (.getfield 142, 3) := by decide +kernel
theorem dX7_isWhole_26 : decode cX7_isWhole 26 = .ok (.iconst 1, 1) := by decide +kernel
theorem dX7_isWhole_27 : decode cX7_isWhole 27 = .ok (.if_icmp .ne 9, 3) := by decide +kernel
theorem dX7_isWhole_30 : decode cX7_isWhole 30 = .ok (.iload_n 2, 1) := by decide +kernel
theorem dX7_isWhole_31 : decode cX7_isWhole 31 = .ok (.iconst 1, 1) := by decide +kernel
theorem dX7_isWhole_32 : decode cX7_isWhole 32 = .ok (.isub, 1) := by decide +kernel
theorem dX7_isWhole_33 : decode cX7_isWhole 33 = .ok (.goto 8, 3) := by decide +kernel
theorem dX7_isWhole_36 : decode cX7_isWhole 36 = .ok (.iload_n 2, 1) := by decide +kernel
theorem dX7_isWhole_37 : decode cX7_isWhole 37 = .ok (.iconst 1, 1) := by decide +kernel
theorem dX7_isWhole_38 : decode cX7_isWhole 38 = .ok (.isub, 1) := by decide +kernel
theorem dX7_isWhole_39 : decode cX7_isWhole 39 = .ok (.iconst 2, 1) := by decide +kernel
theorem dX7_isWhole_40 : decode cX7_isWhole 40 = .ok (.idiv, 1) := by decide +kernel
theorem dX7_isWhole_41 : decode cX7_isWhole 41 = .ok (.istore_n 3, 1) := by decide +kernel
theorem dX7_isWhole_42 : decode cX7_isWhole 42 = .ok (.aload_n 0, 1) := by decide +kernel
theorem dX7_isWhole_43 : decode cX7_isWhole 43 = .ok (.getfield 16, 3) := by decide +kernel
theorem dX7_isWhole_46 : decode cX7_isWhole 46 = .ok (.aload_n 1, 1) := by decide +kernel
theorem dX7_isWhole_47 : decode cX7_isWhole 47 = .ok (.getfield 145, 3) := by decide +kernel
theorem dX7_isWhole_50 : decode cX7_isWhole 50 = .ok (.aload_n 1, 1) := by decide +kernel
theorem dX7_isWhole_51 : decode cX7_isWhole 51 = .ok (.getfield 112, 3) := by decide +kernel
theorem dX7_isWhole_54 : decode cX7_isWhole 54 = .ok (.iload_n 2, 1) := by decide +kernel
theorem dX7_isWhole_55 : decode cX7_isWhole 55 = .ok (.invokevirtual 139, 3) := by decide +kernel
theorem dX7_isWhole_58 : decode cX7_isWhole 58 = .ok (.aload_n 1, 1) := by decide +kernel
theorem dX7_isWhole_59 : decode cX7_isWhole 59 = .ok (.getfield 112, 3) := by decide +kernel
theorem dX7_isWhole_62 : decode cX7_isWhole 62 = .ok (.iload_n 3, 1) := by decide +kernel
theorem dX7_isWhole_63 : decode cX7_isWhole 63 = .ok (.invokevirtual 139, 3) := by decide +kernel
theorem dX7_isWhole_66 : decode cX7_isWhole 66 = .ok (.invokevirtual 247, 3) := by decide +kernel
theorem dX7_isWhole_69 : decode cX7_isWhole 69 = .ok (.ifCond .ge 5, 3) := by decide +kernel
theorem dX7_isWhole_72 : decode cX7_isWhole 72 = .ok (.iconst 0, 1) := by decide +kernel
theorem dX7_isWhole_73 : decode cX7_isWhole 73 = .ok (.ireturn, 1) := by decide +kernel
theorem dX7_isWhole_74 : decode cX7_isWhole 74 = .ok (.iinc 2 1, 3) := by decide +kernel
theorem dX7_isWhole_77 : decode cX7_isWhole 77 = .ok (.goto (-66), 3) := by decide +kernel
theorem dX7_isWhole_80 : decode cX7_isWhole 80 = .ok (.iconst 1, 1) := by decide +kernel
theorem dX7_isWhole_81 : decode cX7_isWhole 81 = .ok (.ireturn, 1) := by decide +kernel
theorem dJ6_compare_7cf53_0 : decode cJ6_compare_7cf53 0 = .ok (.iload_n 0, 1) := by decide +kernel
theorem dJ6_compare_7cf53_1 : decode cJ6_compare_7cf53 1 = .ok (.iload_n 1, 1) := by decide +kernel
theorem dJ6_compare_7cf53_2 : decode cJ6_compare_7cf53 2 = .ok (.if_icmp .ge 7, 3) := by decide +kernel
theorem dJ6_compare_7cf53_5 : decode cJ6_compare_7cf53 5 = .ok (.iconst (-1), 1) := by decide +kernel
theorem dJ6_compare_7cf53_6 : decode cJ6_compare_7cf53 6 = .ok (.goto 13, 3) := by decide +kernel
theorem dJ6_compare_7cf53_9 : decode cJ6_compare_7cf53 9 = .ok (.iload_n 0, 1) := by decide +kernel
theorem dJ6_compare_7cf53_10 : decode cJ6_compare_7cf53 10 = .ok (.iload_n 1, 1) := by decide +kernel
theorem dJ6_compare_7cf53_11 : decode cJ6_compare_7cf53 11 = .ok (.if_icmp .ne 7, 3) := by decide +kernel
theorem dJ6_compare_7cf53_14 : decode cJ6_compare_7cf53 14 = .ok (.iconst 0, 1) := by decide +kernel
theorem dJ6_compare_7cf53_15 : decode cJ6_compare_7cf53 15 = .ok (.goto 4, 3) := by decide +kernel
theorem dJ6_compare_7cf53_18 : decode cJ6_compare_7cf53 18 = .ok (.iconst 1, 1) := by decide +kernel
theorem dJ6_compare_7cf53_19 : decode cJ6_compare_7cf53 19 = .ok (.ireturn, 1) := by decide +kernel
theorem dJ9_min_7cf53_0 : decode cJ9_min_7cf53 0 = .ok (.iload_n 0, 1) := by decide +kernel
theorem dJ9_min_7cf53_1 : decode cJ9_min_7cf53 1 = .ok (.iload_n 1, 1) := by decide +kernel
theorem dJ9_min_7cf53_2 : decode cJ9_min_7cf53 2 = .ok (.if_icmp .gt 7, 3) := by decide +kernel
theorem dJ9_min_7cf53_5 : decode cJ9_min_7cf53 5 = .ok (.iload_n 0, 1) := by decide +kernel
theorem dJ9_min_7cf53_6 : decode cJ9_min_7cf53 6 = .ok (.goto 4, 3) := by decide +kernel
theorem dJ9_min_7cf53_9 : decode cJ9_min_7cf53 9 = .ok (.iload_n 1, 1) := by decide +kernel
theorem dJ9_min_7cf53_10 : decode cJ9_min_7cf53 10 = .ok (.ireturn, 1) := by decide +kernel
