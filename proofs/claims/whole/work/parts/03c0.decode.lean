theorem dX0_init_0 : decode cX0_init 0 = .ok (.aload_n 0, 1) := by decide +kernel
theorem dX0_init_1 : decode cX0_init 1 = .ok (.invokespecial 3, 3) := by decide +kernel
theorem dX0_init_4 : decode cX0_init 4 = .ok (.aload_n 0, 1) := by decide +kernel
theorem dX0_init_5 : decode cX0_init 5 = .ok (.bipush 50, 2) := by decide +kernel
theorem dX0_init_7 : decode cX0_init 7 = .ok (.newarray .int, 2) := by decide +kernel
theorem dX0_init_9 : decode cX0_init 9 = .ok (.putfield 11, 3) := by decide +kernel
theorem dX0_init_12 : decode cX0_init 12 = .ok (.aload_n 0, 1) := by decide +kernel
theorem dX0_init_13 : decode cX0_init 13 = .ok (.bipush 24, 2) := by decide +kernel
theorem dX0_init_15 : decode cX0_init 15 = .ok (.newarray .int, 2) := by decide +kernel
theorem dX0_init_17 : decode cX0_init 17 = .ok (.putfield 15, 3) := by decide +kernel
theorem dX0_init_20 : decode cX0_init 20 = .ok (.return_, 1) := by decide +kernel
theorem dX0_add_0 : decode cX0_add 0 = .ok (.iload_n 1, 1) := by decide +kernel
theorem dX0_add_1 : decode cX0_add 1 = .ok (.ifCond .lt 9, 3) := by decide +kernel
theorem dX0_add_4 : decode cX0_add 4 = .ok (.iload_n 1, 1) := by decide +kernel
theorem dX0_add_5 : decode cX0_add 5 = .ok (.bipush 8, 2) := by decide +kernel
theorem dX0_add_7 : decode cX0_add 7 = .ok (.if_icmp .lt 5, 3) := by decide +kernel
theorem dX0_add_10 : decode cX0_add 10 = .ok (.iconst (-1), 1) := by decide +kernel
theorem dX0_add_11 : decode cX0_add 11 = .ok (.ireturn, 1) := by decide +kernel
theorem dX0_add_12 : decode cX0_add 12 = .ok (.aload_n 0, 1) := by decide +kernel
theorem dX0_add_13 : decode cX0_add 13 = .ok (.getfield 18, 3) := by decide +kernel
theorem dX0_add_16 : decode cX0_add 16 = .ok (.bipush 50, 2) := by decide +kernel
theorem dX0_add_18 : decode cX0_add 18 = .ok (.if_icmp .lt 6, 3) := by decide +kernel
theorem dX0_add_21 : decode cX0_add 21 = .ok (.bipush (-3), 2) := by decide +kernel
theorem dX0_add_23 : decode cX0_add 23 = .ok (.ireturn, 1) := by decide +kernel
theorem dX0_add_24 : decode cX0_add 24 = .ok (.aload_n 0, 1) := by decide +kernel
theorem dX0_add_25 : decode cX0_add 25 = .ok (.getfield 11, 3) := by decide +kernel
theorem dX0_add_28 : decode cX0_add 28 = .ok (.aload_n 0, 1) := by decide +kernel
theorem dX0_add_29 : decode cX0_add 29 = .ok (.getfield 18, 3) := by decide +kernel
theorem dX0_add_32 : decode cX0_add 32 = .ok (.iload_n 1, 1) := by decide +kernel
theorem dX0_add_33 : decode cX0_add 33 = .ok (.invokestatic 22, 3) := by decide +kernel
theorem dX0_add_36 : decode cX0_add 36 = .ok (.aload_n 0, 1) := by decide +kernel
theorem dX0_add_37 : decode cX0_add 37 = .ok (.dup, 1) := by decide +kernel
theorem dX0_add_38 : decode cX0_add 38 = .ok (.getfield 18, 3) := by decide +kernel
theorem dX0_add_41 : decode cX0_add 41 = .ok (.iconst 1, 1) := by decide +kernel
theorem dX0_add_42 : decode cX0_add 42 = .ok (.iadd, 1) := by decide +kernel
theorem dX0_add_43 : decode cX0_add 43 = .ok (.putfield 18, 3) := by decide +kernel
theorem dX0_add_46 : decode cX0_add 46 = .ok (.aload_n 0, 1) := by decide +kernel
theorem dX0_add_47 : decode cX0_add 47 = .ok (.getfield 18, 3) := by decide +kernel
theorem dX0_add_50 : decode cX0_add 50 = .ok (.iconst 1, 1) := by decide +kernel
theorem dX0_add_51 : decode cX0_add 51 = .ok (.isub, 1) := by decide +kernel
theorem dX0_add_52 : decode cX0_add 52 = .ok (.ireturn, 1) := by decide +kernel
theorem dX0_has_0 : decode cX0_has 0 = .ok (.iload_n 1, 1) := by decide +kernel
theorem dX0_has_1 : decode cX0_has 1 = .ok (.ifCond .lt 15, 3) := by decide +kernel
theorem dX0_has_4 : decode cX0_has 4 = .ok (.iload_n 1, 1) := by decide +kernel
theorem dX0_has_5 : decode cX0_has 5 = .ok (.aload_n 0, 1) := by decide +kernel
theorem dX0_has_6 : decode cX0_has 6 = .ok (.getfield 18, 3) := by decide +kernel
theorem dX0_has_9 : decode cX0_has 9 = .ok (.if_icmp .ge 7, 3) := by decide +kernel
theorem dX0_has_12 : decode cX0_has 12 = .ok (.iconst 1, 1) := by decide +kernel
theorem dX0_has_13 : decode cX0_has 13 = .ok (.goto 4, 3) := by decide +kernel
theorem dX0_has_16 : decode cX0_has 16 = .ok (.iconst 0, 1) := by decide +kernel
theorem dX0_has_17 : decode cX0_has 17 = .ok (.ireturn, 1) := by decide +kernel
theorem dX0_kindOf_0 : decode cX0_kindOf 0 = .ok (.aload_n 0, 1) := by decide +kernel
theorem dX0_kindOf_1 : decode cX0_kindOf 1 = .ok (.iload_n 1, 1) := by decide +kernel
theorem dX0_kindOf_2 : decode cX0_kindOf 2 = .ok (.invokevirtual 26, 3) := by decide +kernel
theorem dX0_kindOf_5 : decode cX0_kindOf 5 = .ok (.ifCond .eq 14, 3) := by decide +kernel
theorem dX0_kindOf_8 : decode cX0_kindOf 8 = .ok (.aload_n 0, 1) := by decide +kernel
theorem dX0_kindOf_9 : decode cX0_kindOf 9 = .ok (.getfield 11, 3) := by decide +kernel
theorem dX0_kindOf_12 : decode cX0_kindOf 12 = .ok (.iload_n 1, 1) := by decide +kernel
theorem dX0_kindOf_13 : decode cX0_kindOf 13 = .ok (.invokestatic 30, 3) := by decide +kernel
theorem dX0_kindOf_16 : decode cX0_kindOf 16 = .ok (.goto 4, 3) := by decide +kernel
theorem dX0_kindOf_19 : decode cX0_kindOf 19 = .ok (.iconst (-1), 1) := by decide +kernel
theorem dX0_kindOf_20 : decode cX0_kindOf 20 = .ok (.ireturn, 1) := by decide +kernel
theorem dX0_isUnder_0 : decode cX0_isUnder 0 = .ok (.iload_n 1, 1) := by decide +kernel
theorem dX0_isUnder_1 : decode cX0_isUnder 1 = .ok (.istore_n 3, 1) := by decide +kernel
theorem dX0_isUnder_2 : decode cX0_isUnder 2 = .ok (.iconst 0, 1) := by decide +kernel
theorem dX0_isUnder_3 : decode cX0_isUnder 3 = .ok (.istore 4, 2) := by decide +kernel
theorem dX0_isUnder_5 : decode cX0_isUnder 5 = .ok (.iload 4, 2) := by decide +kernel
theorem dX0_isUnder_7 : decode cX0_isUnder 7 = .ok (.bipush 8, 2) := by decide +kernel
theorem dX0_isUnder_9 : decode cX0_isUnder 9 = .ok (.if_icmp .ge 29, 3) := by decide +kernel
theorem dX0_isUnder_12 : decode cX0_isUnder 12 = .ok (.iload_n 3, 1) := by decide +kernel
theorem dX0_isUnder_13 : decode cX0_isUnder 13 = .ok (.iconst (-1), 1) := by decide +kernel
theorem dX0_isUnder_14 : decode cX0_isUnder 14 = .ok (.if_icmp .eq 24, 3) := by decide +kernel
theorem dX0_isUnder_17 : decode cX0_isUnder 17 = .ok (.iload_n 3, 1) := by decide +kernel
theorem dX0_isUnder_18 : decode cX0_isUnder 18 = .ok (.iload_n 2, 1) := by decide +kernel
theorem dX0_isUnder_19 : decode cX0_isUnder 19 = .ok (.if_icmp .ne 5, 3) := by decide +kernel
theorem dX0_isUnder_22 : decode cX0_isUnder 22 = .ok (.iconst 1, 1) := by decide +kernel
theorem dX0_isUnder_23 : decode cX0_isUnder 23 = .ok (.ireturn, 1) := by decide +kernel
theorem dX0_isUnder_24 : decode cX0_isUnder 24 = .ok (.getstatic 34, 3) := by decide +kernel
theorem dX0_isUnder_27 : decode cX0_isUnder 27 = .ok (.iload_n 3, 1) := by decide +kernel
theorem dX0_isUnder_28 : decode cX0_isUnder 28 = .ok (.invokestatic 30, 3) := by decide +kernel
theorem dX0_isUnder_31 : decode cX0_isUnder 31 = .ok (.istore_n 3, 1) := by decide +kernel
theorem dX0_isUnder_32 : decode cX0_isUnder 32 = .ok (.iinc 4 1, 3) := by decide +kernel
theorem dX0_isUnder_35 : decode cX0_isUnder 35 = .ok (.goto (-30), 3) := by decide +kernel
theorem dX0_isUnder_38 : decode cX0_isUnder 38 = .ok (.iconst 0, 1) := by decide +kernel
theorem dX0_isUnder_39 : decode cX0_isUnder 39 = .ok (.ireturn, 1) := by decide +kernel
theorem dX0_traced_0 : decode cX0_traced 0 = .ok (.iload_n 1, 1) := by decide +kernel
theorem dX0_traced_1 : decode cX0_traced 1 = .ok (.ifCond .lt 28, 3) := by decide +kernel
theorem dX0_traced_4 : decode cX0_traced 4 = .ok (.iload_n 1, 1) := by decide +kernel
theorem dX0_traced_5 : decode cX0_traced 5 = .ok (.aload_n 0, 1) := by decide +kernel
theorem dX0_traced_6 : decode cX0_traced 6 = .ok (.getfield 37, 3) := by decide +kernel
theorem dX0_traced_9 : decode cX0_traced 9 = .ok (.if_icmp .ge 20, 3) := by decide +kernel
theorem dX0_traced_12 : decode cX0_traced 12 = .ok (.iload_n 1, 1) := by decide +kernel
theorem dX0_traced_13 : decode cX0_traced 13 = .ok (.bipush 24, 2) := by decide +kernel
theorem dX0_traced_15 : decode cX0_traced 15 = .ok (.if_icmp .ge 14, 3) := by decide +kernel
theorem dX0_traced_18 : decode cX0_traced 18 = .ok (.aload_n 0, 1) := by decide +kernel
theorem dX0_traced_19 : decode cX0_traced 19 = .ok (.getfield 15, 3) := by decide +kernel
theorem dX0_traced_22 : decode cX0_traced 22 = .ok (.iload_n 1, 1) := by decide +kernel
theorem dX0_traced_23 : decode cX0_traced 23 = .ok (.invokestatic 30, 3) := by decide +kernel
theorem dX0_traced_26 : decode cX0_traced 26 = .ok (.goto 4, 3) := by decide +kernel
theorem dX0_traced_29 : decode cX0_traced 29 = .ok (.iconst (-1), 1) := by decide +kernel
theorem dX0_traced_30 : decode cX0_traced 30 = .ok (.ireturn, 1) := by decide +kernel
theorem dX0_start_0 : decode cX0_start 0 = .ok (.aload_n 0, 1) := by decide +kernel
theorem dX0_start_1 : decode cX0_start 1 = .ok (.iconst 0, 1) := by decide +kernel
theorem dX0_start_2 : decode cX0_start 2 = .ok (.putfield 37, 3) := by decide +kernel
theorem dX0_start_5 : decode cX0_start 5 = .ok (.aload_n 0, 1) := by decide +kernel
theorem dX0_start_6 : decode cX0_start 6 = .ok (.iload_n 1, 1) := by decide +kernel
theorem dX0_start_7 : decode cX0_start 7 = .ok (.invokevirtual 26, 3) := by decide +kernel
theorem dX0_start_10 : decode cX0_start 10 = .ok (.ifCond .eq 12, 3) := by decide +kernel
theorem dX0_start_13 : decode cX0_start 13 = .ok (.iload_n 2, 1) := by decide +kernel
theorem dX0_start_14 : decode cX0_start 14 = .ok (.ifCond .lt 8, 3) := by decide +kernel
theorem dX0_start_17 : decode cX0_start 17 = .ok (.iload_n 2, 1) := by decide +kernel
theorem dX0_start_18 : decode cX0_start 18 = .ok (.iconst 4, 1) := by decide +kernel
theorem dX0_start_19 : decode cX0_start 19 = .ok (.if_icmp .lt 5, 3) := by decide +kernel
theorem dX0_start_22 : decode cX0_start 22 = .ok (.iconst 0, 1) := by decide +kernel
theorem dX0_start_23 : decode cX0_start 23 = .ok (.ireturn, 1) := by decide +kernel
theorem dX0_start_24 : decode cX0_start 24 = .ok (.aload_n 0, 1) := by decide +kernel
theorem dX0_start_25 : decode cX0_start 25 = .ok (.iload_n 1, 1) := by decide +kernel
theorem dX0_start_26 : decode cX0_start 26 = .ok (.putfield 40, 3) := by decide +kernel
theorem dX0_start_29 : decode cX0_start 29 = .ok (.aload_n 0, 1) := by decide +kernel
theorem dX0_start_30 : decode cX0_start 30 = .ok (.iload_n 2, 1) := by decide +kernel
theorem dX0_start_31 : decode cX0_start 31 = .ok (.iload_n 3, 1) := by decide +kernel
theorem dX0_start_32 : decode cX0_start 32 = .ok (.iconst 0, 1) := by decide +kernel
theorem dX0_start_33 : decode cX0_start 33 = .ok (.invokevirtual 43, 3) := by decide +kernel
theorem dX0_start_36 : decode cX0_start 36 = .ok (.ireturn, 1) := by decide +kernel
theorem dX0_own_0 : decode cX0_own 0 = .ok (.aload_n 0, 1) := by decide +kernel
theorem dX0_own_1 : decode cX0_own 1 = .ok (.aload_n 0, 1) := by decide +kernel
theorem dX0_own_2 : decode cX0_own 2 = .ok (.aload_n 0, 1) := by decide +kernel
theorem dX0_own_3 : decode cX0_own 3 = .ok (.getfield 40, 3) := by decide +kernel
theorem dX0_own_6 : decode cX0_own 6 = .ok (.invokevirtual 47, 3) := by decide +kernel
theorem dX0_own_9 : decode cX0_own 9 = .ok (.iload_n 1, 1) := by decide +kernel
theorem dX0_own_10 : decode cX0_own 10 = .ok (.iload_n 2, 1) := by decide +kernel
theorem dX0_own_11 : decode cX0_own 11 = .ok (.iload_n 3, 1) := by decide +kernel
theorem dX0_own_12 : decode cX0_own 12 = .ok (.iconst 1, 1) := by decide +kernel
theorem dX0_own_13 : decode cX0_own 13 = .ok (.iadd, 1) := by decide +kernel
theorem dX0_own_14 : decode cX0_own 14 = .ok (.invokevirtual 51, 3) := by decide +kernel
theorem dX0_own_17 : decode cX0_own 17 = .ok (.ireturn, 1) := by decide +kernel
theorem dX0_numberOf_0 : decode cX0_numberOf 0 = .ok (.iload_n 1, 1) := by decide +kernel
theorem dX0_numberOf_1 : decode cX0_numberOf 1 = .ok (.istore_n 3, 1) := by decide +kernel
theorem dX0_numberOf_2 : decode cX0_numberOf 2 = .ok (.iconst 0, 1) := by decide +kernel
theorem dX0_numberOf_3 : decode cX0_numberOf 3 = .ok (.istore 4, 2) := by decide +kernel
theorem dX0_numberOf_5 : decode cX0_numberOf 5 = .ok (.iload 4, 2) := by decide +kernel
theorem dX0_numberOf_7 : decode cX0_numberOf 7 = .ok (.bipush 8, 2) := by decide +kernel
theorem dX0_numberOf_9 : decode cX0_numberOf 9 = .ok (.if_icmp .ge 43, 3) := by decide +kernel
theorem dX0_numberOf_12 : decode cX0_numberOf 12 = .ok (.iload_n 3, 1) := by decide +kernel
theorem dX0_numberOf_13 : decode cX0_numberOf 13 = .ok (.iconst (-1), 1) := by decide +kernel
theorem dX0_numberOf_14 : decode cX0_numberOf 14 = .ok (.if_icmp .eq 38, 3) := by decide +kernel
theorem dX0_numberOf_17 : decode cX0_numberOf 17 = .ok (.getstatic 55, 3) := by decide +kernel
theorem dX0_numberOf_20 : decode cX0_numberOf 20 = .ok (.iload_n 3, 1) := by decide +kernel
theorem dX0_numberOf_21 : decode cX0_numberOf 21 = .ok (.iconst 4, 1) := by decide +kernel
theorem dX0_numberOf_22 : decode cX0_numberOf 22 = .ok (.imul, 1) := by decide +kernel
theorem dX0_numberOf_23 : decode cX0_numberOf 23 = .ok (.iload_n 2, 1) := by decide +kernel
theorem dX0_numberOf_24 : decode cX0_numberOf 24 = .ok (.iadd, 1) := by decide +kernel
theorem dX0_numberOf_25 : decode cX0_numberOf 25 = .ok (.invokestatic 30, 3) := by decide +kernel
theorem dX0_numberOf_28 : decode cX0_numberOf 28 = .ok (.istore 5, 2) := by decide +kernel
theorem dX0_numberOf_30 : decode cX0_numberOf 30 = .ok (.iload 5, 2) := by decide +kernel
theorem dX0_numberOf_32 : decode cX0_numberOf 32 = .ok (.ifCond .eq 6, 3) := by decide +kernel
theorem dX0_numberOf_35 : decode cX0_numberOf 35 = .ok (.iload 5, 2) := by decide +kernel
theorem dX0_numberOf_37 : decode cX0_numberOf 37 = .ok (.ireturn, 1) := by decide +kernel
theorem dX0_numberOf_38 : decode cX0_numberOf 38 = .ok (.getstatic 34, 3) := by decide +kernel
theorem dX0_numberOf_41 : decode cX0_numberOf 41 = .ok (.iload_n 3, 1) := by decide +kernel
theorem dX0_numberOf_42 : decode cX0_numberOf 42 = .ok (.invokestatic 30, 3) := by decide +kernel
theorem dX0_numberOf_45 : decode cX0_numberOf 45 = .ok (.istore_n 3, 1) := by decide +kernel
theorem dX0_numberOf_46 : decode cX0_numberOf 46 = .ok (.iinc 4 1, 3) := by decide +kernel
theorem dX0_numberOf_49 : decode cX0_numberOf 49 = .ok (.goto (-44), 3) := by decide +kernel
theorem dX0_numberOf_52 : decode cX0_numberOf 52 = .ok (.iconst 0, 1) := by decide +kernel
theorem dX0_numberOf_53 : decode cX0_numberOf 53 = .ok (.ireturn, 1) := by decide +kernel
theorem dX0_run_0 : decode cX0_run 0 = .ok (.aload_n 0, 1) := by decide +kernel
theorem dX0_run_1 : decode cX0_run 1 = .ok (.iload_n 1, 1) := by decide +kernel
theorem dX0_run_2 : decode cX0_run 2 = .ok (.iload_n 2, 1) := by decide +kernel
theorem dX0_run_3 : decode cX0_run 3 = .ok (.invokevirtual 58, 3) := by decide +kernel
theorem dX0_run_6 : decode cX0_run 6 = .ok (.istore 5, 2) := by decide +kernel
theorem dX0_run_8 : decode cX0_run 8 = .ok (.iload 5, 2) := by decide +kernel
theorem dX0_run_10 : decode cX0_run 10 = .ok (.ifCond .eq 10, 3) := by decide +kernel
theorem dX0_run_13 : decode cX0_run 13 = .ok (.iload 4, 2) := by decide +kernel
theorem dX0_run_15 : decode cX0_run 15 = .ok (.bipush 40, 2) := by decide +kernel
theorem dX0_run_17 : decode cX0_run 17 = .ok (.if_icmp .le 5, 3) := by decide +kernel
theorem dX0_run_20 : decode cX0_run 20 = .ok (.iconst 0, 1) := by decide +kernel
theorem dX0_run_21 : decode cX0_run 21 = .ok (.ireturn, 1) := by decide +kernel
theorem dX0_run_22 : decode cX0_run 22 = .ok (.aload_n 0, 1) := by decide +kernel
theorem dX0_run_23 : decode cX0_run 23 = .ok (.getfield 15, 3) := by decide +kernel
theorem dX0_run_26 : decode cX0_run 26 = .ok (.aload_n 0, 1) := by decide +kernel
theorem dX0_run_27 : decode cX0_run 27 = .ok (.getfield 37, 3) := by decide +kernel
theorem dX0_run_30 : decode cX0_run 30 = .ok (.iload 5, 2) := by decide +kernel
theorem dX0_run_32 : decode cX0_run 32 = .ok (.invokestatic 22, 3) := by decide +kernel
theorem dX0_run_35 : decode cX0_run 35 = .ok (.aload_n 0, 1) := by decide +kernel
theorem dX0_run_36 : decode cX0_run 36 = .ok (.dup, 1) := by decide +kernel
theorem dX0_run_37 : decode cX0_run 37 = .ok (.getfield 37, 3) := by decide +kernel
theorem dX0_run_40 : decode cX0_run 40 = .ok (.iconst 1, 1) := by decide +kernel
theorem dX0_run_41 : decode cX0_run 41 = .ok (.iadd, 1) := by decide +kernel
theorem dX0_run_42 : decode cX0_run 42 = .ok (.putfield 37, 3) := by decide +kernel
theorem dX0_run_45 : decode cX0_run 45 = .ok (.iload 5, 2) := by decide +kernel
theorem dX0_run_47 : decode cX0_run 47 = .ok (.lookupswitch 84 #[(1, 41), (2, 48), (10, 66), (11, 77)], 41) := by decide +kernel
theorem dX0_run_88 : decode cX0_run 88 = .ok (.iload_n 3, 1) := by decide +kernel
theorem dX0_run_89 : decode cX0_run 89 = .ok (.aload_n 0, 1) := by decide +kernel
theorem dX0_run_90 : decode cX0_run 90 = .ok (.getfield 40, 3) := by decide +kernel
theorem dX0_run_93 : decode cX0_run 93 = .ok (.iadd, 1) := by decide +kernel
theorem dX0_run_94 : decode cX0_run 94 = .ok (.ireturn, 1) := by decide +kernel
theorem dX0_run_95 : decode cX0_run 95 = .ok (.aload_n 0, 1) := by decide +kernel
theorem dX0_run_96 : decode cX0_run 96 = .ok (.iconst 1, 1) := by decide +kernel
theorem dX0_run_97 : decode cX0_run 97 = .ok (.iload_n 3, 1) := by decide +kernel
theorem dX0_run_98 : decode cX0_run 98 = .ok (.iload 4, 2) := by decide +kernel
theorem dX0_run_100 : decode cX0_run 100 = .ok (.invokevirtual 43, 3) := by decide +kernel
theorem dX0_run_103 : decode cX0_run 103 = .ok (.aload_n 0, 1) := by decide +kernel
theorem dX0_run_104 : decode cX0_run 104 = .ok (.iconst 2, 1) := by decide +kernel
theorem dX0_run_105 : decode cX0_run 105 = .ok (.iconst 1, 1) := by decide +kernel
theorem dX0_run_106 : decode cX0_run 106 = .ok (.iload 4, 2) := by decide +kernel
theorem dX0_run_108 : decode cX0_run 108 = .ok (.invokevirtual 43, 3) := by decide +kernel
theorem dX0_run_111 : decode cX0_run 111 = .ok (.isub, 1) := by decide +kernel
theorem dX0_run_112 : decode cX0_run 112 = .ok (.ireturn, 1) := by decide +kernel
theorem dX0_run_113 : decode cX0_run 113 = .ok (.aload_n 0, 1) := by decide +kernel
theorem dX0_run_114 : decode cX0_run 114 = .ok (.iconst 0, 1) := by decide +kernel
theorem dX0_run_115 : decode cX0_run 115 = .ok (.iload_n 3, 1) := by decide +kernel
theorem dX0_run_116 : decode cX0_run 116 = .ok (.iload 4, 2) := by decide +kernel
theorem dX0_run_118 : decode cX0_run 118 = .ok (.invokevirtual 43, 3) := by decide +kernel
theorem dX0_run_121 : decode cX0_run 121 = .ok (.iconst 2, 1) := by decide +kernel
theorem dX0_run_122 : decode cX0_run 122 = .ok (.imul, 1) := by decide +kernel
theorem dX0_run_123 : decode cX0_run 123 = .ok (.ireturn, 1) := by decide +kernel
theorem dX0_run_124 : decode cX0_run 124 = .ok (.iload_n 3, 1) := by decide +kernel
theorem dX0_run_125 : decode cX0_run 125 = .ok (.aload_n 0, 1) := by decide +kernel
theorem dX0_run_126 : decode cX0_run 126 = .ok (.getfield 40, 3) := by decide +kernel
theorem dX0_run_129 : decode cX0_run 129 = .ok (.ixor, 1) := by decide +kernel
theorem dX0_run_130 : decode cX0_run 130 = .ok (.ireturn, 1) := by decide +kernel
theorem dX0_run_131 : decode cX0_run 131 = .ok (.aload_n 0, 1) := by decide +kernel
theorem dX0_run_132 : decode cX0_run 132 = .ok (.iload 5, 2) := by decide +kernel
theorem dX0_run_134 : decode cX0_run 134 = .ok (.iload_n 3, 1) := by decide +kernel
theorem dX0_run_135 : decode cX0_run 135 = .ok (.iload 4, 2) := by decide +kernel
theorem dX0_run_137 : decode cX0_run 137 = .ok (.invokevirtual 62, 3) := by decide +kernel
theorem dX0_run_140 : decode cX0_run 140 = .ok (.ireturn, 1) := by decide +kernel
theorem dX0_runUnder_0 : decode cX0_runUnder 0 = .ok (.getstatic 34, 3) := by decide +kernel
theorem dX0_runUnder_3 : decode cX0_runUnder 3 = .ok (.iload_n 1, 1) := by decide +kernel
theorem dX0_runUnder_4 : decode cX0_runUnder 4 = .ok (.bipush 10, 2) := by decide +kernel
theorem dX0_runUnder_6 : decode cX0_runUnder 6 = .ok (.idiv, 1) := by decide +kernel
theorem dX0_runUnder_7 : decode cX0_runUnder 7 = .ok (.iconst 1, 1) := by decide +kernel
theorem dX0_runUnder_8 : decode cX0_runUnder 8 = .ok (.isub, 1) := by decide +kernel
theorem dX0_runUnder_9 : decode cX0_runUnder 9 = .ok (.invokestatic 30, 3) := by decide +kernel
theorem dX0_runUnder_12 : decode cX0_runUnder 12 = .ok (.istore 4, 2) := by decide +kernel
theorem dX0_runUnder_14 : decode cX0_runUnder 14 = .ok (.iload_n 3, 1) := by decide +kernel
theorem dX0_runUnder_15 : decode cX0_runUnder 15 = .ok (.iconst 1, 1) := by decide +kernel
theorem dX0_runUnder_16 : decode cX0_runUnder 16 = .ok (.iadd, 1) := by decide +kernel
theorem dX0_runUnder_17 : decode cX0_runUnder 17 = .ok (.istore 5, 2) := by decide +kernel
theorem dX0_runUnder_19 : decode cX0_runUnder 19 = .ok (.iload_n 1, 1) := by decide +kernel
theorem dX0_runUnder_20 : decode cX0_runUnder 20 = .ok (.lookupswitch 233 #[(20, 92), (30, 105), (40, 117), (41, 130), (50, 143), (60, 156), (61, 175), (70, 188), (80, 201), (81, 220)], 92) := by decide +kernel
theorem dX0_runUnder_112 : decode cX0_runUnder 112 = .ok (.aload_n 0, 1) := by decide +kernel
theorem dX0_runUnder_113 : decode cX0_runUnder 113 = .ok (.iload 4, 2) := by decide +kernel
theorem dX0_runUnder_115 : decode cX0_runUnder 115 = .ok (.iconst 0, 1) := by decide +kernel
theorem dX0_runUnder_116 : decode cX0_runUnder 116 = .ok (.iload_n 2, 1) := by decide +kernel
theorem dX0_runUnder_117 : decode cX0_runUnder 117 = .ok (.iload 5, 2) := by decide +kernel
theorem dX0_runUnder_119 : decode cX0_runUnder 119 = .ok (.invokevirtual 51, 3) := by decide +kernel
theorem dX0_runUnder_122 : decode cX0_runUnder 122 = .ok (.iconst 3, 1) := by decide +kernel
theorem dX0_runUnder_123 : decode cX0_runUnder 123 = .ok (.iadd, 1) := by decide +kernel
theorem dX0_runUnder_124 : decode cX0_runUnder 124 = .ok (.ireturn, 1) := by decide +kernel
theorem dX0_runUnder_125 : decode cX0_runUnder 125 = .ok (.aload_n 0, 1) := by decide +kernel
theorem dX0_runUnder_126 : decode cX0_runUnder 126 = .ok (.iload 4, 2) := by decide +kernel
theorem dX0_runUnder_128 : decode cX0_runUnder 128 = .ok (.iconst 1, 1) := by decide +kernel
theorem dX0_runUnder_129 : decode cX0_runUnder 129 = .ok (.iload_n 2, 1) := by decide +kernel
theorem dX0_runUnder_130 : decode cX0_runUnder 130 = .ok (.iload 5, 2) := by decide +kernel
theorem dX0_runUnder_132 : decode cX0_runUnder 132 = .ok (.invokevirtual 51, 3) := by decide +kernel
theorem dX0_runUnder_135 : decode cX0_runUnder 135 = .ok (.ineg, 1) := by decide +kernel
theorem dX0_runUnder_136 : decode cX0_runUnder 136 = .ok (.ireturn, 1) := by decide +kernel
theorem dX0_runUnder_137 : decode cX0_runUnder 137 = .ok (.aload_n 0, 1) := by decide +kernel
theorem dX0_runUnder_138 : decode cX0_runUnder 138 = .ok (.iload 4, 2) := by decide +kernel
theorem dX0_runUnder_140 : decode cX0_runUnder 140 = .ok (.iconst 2, 1) := by decide +kernel
theorem dX0_runUnder_141 : decode cX0_runUnder 141 = .ok (.iload_n 2, 1) := by decide +kernel
theorem dX0_runUnder_142 : decode cX0_runUnder 142 = .ok (.iload 5, 2) := by decide +kernel
theorem dX0_runUnder_144 : decode cX0_runUnder 144 = .ok (.invokevirtual 51, 3) := by decide +kernel
theorem dX0_runUnder_147 : decode cX0_runUnder 147 = .ok (.iconst 3, 1) := by decide +kernel
theorem dX0_runUnder_148 : decode cX0_runUnder 148 = .ok (.imul, 1) := by decide +kernel
theorem dX0_runUnder_149 : decode cX0_runUnder 149 = .ok (.ireturn, 1) := by decide +kernel
theorem dX0_runUnder_150 : decode cX0_runUnder 150 = .ok (.aload_n 0, 1) := by decide +kernel
theorem dX0_runUnder_151 : decode cX0_runUnder 151 = .ok (.iload 4, 2) := by decide +kernel
theorem dX0_runUnder_153 : decode cX0_runUnder 153 = .ok (.iconst 1, 1) := by decide +kernel
theorem dX0_runUnder_154 : decode cX0_runUnder 154 = .ok (.iload_n 2, 1) := by decide +kernel
theorem dX0_runUnder_155 : decode cX0_runUnder 155 = .ok (.iconst 1, 1) := by decide +kernel
theorem dX0_runUnder_156 : decode cX0_runUnder 156 = .ok (.iadd, 1) := by decide +kernel
theorem dX0_runUnder_157 : decode cX0_runUnder 157 = .ok (.iload 5, 2) := by decide +kernel
theorem dX0_runUnder_159 : decode cX0_runUnder 159 = .ok (.invokevirtual 51, 3) := by decide +kernel
theorem dX0_runUnder_162 : decode cX0_runUnder 162 = .ok (.ireturn, 1) := by decide +kernel
theorem dX0_runUnder_163 : decode cX0_runUnder 163 = .ok (.aload_n 0, 1) := by decide +kernel
theorem dX0_runUnder_164 : decode cX0_runUnder 164 = .ok (.iload 4, 2) := by decide +kernel
theorem dX0_runUnder_166 : decode cX0_runUnder 166 = .ok (.iconst 3, 1) := by decide +kernel
theorem dX0_runUnder_167 : decode cX0_runUnder 167 = .ok (.iload_n 2, 1) := by decide +kernel
theorem dX0_runUnder_168 : decode cX0_runUnder 168 = .ok (.iload 5, 2) := by decide +kernel
theorem dX0_runUnder_170 : decode cX0_runUnder 170 = .ok (.invokevirtual 51, 3) := by decide +kernel
theorem dX0_runUnder_173 : decode cX0_runUnder 173 = .ok (.iconst 5, 1) := by decide +kernel
theorem dX0_runUnder_174 : decode cX0_runUnder 174 = .ok (.ixor, 1) := by decide +kernel
theorem dX0_runUnder_175 : decode cX0_runUnder 175 = .ok (.ireturn, 1) := by decide +kernel
theorem dX0_runUnder_176 : decode cX0_runUnder 176 = .ok (.aload_n 0, 1) := by decide +kernel
theorem dX0_runUnder_177 : decode cX0_runUnder 177 = .ok (.iload 4, 2) := by decide +kernel
theorem dX0_runUnder_179 : decode cX0_runUnder 179 = .ok (.iconst 2, 1) := by decide +kernel
theorem dX0_runUnder_180 : decode cX0_runUnder 180 = .ok (.iload_n 2, 1) := by decide +kernel
theorem dX0_runUnder_181 : decode cX0_runUnder 181 = .ok (.iload 5, 2) := by decide +kernel
theorem dX0_runUnder_183 : decode cX0_runUnder 183 = .ok (.invokevirtual 51, 3) := by decide +kernel
theorem dX0_runUnder_186 : decode cX0_runUnder 186 = .ok (.aload_n 0, 1) := by decide +kernel
theorem dX0_runUnder_187 : decode cX0_runUnder 187 = .ok (.iconst 0, 1) := by decide +kernel
theorem dX0_runUnder_188 : decode cX0_runUnder 188 = .ok (.iconst 2, 1) := by decide +kernel
theorem dX0_runUnder_189 : decode cX0_runUnder 189 = .ok (.iload_n 3, 1) := by decide +kernel
theorem dX0_runUnder_190 : decode cX0_runUnder 190 = .ok (.invokevirtual 43, 3) := by decide +kernel
theorem dX0_runUnder_193 : decode cX0_runUnder 193 = .ok (.isub, 1) := by decide +kernel
theorem dX0_runUnder_194 : decode cX0_runUnder 194 = .ok (.ireturn, 1) := by decide +kernel
theorem dX0_runUnder_195 : decode cX0_runUnder 195 = .ok (.aload_n 0, 1) := by decide +kernel
theorem dX0_runUnder_196 : decode cX0_runUnder 196 = .ok (.iload 4, 2) := by decide +kernel
theorem dX0_runUnder_198 : decode cX0_runUnder 198 = .ok (.iconst 3, 1) := by decide +kernel
theorem dX0_runUnder_199 : decode cX0_runUnder 199 = .ok (.iload_n 2, 1) := by decide +kernel
theorem dX0_runUnder_200 : decode cX0_runUnder 200 = .ok (.iload 5, 2) := by decide +kernel
theorem dX0_runUnder_202 : decode cX0_runUnder 202 = .ok (.invokevirtual 51, 3) := by decide +kernel
theorem dX0_runUnder_205 : decode cX0_runUnder 205 = .ok (.iconst 1, 1) := by decide +kernel
theorem dX0_runUnder_206 : decode cX0_runUnder 206 = .ok (.iadd, 1) := by decide +kernel
theorem dX0_runUnder_207 : decode cX0_runUnder 207 = .ok (.ireturn, 1) := by decide +kernel
theorem dX0_runUnder_208 : decode cX0_runUnder 208 = .ok (.aload_n 0, 1) := by decide +kernel
theorem dX0_runUnder_209 : decode cX0_runUnder 209 = .ok (.iload 4, 2) := by decide +kernel
theorem dX0_runUnder_211 : decode cX0_runUnder 211 = .ok (.iconst 0, 1) := by decide +kernel
theorem dX0_runUnder_212 : decode cX0_runUnder 212 = .ok (.iload_n 2, 1) := by decide +kernel
theorem dX0_runUnder_213 : decode cX0_runUnder 213 = .ok (.iload 5, 2) := by decide +kernel
theorem dX0_runUnder_215 : decode cX0_runUnder 215 = .ok (.invokevirtual 51, 3) := by decide +kernel
theorem dX0_runUnder_218 : decode cX0_runUnder 218 = .ok (.iconst 2, 1) := by decide +kernel
theorem dX0_runUnder_219 : decode cX0_runUnder 219 = .ok (.imul, 1) := by decide +kernel
theorem dX0_runUnder_220 : decode cX0_runUnder 220 = .ok (.ireturn, 1) := by decide +kernel
theorem dX0_runUnder_221 : decode cX0_runUnder 221 = .ok (.aload_n 0, 1) := by decide +kernel
theorem dX0_runUnder_222 : decode cX0_runUnder 222 = .ok (.iload 4, 2) := by decide +kernel
theorem dX0_runUnder_224 : decode cX0_runUnder 224 = .ok (.iconst 1, 1) := by decide +kernel
theorem dX0_runUnder_225 : decode cX0_runUnder 225 = .ok (.iload_n 2, 1) := by decide +kernel
theorem dX0_runUnder_226 : decode cX0_runUnder 226 = .ok (.iload 5, 2) := by decide +kernel
theorem dX0_runUnder_228 : decode cX0_runUnder 228 = .ok (.invokevirtual 51, 3) := by decide +kernel
theorem dX0_runUnder_231 : decode cX0_runUnder 231 = .ok (.aload_n 0, 1) := by decide +kernel
theorem dX0_runUnder_232 : decode cX0_runUnder 232 = .ok (.iconst 2, 1) := by decide +kernel
theorem dX0_runUnder_233 : decode cX0_runUnder 233 = .ok (.iconst 2, 1) := by decide +kernel
theorem dX0_runUnder_234 : decode cX0_runUnder 234 = .ok (.iload_n 3, 1) := by decide +kernel
theorem dX0_runUnder_235 : decode cX0_runUnder 235 = .ok (.invokevirtual 43, 3) := by decide +kernel
theorem dX0_runUnder_238 : decode cX0_runUnder 238 = .ok (.iadd, 1) := by decide +kernel
theorem dX0_runUnder_239 : decode cX0_runUnder 239 = .ok (.ireturn, 1) := by decide +kernel
theorem dX0_runUnder_240 : decode cX0_runUnder 240 = .ok (.aload_n 0, 1) := by decide +kernel
theorem dX0_runUnder_241 : decode cX0_runUnder 241 = .ok (.iload 4, 2) := by decide +kernel
theorem dX0_runUnder_243 : decode cX0_runUnder 243 = .ok (.iconst 0, 1) := by decide +kernel
theorem dX0_runUnder_244 : decode cX0_runUnder 244 = .ok (.iload_n 2, 1) := by decide +kernel
theorem dX0_runUnder_245 : decode cX0_runUnder 245 = .ok (.iload 5, 2) := by decide +kernel
theorem dX0_runUnder_247 : decode cX0_runUnder 247 = .ok (.invokevirtual 51, 3) := by decide +kernel
theorem dX0_runUnder_250 : decode cX0_runUnder 250 = .ok (.iconst 1, 1) := by decide +kernel
theorem dX0_runUnder_251 : decode cX0_runUnder 251 = .ok (.isub, 1) := by decide +kernel
theorem dX0_runUnder_252 : decode cX0_runUnder 252 = .ok (.ireturn, 1) := by decide +kernel
theorem dX0_runUnder_253 : decode cX0_runUnder 253 = .ok (.iconst 0, 1) := by decide +kernel
theorem dX0_runUnder_254 : decode cX0_runUnder 254 = .ok (.ireturn, 1) := by decide +kernel
theorem dX1_init_0 : decode cX1_init 0 = .ok (.aload_n 0, 1) := by decide +kernel
theorem dX1_init_1 : decode cX1_init 1 = .ok (.invokespecial 3, 3) := by decide +kernel
theorem dX1_init_4 : decode cX1_init 4 = .ok (.aload_n 0, 1) := by decide +kernel
theorem dX1_init_5 : decode cX1_init 5 = .ok (.bipush 40, 2) := by decide +kernel
theorem dX1_init_7 : decode cX1_init 7 = .ok (.newarray .int, 2) := by decide +kernel
theorem dX1_init_9 : decode cX1_init 9 = .ok (.putfield 11, 3) := by decide +kernel
theorem dX1_init_12 : decode cX1_init 12 = .ok (.aload_n 0, 1) := by decide +kernel
theorem dX1_init_13 : decode cX1_init 13 = .ok (.bipush 40, 2) := by decide +kernel
theorem dX1_init_15 : decode cX1_init 15 = .ok (.newarray .int, 2) := by decide +kernel
theorem dX1_init_17 : decode cX1_init 17 = .ok (.putfield 15, 3) := by decide +kernel
theorem dX1_init_20 : decode cX1_init 20 = .ok (.aload_n 0, 1) := by decide +kernel
theorem dX1_init_21 : decode cX1_init 21 = .ok (.bipush 40, 2) := by decide +kernel
theorem dX1_init_23 : decode cX1_init 23 = .ok (.newarray .int, 2) := by decide +kernel
theorem dX1_init_25 : decode cX1_init 25 = .ok (.putfield 18, 3) := by decide +kernel
theorem dX1_init_28 : decode cX1_init 28 = .ok (.aload_n 0, 1) := by decide +kernel
theorem dX1_init_29 : decode cX1_init 29 = .ok (.aload_n 1, 1) := by decide +kernel
theorem dX1_init_30 : decode cX1_init 30 = .ok (.putfield 21, 3) := by decide +kernel
theorem dX1_init_33 : decode cX1_init 33 = .ok (.return_, 1) := by decide +kernel
theorem dX1_change_0 : decode cX1_change 0 = .ok (.iload_n 1, 1) := by decide +kernel
theorem dX1_change_1 : decode cX1_change 1 = .ok (.iconst (-1), 1) := by decide +kernel
theorem dX1_change_2 : decode cX1_change 2 = .ok (.if_icmp .ne 13, 3) := by decide +kernel
theorem dX1_change_5 : decode cX1_change 5 = .ok (.aload_n 0, 1) := by decide +kernel
theorem dX1_change_6 : decode cX1_change 6 = .ok (.getfield 21, 3) := by decide +kernel
theorem dX1_change_9 : decode cX1_change 9 = .ok (.getfield 25, 3) := by decide +kernel
theorem dX1_change_12 : decode cX1_change 12 = .ok (.goto 11, 3) := by decide +kernel
theorem dX1_change_15 : decode cX1_change 15 = .ok (.aload_n 0, 1) := by decide +kernel
theorem dX1_change_16 : decode cX1_change 16 = .ok (.getfield 21, 3) := by decide +kernel
theorem dX1_change_19 : decode cX1_change 19 = .ok (.iload_n 1, 1) := by decide +kernel
theorem dX1_change_20 : decode cX1_change 20 = .ok (.invokevirtual 31, 3) := by decide +kernel
theorem dX1_change_23 : decode cX1_change 23 = .ok (.istore_n 3, 1) := by decide +kernel
theorem dX1_change_24 : decode cX1_change 24 = .ok (.iload_n 2, 1) := by decide +kernel
theorem dX1_change_25 : decode cX1_change 25 = .ok (.iload_n 3, 1) := by decide +kernel
theorem dX1_change_26 : decode cX1_change 26 = .ok (.if_icmp .ne 5, 3) := by decide +kernel
theorem dX1_change_29 : decode cX1_change 29 = .ok (.iload_n 3, 1) := by decide +kernel
theorem dX1_change_30 : decode cX1_change 30 = .ok (.ireturn, 1) := by decide +kernel
theorem dX1_change_31 : decode cX1_change 31 = .ok (.aload_n 0, 1) := by decide +kernel
theorem dX1_change_32 : decode cX1_change 32 = .ok (.getfield 35, 3) := by decide +kernel
theorem dX1_change_35 : decode cX1_change 35 = .ok (.bipush 40, 2) := by decide +kernel
theorem dX1_change_37 : decode cX1_change 37 = .ok (.if_icmp .ne 7, 3) := by decide +kernel
theorem dX1_change_40 : decode cX1_change 40 = .ok (.aload_n 0, 1) := by decide +kernel
theorem dX1_change_41 : decode cX1_change 41 = .ok (.invokevirtual 38, 3) := by decide +kernel
theorem dX1_change_44 : decode cX1_change 44 = .ok (.aload_n 0, 1) := by decide +kernel
theorem dX1_change_45 : decode cX1_change 45 = .ok (.getfield 11, 3) := by decide +kernel
theorem dX1_change_48 : decode cX1_change 48 = .ok (.aload_n 0, 1) := by decide +kernel
theorem dX1_change_49 : decode cX1_change 49 = .ok (.getfield 35, 3) := by decide +kernel
theorem dX1_change_52 : decode cX1_change 52 = .ok (.iload_n 1, 1) := by decide +kernel
theorem dX1_change_53 : decode cX1_change 53 = .ok (.invokestatic 41, 3) := by decide +kernel
theorem dX1_change_56 : decode cX1_change 56 = .ok (.aload_n 0, 1) := by decide +kernel
theorem dX1_change_57 : decode cX1_change 57 = .ok (.getfield 15, 3) := by decide +kernel
theorem dX1_change_60 : decode cX1_change 60 = .ok (.aload_n 0, 1) := by decide +kernel
theorem dX1_change_61 : decode cX1_change 61 = .ok (.getfield 35, 3) := by decide +kernel
theorem dX1_change_64 : decode cX1_change 64 = .ok (.iload_n 3, 1) := by decide +kernel
theorem dX1_change_65 : decode cX1_change 65 = .ok (.invokestatic 41, 3) := by decide +kernel
theorem dX1_change_68 : decode cX1_change 68 = .ok (.aload_n 0, 1) := by decide +kernel
theorem dX1_change_69 : decode cX1_change 69 = .ok (.getfield 18, 3) := by decide +kernel
theorem dX1_change_72 : decode cX1_change 72 = .ok (.aload_n 0, 1) := by decide +kernel
theorem dX1_change_73 : decode cX1_change 73 = .ok (.getfield 35, 3) := by decide +kernel
theorem dX1_change_76 : decode cX1_change 76 = .ok (.iload_n 2, 1) := by decide +kernel
theorem dX1_change_77 : decode cX1_change 77 = .ok (.invokestatic 41, 3) := by decide +kernel
theorem dX1_change_80 : decode cX1_change 80 = .ok (.aload_n 0, 1) := by decide +kernel
theorem dX1_change_81 : decode cX1_change 81 = .ok (.dup, 1) := by decide +kernel
theorem dX1_change_82 : decode cX1_change 82 = .ok (.getfield 35, 3) := by decide +kernel
theorem dX1_change_85 : decode cX1_change 85 = .ok (.iconst 1, 1) := by decide +kernel
theorem dX1_change_86 : decode cX1_change 86 = .ok (.iadd, 1) := by decide +kernel
theorem dX1_change_87 : decode cX1_change 87 = .ok (.putfield 35, 3) := by decide +kernel
theorem dX1_change_90 : decode cX1_change 90 = .ok (.aload_n 0, 1) := by decide +kernel
theorem dX1_change_91 : decode cX1_change 91 = .ok (.aload_n 0, 1) := by decide +kernel
theorem dX1_change_92 : decode cX1_change 92 = .ok (.getfield 35, 3) := by decide +kernel
theorem dX1_change_95 : decode cX1_change 95 = .ok (.putfield 45, 3) := by decide +kernel
theorem dX1_change_98 : decode cX1_change 98 = .ok (.aload_n 0, 1) := by decide +kernel
theorem dX1_change_99 : decode cX1_change 99 = .ok (.iload_n 1, 1) := by decide +kernel
theorem dX1_change_100 : decode cX1_change 100 = .ok (.iload_n 2, 1) := by decide +kernel
theorem dX1_change_101 : decode cX1_change 101 = .ok (.invokevirtual 48, 3) := by decide +kernel
theorem dX1_change_104 : decode cX1_change 104 = .ok (.iload_n 3, 1) := by decide +kernel
theorem dX1_change_105 : decode cX1_change 105 = .ok (.ireturn, 1) := by decide +kernel
theorem dX1_forgetFirst_0 : decode cX1_forgetFirst 0 = .ok (.aload_n 0, 1) := by decide +kernel
theorem dX1_forgetFirst_1 : decode cX1_forgetFirst 1 = .ok (.getfield 11, 3) := by decide +kernel
theorem dX1_forgetFirst_4 : decode cX1_forgetFirst 4 = .ok (.bipush 40, 2) := by decide +kernel
theorem dX1_forgetFirst_6 : decode cX1_forgetFirst 6 = .ok (.iconst 0, 1) := by decide +kernel
theorem dX1_forgetFirst_7 : decode cX1_forgetFirst 7 = .ok (.invokestatic 52, 3) := by decide +kernel
theorem dX1_forgetFirst_10 : decode cX1_forgetFirst 10 = .ok (.aload_n 0, 1) := by decide +kernel
theorem dX1_forgetFirst_11 : decode cX1_forgetFirst 11 = .ok (.getfield 15, 3) := by decide +kernel
theorem dX1_forgetFirst_14 : decode cX1_forgetFirst 14 = .ok (.bipush 40, 2) := by decide +kernel
theorem dX1_forgetFirst_16 : decode cX1_forgetFirst 16 = .ok (.iconst 0, 1) := by decide +kernel
theorem dX1_forgetFirst_17 : decode cX1_forgetFirst 17 = .ok (.invokestatic 52, 3) := by decide +kernel
theorem dX1_forgetFirst_20 : decode cX1_forgetFirst 20 = .ok (.aload_n 0, 1) := by decide +kernel
theorem dX1_forgetFirst_21 : decode cX1_forgetFirst 21 = .ok (.getfield 18, 3) := by decide +kernel
theorem dX1_forgetFirst_24 : decode cX1_forgetFirst 24 = .ok (.bipush 40, 2) := by decide +kernel
theorem dX1_forgetFirst_26 : decode cX1_forgetFirst 26 = .ok (.iconst 0, 1) := by decide +kernel
theorem dX1_forgetFirst_27 : decode cX1_forgetFirst 27 = .ok (.invokestatic 52, 3) := by decide +kernel
theorem dX1_forgetFirst_30 : decode cX1_forgetFirst 30 = .ok (.aload_n 0, 1) := by decide +kernel
theorem dX1_forgetFirst_31 : decode cX1_forgetFirst 31 = .ok (.dup, 1) := by decide +kernel
theorem dX1_forgetFirst_32 : decode cX1_forgetFirst 32 = .ok (.getfield 35, 3) := by decide +kernel
theorem dX1_forgetFirst_35 : decode cX1_forgetFirst 35 = .ok (.iconst 1, 1) := by decide +kernel
theorem dX1_forgetFirst_36 : decode cX1_forgetFirst 36 = .ok (.isub, 1) := by decide +kernel
theorem dX1_forgetFirst_37 : decode cX1_forgetFirst 37 = .ok (.putfield 35, 3) := by decide +kernel
theorem dX1_forgetFirst_40 : decode cX1_forgetFirst 40 = .ok (.return_, 1) := by decide +kernel
theorem dX1_become_0 : decode cX1_become 0 = .ok (.iload_n 1, 1) := by decide +kernel
theorem dX1_become_1 : decode cX1_become 1 = .ok (.iconst (-1), 1) := by decide +kernel
theorem dX1_become_2 : decode cX1_become 2 = .ok (.if_icmp .ne 14, 3) := by decide +kernel
theorem dX1_become_5 : decode cX1_become 5 = .ok (.aload_n 0, 1) := by decide +kernel
theorem dX1_become_6 : decode cX1_become 6 = .ok (.getfield 21, 3) := by decide +kernel
theorem dX1_become_9 : decode cX1_become 9 = .ok (.iload_n 2, 1) := by decide +kernel
theorem dX1_become_10 : decode cX1_become 10 = .ok (.putfield 25, 3) := by decide +kernel
theorem dX1_become_13 : decode cX1_become 13 = .ok (.goto 12, 3) := by decide +kernel
theorem dX1_become_16 : decode cX1_become 16 = .ok (.aload_n 0, 1) := by decide +kernel
theorem dX1_become_17 : decode cX1_become 17 = .ok (.getfield 21, 3) := by decide +kernel
theorem dX1_become_20 : decode cX1_become 20 = .ok (.iload_n 1, 1) := by decide +kernel
theorem dX1_become_21 : decode cX1_become 21 = .ok (.iload_n 2, 1) := by decide +kernel
theorem dX1_become_22 : decode cX1_become 22 = .ok (.invokevirtual 55, 3) := by decide +kernel
theorem dX1_become_25 : decode cX1_become 25 = .ok (.return_, 1) := by decide +kernel
theorem dX1_undoLatest_0 : decode cX1_undoLatest 0 = .ok (.aload_n 0, 1) := by decide +kernel
theorem dX1_undoLatest_1 : decode cX1_undoLatest 1 = .ok (.getfield 35, 3) := by decide +kernel
theorem dX1_undoLatest_4 : decode cX1_undoLatest 4 = .ok (.ifCond .ne 6, 3) := by decide +kernel
theorem dX1_undoLatest_7 : decode cX1_undoLatest 7 = .ok (.bipush (-5), 2) := by decide +kernel
theorem dX1_undoLatest_9 : decode cX1_undoLatest 9 = .ok (.ireturn, 1) := by decide +kernel
theorem dX1_undoLatest_10 : decode cX1_undoLatest 10 = .ok (.aload_n 0, 1) := by decide +kernel
theorem dX1_undoLatest_11 : decode cX1_undoLatest 11 = .ok (.dup, 1) := by decide +kernel
theorem dX1_undoLatest_12 : decode cX1_undoLatest 12 = .ok (.getfield 35, 3) := by decide +kernel
theorem dX1_undoLatest_15 : decode cX1_undoLatest 15 = .ok (.iconst 1, 1) := by decide +kernel
theorem dX1_undoLatest_16 : decode cX1_undoLatest 16 = .ok (.isub, 1) := by decide +kernel
theorem dX1_undoLatest_17 : decode cX1_undoLatest 17 = .ok (.putfield 35, 3) := by decide +kernel
theorem dX1_undoLatest_20 : decode cX1_undoLatest 20 = .ok (.aload_n 0, 1) := by decide +kernel
theorem dX1_undoLatest_21 : decode cX1_undoLatest 21 = .ok (.aload_n 0, 1) := by decide +kernel
theorem dX1_undoLatest_22 : decode cX1_undoLatest 22 = .ok (.getfield 11, 3) := by decide +kernel
theorem dX1_undoLatest_25 : decode cX1_undoLatest 25 = .ok (.aload_n 0, 1) := by decide +kernel
theorem dX1_undoLatest_26 : decode cX1_undoLatest 26 = .ok (.getfield 35, 3) := by decide +kernel
theorem dX1_undoLatest_29 : decode cX1_undoLatest 29 = .ok (.invokestatic 58, 3) := by decide +kernel
theorem dX1_undoLatest_32 : decode cX1_undoLatest 32 = .ok (.aload_n 0, 1) := by decide +kernel
theorem dX1_undoLatest_33 : decode cX1_undoLatest 33 = .ok (.getfield 15, 3) := by decide +kernel
theorem dX1_undoLatest_36 : decode cX1_undoLatest 36 = .ok (.aload_n 0, 1) := by decide +kernel
theorem dX1_undoLatest_37 : decode cX1_undoLatest 37 = .ok (.getfield 35, 3) := by decide +kernel
theorem dX1_undoLatest_40 : decode cX1_undoLatest 40 = .ok (.invokestatic 58, 3) := by decide +kernel
theorem dX1_undoLatest_43 : decode cX1_undoLatest 43 = .ok (.invokevirtual 48, 3) := by decide +kernel
theorem dX1_undoLatest_46 : decode cX1_undoLatest 46 = .ok (.aload_n 0, 1) := by decide +kernel
theorem dX1_undoLatest_47 : decode cX1_undoLatest 47 = .ok (.getfield 35, 3) := by decide +kernel
theorem dX1_undoLatest_50 : decode cX1_undoLatest 50 = .ok (.ireturn, 1) := by decide +kernel
theorem dX1_redoNext_0 : decode cX1_redoNext 0 = .ok (.aload_n 0, 1) := by decide +kernel
theorem dX1_redoNext_1 : decode cX1_redoNext 1 = .ok (.getfield 35, 3) := by decide +kernel
theorem dX1_redoNext_4 : decode cX1_redoNext 4 = .ok (.aload_n 0, 1) := by decide +kernel
theorem dX1_redoNext_5 : decode cX1_redoNext 5 = .ok (.getfield 45, 3) := by decide +kernel
theorem dX1_redoNext_8 : decode cX1_redoNext 8 = .ok (.if_icmp .ne 6, 3) := by decide +kernel
theorem dX1_redoNext_11 : decode cX1_redoNext 11 = .ok (.bipush (-5), 2) := by decide +kernel
theorem dX1_redoNext_13 : decode cX1_redoNext 13 = .ok (.ireturn, 1) := by decide +kernel
theorem dX1_redoNext_14 : decode cX1_redoNext 14 = .ok (.aload_n 0, 1) := by decide +kernel
theorem dX1_redoNext_15 : decode cX1_redoNext 15 = .ok (.aload_n 0, 1) := by decide +kernel
theorem dX1_redoNext_16 : decode cX1_redoNext 16 = .ok (.getfield 11, 3) := by decide +kernel
theorem dX1_redoNext_19 : decode cX1_redoNext 19 = .ok (.aload_n 0, 1) := by decide +kernel
theorem dX1_redoNext_20 : decode cX1_redoNext 20 = .ok (.getfield 35, 3) := by decide +kernel
theorem dX1_redoNext_23 : decode cX1_redoNext 23 = .ok (.invokestatic 58, 3) := by decide +kernel
theorem dX1_redoNext_26 : decode cX1_redoNext 26 = .ok (.aload_n 0, 1) := by decide +kernel
theorem dX1_redoNext_27 : decode cX1_redoNext 27 = .ok (.getfield 18, 3) := by decide +kernel
theorem dX1_redoNext_30 : decode cX1_redoNext 30 = .ok (.aload_n 0, 1) := by decide +kernel
theorem dX1_redoNext_31 : decode cX1_redoNext 31 = .ok (.getfield 35, 3) := by decide +kernel
theorem dX1_redoNext_34 : decode cX1_redoNext 34 = .ok (.invokestatic 58, 3) := by decide +kernel
theorem dX1_redoNext_37 : decode cX1_redoNext 37 = .ok (.invokevirtual 48, 3) := by decide +kernel
theorem dX1_redoNext_40 : decode cX1_redoNext 40 = .ok (.aload_n 0, 1) := by decide +kernel
theorem dX1_redoNext_41 : decode cX1_redoNext 41 = .ok (.dup, 1) := by decide +kernel
theorem dX1_redoNext_42 : decode cX1_redoNext 42 = .ok (.getfield 35, 3) := by decide +kernel
theorem dX1_redoNext_45 : decode cX1_redoNext 45 = .ok (.iconst 1, 1) := by decide +kernel
theorem dX1_redoNext_46 : decode cX1_redoNext 46 = .ok (.iadd, 1) := by decide +kernel
theorem dX1_redoNext_47 : decode cX1_redoNext 47 = .ok (.putfield 35, 3) := by decide +kernel
theorem dX1_redoNext_50 : decode cX1_redoNext 50 = .ok (.aload_n 0, 1) := by decide +kernel
theorem dX1_redoNext_51 : decode cX1_redoNext 51 = .ok (.getfield 45, 3) := by decide +kernel
theorem dX1_redoNext_54 : decode cX1_redoNext 54 = .ok (.aload_n 0, 1) := by decide +kernel
theorem dX1_redoNext_55 : decode cX1_redoNext 55 = .ok (.getfield 35, 3) := by decide +kernel
theorem dX1_redoNext_58 : decode cX1_redoNext 58 = .ok (.isub, 1) := by decide +kernel
theorem dX1_redoNext_59 : decode cX1_redoNext 59 = .ok (.ireturn, 1) := by decide +kernel
theorem dX2_init_0 : decode cX2_init 0 = .ok (.aload_n 0, 1) := by decide +kernel
theorem dX2_init_1 : decode cX2_init 1 = .ok (.invokespecial 3, 3) := by decide +kernel
theorem dX2_init_4 : decode cX2_init 4 = .ok (.aload_n 0, 1) := by decide +kernel
theorem dX2_init_5 : decode cX2_init 5 = .ok (.bipush 120, 2) := by decide +kernel
theorem dX2_init_7 : decode cX2_init 7 = .ok (.newarray .int, 2) := by decide +kernel
theorem dX2_init_9 : decode cX2_init 9 = .ok (.putfield 11, 3) := by decide +kernel
theorem dX2_init_12 : decode cX2_init 12 = .ok (.aload_n 0, 1) := by decide +kernel
theorem dX2_init_13 : decode cX2_init 13 = .ok (.bipush 121, 2) := by decide +kernel
theorem dX2_init_15 : decode cX2_init 15 = .ok (.newarray .int, 2) := by decide +kernel
theorem dX2_init_17 : decode cX2_init 17 = .ok (.putfield 15, 3) := by decide +kernel
theorem dX2_init_20 : decode cX2_init 20 = .ok (.aload_n 0, 1) := by decide +kernel
theorem dX2_init_21 : decode cX2_init 21 = .ok (.bipush 121, 2) := by decide +kernel
theorem dX2_init_23 : decode cX2_init 23 = .ok (.newarray .int, 2) := by decide +kernel
theorem dX2_init_25 : decode cX2_init 25 = .ok (.putfield 18, 3) := by decide +kernel
theorem dX2_init_28 : decode cX2_init 28 = .ok (.aload_n 0, 1) := by decide +kernel
theorem dX2_init_29 : decode cX2_init 29 = .ok (.bipush 121, 2) := by decide +kernel
theorem dX2_init_31 : decode cX2_init 31 = .ok (.newarray .int, 2) := by decide +kernel
theorem dX2_init_33 : decode cX2_init 33 = .ok (.putfield 21, 3) := by decide +kernel
theorem dX2_init_36 : decode cX2_init 36 = .ok (.return_, 1) := by decide +kernel
theorem dX2_hear_0 : decode cX2_hear 0 = .ok (.iload_n 1, 1) := by decide +kernel
theorem dX2_hear_1 : decode cX2_hear 1 = .ok (.ifCond .lt 10, 3) := by decide +kernel
theorem dX2_hear_4 : decode cX2_hear 4 = .ok (.iload_n 1, 1) := by decide +kernel
theorem dX2_hear_5 : decode cX2_hear 5 = .ok (.sipush 255, 3) := by decide +kernel
theorem dX2_hear_8 : decode cX2_hear 8 = .ok (.if_icmp .le 5, 3) := by decide +kernel
theorem dX2_hear_11 : decode cX2_hear 11 = .ok (.iconst (-1), 1) := by decide +kernel
theorem dX2_hear_12 : decode cX2_hear 12 = .ok (.ireturn, 1) := by decide +kernel
theorem dX2_hear_13 : decode cX2_hear 13 = .ok (.aload_n 0, 1) := by decide +kernel
theorem dX2_hear_14 : decode cX2_hear 14 = .ok (.getfield 24, 3) := by decide +kernel
theorem dX2_hear_17 : decode cX2_hear 17 = .ok (.bipush 120, 2) := by decide +kernel
theorem dX2_hear_19 : decode cX2_hear 19 = .ok (.if_icmp .lt 6, 3) := by decide +kernel
theorem dX2_hear_22 : decode cX2_hear 22 = .ok (.bipush (-3), 2) := by decide +kernel
theorem dX2_hear_24 : decode cX2_hear 24 = .ok (.ireturn, 1) := by decide +kernel
theorem dX2_hear_25 : decode cX2_hear 25 = .ok (.aload_n 0, 1) := by decide +kernel
theorem dX2_hear_26 : decode cX2_hear 26 = .ok (.getfield 11, 3) := by decide +kernel
theorem dX2_hear_29 : decode cX2_hear 29 = .ok (.aload_n 0, 1) := by decide +kernel
theorem dX2_hear_30 : decode cX2_hear 30 = .ok (.getfield 24, 3) := by decide +kernel
theorem dX2_hear_33 : decode cX2_hear 33 = .ok (.iload_n 1, 1) := by decide +kernel
theorem dX2_hear_34 : decode cX2_hear 34 = .ok (.invokestatic 28, 3) := by decide +kernel
theorem dX2_hear_37 : decode cX2_hear 37 = .ok (.aload_n 0, 1) := by decide +kernel
theorem dX2_hear_38 : decode cX2_hear 38 = .ok (.dup, 1) := by decide +kernel
theorem dX2_hear_39 : decode cX2_hear 39 = .ok (.getfield 24, 3) := by decide +kernel
theorem dX2_hear_42 : decode cX2_hear 42 = .ok (.iconst 1, 1) := by decide +kernel
theorem dX2_hear_43 : decode cX2_hear 43 = .ok (.iadd, 1) := by decide +kernel
theorem dX2_hear_44 : decode cX2_hear 44 = .ok (.putfield 24, 3) := by decide +kernel
theorem dX2_hear_47 : decode cX2_hear 47 = .ok (.aload_n 0, 1) := by decide +kernel
theorem dX2_hear_48 : decode cX2_hear 48 = .ok (.getfield 24, 3) := by decide +kernel
theorem dX2_hear_51 : decode cX2_hear 51 = .ok (.ireturn, 1) := by decide +kernel
theorem dX2_read_0 : decode cX2_read 0 = .ok (.aload_n 0, 1) := by decide +kernel
theorem dX2_read_1 : decode cX2_read 1 = .ok (.iconst 0, 1) := by decide +kernel
theorem dX2_read_2 : decode cX2_read 2 = .ok (.putfield 32, 3) := by decide +kernel
theorem dX2_read_5 : decode cX2_read 5 = .ok (.aload_n 0, 1) := by decide +kernel
theorem dX2_read_6 : decode cX2_read 6 = .ok (.iconst 0, 1) := by decide +kernel
theorem dX2_read_7 : decode cX2_read 7 = .ok (.putfield 35, 3) := by decide +kernel
theorem dX2_read_10 : decode cX2_read 10 = .ok (.aload_n 0, 1) := by decide +kernel
theorem dX2_read_11 : decode cX2_read 11 = .ok (.invokevirtual 38, 3) := by decide +kernel
theorem dX2_read_14 : decode cX2_read 14 = .ok (.istore_n 1, 1) := by decide +kernel
theorem dX2_read_15 : decode cX2_read 15 = .ok (.iconst 1, 1) := by decide +kernel
theorem dX2_read_16 : decode cX2_read 16 = .ok (.istore_n 2, 1) := by decide +kernel
theorem dX2_read_17 : decode cX2_read 17 = .ok (.iload_n 2, 1) := by decide +kernel
theorem dX2_read_18 : decode cX2_read 18 = .ok (.bipush 120, 2) := by decide +kernel
theorem dX2_read_20 : decode cX2_read 20 = .ok (.if_icmp .ge 27, 3) := by decide +kernel
theorem dX2_read_23 : decode cX2_read 23 = .ok (.iload_n 1, 1) := by decide +kernel
theorem dX2_read_24 : decode cX2_read 24 = .ok (.ifCond .eq 23, 3) := by decide +kernel
theorem dX2_read_27 : decode cX2_read 27 = .ok (.aload_n 0, 1) := by decide +kernel
theorem dX2_read_28 : decode cX2_read 28 = .ok (.ldc 42, 2) := by decide +kernel
theorem dX2_read_30 : decode cX2_read 30 = .ok (.invokevirtual 44, 3) := by decide +kernel
theorem dX2_read_33 : decode cX2_read 33 = .ok (.ifCond .eq 14, 3) := by decide +kernel
theorem dX2_read_36 : decode cX2_read 36 = .ok (.aload_n 0, 1) := by decide +kernel
theorem dX2_read_37 : decode cX2_read 37 = .ok (.invokevirtual 38, 3) := by decide +kernel
theorem dX2_read_40 : decode cX2_read 40 = .ok (.istore_n 1, 1) := by decide +kernel
theorem dX2_read_41 : decode cX2_read 41 = .ok (.iinc 2 1, 3) := by decide +kernel
theorem dX2_read_44 : decode cX2_read 44 = .ok (.goto (-27), 3) := by decide +kernel
theorem dX2_read_47 : decode cX2_read 47 = .ok (.iload_n 1, 1) := by decide +kernel
theorem dX2_read_48 : decode cX2_read 48 = .ok (.ifCond .eq 18, 3) := by decide +kernel
theorem dX2_read_51 : decode cX2_read 51 = .ok (.aload_n 0, 1) := by decide +kernel
theorem dX2_read_52 : decode cX2_read 52 = .ok (.getfield 32, 3) := by decide +kernel
theorem dX2_read_55 : decode cX2_read 55 = .ok (.aload_n 0, 1) := by decide +kernel
theorem dX2_read_56 : decode cX2_read 56 = .ok (.getfield 24, 3) := by decide +kernel
theorem dX2_read_59 : decode cX2_read 59 = .ok (.if_icmp .lt 7, 3) := by decide +kernel
theorem dX2_read_62 : decode cX2_read 62 = .ok (.iconst 1, 1) := by decide +kernel
theorem dX2_read_63 : decode cX2_read 63 = .ok (.goto 4, 3) := by decide +kernel
theorem dX2_read_66 : decode cX2_read 66 = .ok (.iconst 0, 1) := by decide +kernel
theorem dX2_read_67 : decode cX2_read 67 = .ok (.istore_n 2, 1) := by decide +kernel
theorem dX2_read_68 : decode cX2_read 68 = .ok (.aload_n 0, 1) := by decide +kernel
theorem dX2_read_69 : decode cX2_read 69 = .ok (.iconst 0, 1) := by decide +kernel
theorem dX2_read_70 : decode cX2_read 70 = .ok (.putfield 24, 3) := by decide +kernel
theorem dX2_read_73 : decode cX2_read 73 = .ok (.iload_n 2, 1) := by decide +kernel
theorem dX2_read_74 : decode cX2_read 74 = .ok (.ifCond .ne 8, 3) := by decide +kernel
theorem dX2_read_77 : decode cX2_read 77 = .ok (.aload_n 0, 1) := by decide +kernel
theorem dX2_read_78 : decode cX2_read 78 = .ok (.getfield 32, 3) := by decide +kernel
theorem dX2_read_81 : decode cX2_read 81 = .ok (.ireturn, 1) := by decide +kernel
theorem dX2_read_82 : decode cX2_read 82 = .ok (.aload_n 0, 1) := by decide +kernel
theorem dX2_read_83 : decode cX2_read 83 = .ok (.getfield 15, 3) := by decide +kernel
theorem dX2_read_86 : decode cX2_read 86 = .ok (.aload_n 0, 1) := by decide +kernel
theorem dX2_read_87 : decode cX2_read 87 = .ok (.getfield 18, 3) := by decide +kernel
theorem dX2_read_90 : decode cX2_read 90 = .ok (.aload_n 0, 1) := by decide +kernel
theorem dX2_read_91 : decode cX2_read 91 = .ok (.getfield 35, 3) := by decide +kernel
theorem dX2_read_94 : decode cX2_read 94 = .ok (.invokestatic 48, 3) := by decide +kernel
theorem dX2_read_97 : decode cX2_read 97 = .ok (.aload_n 0, 1) := by decide +kernel
theorem dX2_read_98 : decode cX2_read 98 = .ok (.aload_n 0, 1) := by decide +kernel
theorem dX2_read_99 : decode cX2_read 99 = .ok (.getfield 35, 3) := by decide +kernel
theorem dX2_read_102 : decode cX2_read 102 = .ok (.putfield 52, 3) := by decide +kernel
theorem dX2_read_105 : decode cX2_read 105 = .ok (.iconst (-1), 1) := by decide +kernel
theorem dX2_read_106 : decode cX2_read 106 = .ok (.ireturn, 1) := by decide +kernel
theorem dX2_readLine_0 : decode cX2_readLine 0 = .ok (.aload_n 0, 1) := by decide +kernel
theorem dX2_readLine_1 : decode cX2_readLine 1 = .ok (.iconst 0, 1) := by decide +kernel
theorem dX2_readLine_2 : decode cX2_readLine 2 = .ok (.iconst 0, 1) := by decide +kernel
theorem dX2_readLine_3 : decode cX2_readLine 3 = .ok (.invokevirtual 55, 3) := by decide +kernel
theorem dX2_readLine_6 : decode cX2_readLine 6 = .ok (.ifCond .ne 5, 3) := by decide +kernel
theorem dX2_readLine_9 : decode cX2_readLine 9 = .ok (.iconst 0, 1) := by decide +kernel
theorem dX2_readLine_10 : decode cX2_readLine 10 = .ok (.ireturn, 1) := by decide +kernel
theorem dX2_readLine_11 : decode cX2_readLine 11 = .ok (.aload_n 0, 1) := by decide +kernel
theorem dX2_readLine_12 : decode cX2_readLine 12 = .ok (.ldc 59, 2) := by decide +kernel
theorem dX2_readLine_14 : decode cX2_readLine 14 = .ok (.invokevirtual 44, 3) := by decide +kernel
theorem dX2_readLine_17 : decode cX2_readLine 17 = .ok (.ifCond .eq 20, 3) := by decide +kernel
theorem dX2_readLine_20 : decode cX2_readLine 20 = .ok (.aload_n 0, 1) := by decide +kernel
theorem dX2_readLine_21 : decode cX2_readLine 21 = .ok (.bipush (-63), 2) := by decide +kernel
theorem dX2_readLine_23 : decode cX2_readLine 23 = .ok (.invokevirtual 61, 3) := by decide +kernel
theorem dX2_readLine_26 : decode cX2_readLine 26 = .ok (.aload_n 0, 1) := by decide +kernel
theorem dX2_readLine_27 : decode cX2_readLine 27 = .ok (.iconst 0, 1) := by decide +kernel
theorem dX2_readLine_28 : decode cX2_readLine 28 = .ok (.iconst 0, 1) := by decide +kernel
theorem dX2_readLine_29 : decode cX2_readLine 29 = .ok (.invokevirtual 55, 3) := by decide +kernel
theorem dX2_readLine_32 : decode cX2_readLine 32 = .ok (.ifCond .ne 5, 3) := by decide +kernel
theorem dX2_readLine_35 : decode cX2_readLine 35 = .ok (.iconst 0, 1) := by decide +kernel
theorem dX2_readLine_36 : decode cX2_readLine 36 = .ok (.ireturn, 1) := by decide +kernel
theorem dX2_readLine_37 : decode cX2_readLine 37 = .ok (.aload_n 0, 1) := by decide +kernel
theorem dX2_readLine_38 : decode cX2_readLine 38 = .ok (.bipush (-59), 2) := by decide +kernel
theorem dX2_readLine_40 : decode cX2_readLine 40 = .ok (.invokevirtual 61, 3) := by decide +kernel
theorem dX2_readLine_43 : decode cX2_readLine 43 = .ok (.iconst 1, 1) := by decide +kernel
theorem dX2_readLine_44 : decode cX2_readLine 44 = .ok (.ireturn, 1) := by decide +kernel
theorem dX2_readLevel_0 : decode cX2_readLevel 0 = .ok (.iload_n 1, 1) := by decide +kernel
theorem dX2_readLevel_1 : decode cX2_readLevel 1 = .ok (.iconst 5, 1) := by decide +kernel
theorem dX2_readLevel_2 : decode cX2_readLevel 2 = .ok (.if_icmp .lt 9, 3) := by decide +kernel
theorem dX2_readLevel_5 : decode cX2_readLevel 5 = .ok (.aload_n 0, 1) := by decide +kernel
theorem dX2_readLevel_6 : decode cX2_readLevel 6 = .ok (.iload_n 2, 1) := by decide +kernel
theorem dX2_readLevel_7 : decode cX2_readLevel 7 = .ok (.invokevirtual 65, 3) := by decide +kernel
theorem dX2_readLevel_10 : decode cX2_readLevel 10 = .ok (.ireturn, 1) := by decide +kernel
theorem dX2_readLevel_11 : decode cX2_readLevel 11 = .ok (.aload_n 0, 1) := by decide +kernel
theorem dX2_readLevel_12 : decode cX2_readLevel 12 = .ok (.iload_n 1, 1) := by decide +kernel
theorem dX2_readLevel_13 : decode cX2_readLevel 13 = .ok (.iconst 1, 1) := by decide +kernel
theorem dX2_readLevel_14 : decode cX2_readLevel 14 = .ok (.iadd, 1) := by decide +kernel
theorem dX2_readLevel_15 : decode cX2_readLevel 15 = .ok (.iload_n 2, 1) := by decide +kernel
theorem dX2_readLevel_16 : decode cX2_readLevel 16 = .ok (.invokevirtual 55, 3) := by decide +kernel
theorem dX2_readLevel_19 : decode cX2_readLevel 19 = .ok (.ifCond .ne 5, 3) := by decide +kernel
theorem dX2_readLevel_22 : decode cX2_readLevel 22 = .ok (.iconst 0, 1) := by decide +kernel
theorem dX2_readLevel_23 : decode cX2_readLevel 23 = .ok (.ireturn, 1) := by decide +kernel
theorem dX2_readLevel_24 : decode cX2_readLevel 24 = .ok (.iload_n 1, 1) := by decide +kernel
theorem dX2_readLevel_25 : decode cX2_readLevel 25 = .ok (.iconst 2, 1) := by decide +kernel
theorem dX2_readLevel_26 : decode cX2_readLevel 26 = .ok (.if_icmp .ne 7, 3) := by decide +kernel
theorem dX2_readLevel_29 : decode cX2_readLevel 29 = .ok (.iconst 1, 1) := by decide +kernel
theorem dX2_readLevel_30 : decode cX2_readLevel 30 = .ok (.goto 5, 3) := by decide +kernel
theorem dX2_readLevel_33 : decode cX2_readLevel 33 = .ok (.bipush 120, 2) := by decide +kernel
theorem dX2_readLevel_35 : decode cX2_readLevel 35 = .ok (.istore_n 3, 1) := by decide +kernel
theorem dX2_readLevel_36 : decode cX2_readLevel 36 = .ok (.iconst 0, 1) := by decide +kernel
theorem dX2_readLevel_37 : decode cX2_readLevel 37 = .ok (.istore 4, 2) := by decide +kernel
theorem dX2_readLevel_39 : decode cX2_readLevel 39 = .ok (.iload 4, 2) := by decide +kernel
theorem dX2_readLevel_41 : decode cX2_readLevel 41 = .ok (.iload_n 3, 1) := by decide +kernel
theorem dX2_readLevel_42 : decode cX2_readLevel 42 = .ok (.if_icmp .ge 46, 3) := by decide +kernel
theorem dX2_readLevel_45 : decode cX2_readLevel 45 = .ok (.aload_n 0, 1) := by decide +kernel
theorem dX2_readLevel_46 : decode cX2_readLevel 46 = .ok (.iload_n 1, 1) := by decide +kernel
theorem dX2_readLevel_47 : decode cX2_readLevel 47 = .ok (.invokestatic 69, 3) := by decide +kernel
theorem dX2_readLevel_50 : decode cX2_readLevel 50 = .ok (.invokevirtual 44, 3) := by decide +kernel
theorem dX2_readLevel_53 : decode cX2_readLevel 53 = .ok (.istore 5, 2) := by decide +kernel
theorem dX2_readLevel_55 : decode cX2_readLevel 55 = .ok (.iload 5, 2) := by decide +kernel
theorem dX2_readLevel_57 : decode cX2_readLevel 57 = .ok (.ifCond .ne 5, 3) := by decide +kernel
theorem dX2_readLevel_60 : decode cX2_readLevel 60 = .ok (.iconst 1, 1) := by decide +kernel
theorem dX2_readLevel_61 : decode cX2_readLevel 61 = .ok (.ireturn, 1) := by decide +kernel
theorem dX2_readLevel_62 : decode cX2_readLevel 62 = .ok (.aload_n 0, 1) := by decide +kernel
theorem dX2_readLevel_63 : decode cX2_readLevel 63 = .ok (.iload_n 1, 1) := by decide +kernel
theorem dX2_readLevel_64 : decode cX2_readLevel 64 = .ok (.iconst 1, 1) := by decide +kernel
theorem dX2_readLevel_65 : decode cX2_readLevel 65 = .ok (.iadd, 1) := by decide +kernel
theorem dX2_readLevel_66 : decode cX2_readLevel 66 = .ok (.iload_n 2, 1) := by decide +kernel
theorem dX2_readLevel_67 : decode cX2_readLevel 67 = .ok (.invokevirtual 55, 3) := by decide +kernel
theorem dX2_readLevel_70 : decode cX2_readLevel 70 = .ok (.ifCond .ne 5, 3) := by decide +kernel
theorem dX2_readLevel_73 : decode cX2_readLevel 73 = .ok (.iconst 0, 1) := by decide +kernel
theorem dX2_readLevel_74 : decode cX2_readLevel 74 = .ok (.ireturn, 1) := by decide +kernel
theorem dX2_readLevel_75 : decode cX2_readLevel 75 = .ok (.aload_n 0, 1) := by decide +kernel
theorem dX2_readLevel_76 : decode cX2_readLevel 76 = .ok (.iload 5, 2) := by decide +kernel
theorem dX2_readLevel_78 : decode cX2_readLevel 78 = .ok (.ineg, 1) := by decide +kernel
theorem dX2_readLevel_79 : decode cX2_readLevel 79 = .ok (.invokevirtual 61, 3) := by decide +kernel
theorem dX2_readLevel_82 : decode cX2_readLevel 82 = .ok (.iinc 4 1, 3) := by decide +kernel
theorem dX2_readLevel_85 : decode cX2_readLevel 85 = .ok (.goto (-46), 3) := by decide +kernel
theorem dX2_readLevel_88 : decode cX2_readLevel 88 = .ok (.iconst 1, 1) := by decide +kernel
theorem dX2_readLevel_89 : decode cX2_readLevel 89 = .ok (.ireturn, 1) := by decide +kernel
theorem dX2_signsOf_0 : decode cX2_signsOf 0 = .ok (.iload_n 0, 1) := by decide +kernel
theorem dX2_signsOf_1 : decode cX2_signsOf 1 = .ok (.tableswitch 43 0 3 #[31, 34, 37, 40], 31) := by decide +kernel
theorem dX2_signsOf_32 : decode cX2_signsOf 32 = .ok (.ldc 73, 2) := by decide +kernel
theorem dX2_signsOf_34 : decode cX2_signsOf 34 = .ok (.areturn, 1) := by decide +kernel
theorem dX2_signsOf_35 : decode cX2_signsOf 35 = .ok (.ldc 75, 2) := by decide +kernel
theorem dX2_signsOf_37 : decode cX2_signsOf 37 = .ok (.areturn, 1) := by decide +kernel
theorem dX2_signsOf_38 : decode cX2_signsOf 38 = .ok (.ldc 77, 2) := by decide +kernel
theorem dX2_signsOf_40 : decode cX2_signsOf 40 = .ok (.areturn, 1) := by decide +kernel
theorem dX2_signsOf_41 : decode cX2_signsOf 41 = .ok (.ldc 79, 2) := by decide +kernel
theorem dX2_signsOf_43 : decode cX2_signsOf 43 = .ok (.areturn, 1) := by decide +kernel
theorem dX2_signsOf_44 : decode cX2_signsOf 44 = .ok (.ldc 81, 2) := by decide +kernel
theorem dX2_signsOf_46 : decode cX2_signsOf 46 = .ok (.areturn, 1) := by decide +kernel
theorem dX2_readSingle_0 : decode cX2_readSingle 0 = .ok (.aload_n 0, 1) := by decide +kernel
theorem dX2_readSingle_1 : decode cX2_readSingle 1 = .ok (.invokevirtual 83, 3) := by decide +kernel
theorem dX2_readSingle_4 : decode cX2_readSingle 4 = .ok (.invokestatic 87, 3) := by decide +kernel
theorem dX2_readSingle_7 : decode cX2_readSingle 7 = .ok (.ifCond .eq 8, 3) := by decide +kernel
theorem dX2_readSingle_10 : decode cX2_readSingle 10 = .ok (.aload_n 0, 1) := by decide +kernel
theorem dX2_readSingle_11 : decode cX2_readSingle 11 = .ok (.invokevirtual 90, 3) := by decide +kernel
theorem dX2_readSingle_14 : decode cX2_readSingle 14 = .ok (.ireturn, 1) := by decide +kernel
theorem dX2_readSingle_15 : decode cX2_readSingle 15 = .ok (.aload_n 0, 1) := by decide +kernel
theorem dX2_readSingle_16 : decode cX2_readSingle 16 = .ok (.ldc 93, 2) := by decide +kernel
theorem dX2_readSingle_18 : decode cX2_readSingle 18 = .ok (.invokevirtual 44, 3) := by decide +kernel
theorem dX2_readSingle_21 : decode cX2_readSingle 21 = .ok (.istore_n 2, 1) := by decide +kernel
theorem dX2_readSingle_22 : decode cX2_readSingle 22 = .ok (.iload_n 2, 1) := by decide +kernel
theorem dX2_readSingle_23 : decode cX2_readSingle 23 = .ok (.ifCond .eq 18, 3) := by decide +kernel
theorem dX2_readSingle_26 : decode cX2_readSingle 26 = .ok (.aload_n 0, 1) := by decide +kernel
theorem dX2_readSingle_27 : decode cX2_readSingle 27 = .ok (.iconst (-1), 1) := by decide +kernel
theorem dX2_readSingle_28 : decode cX2_readSingle 28 = .ok (.ldc 93, 2) := by decide +kernel
theorem dX2_readSingle_30 : decode cX2_readSingle 30 = .ok (.iload_n 2, 1) := by decide +kernel
theorem dX2_readSingle_31 : decode cX2_readSingle 31 = .ok (.i2c, 1) := by decide +kernel
theorem dX2_readSingle_32 : decode cX2_readSingle 32 = .ok (.invokevirtual 95, 3) := by decide +kernel
theorem dX2_readSingle_35 : decode cX2_readSingle 35 = .ok (.isub, 1) := by decide +kernel
theorem dX2_readSingle_36 : decode cX2_readSingle 36 = .ok (.invokevirtual 61, 3) := by decide +kernel
theorem dX2_readSingle_39 : decode cX2_readSingle 39 = .ok (.iconst 1, 1) := by decide +kernel
theorem dX2_readSingle_40 : decode cX2_readSingle 40 = .ok (.ireturn, 1) := by decide +kernel
theorem dX2_readSingle_41 : decode cX2_readSingle 41 = .ok (.iload_n 1, 1) := by decide +kernel
theorem dX2_readSingle_42 : decode cX2_readSingle 42 = .ok (.bipush 6, 2) := by decide +kernel
theorem dX2_readSingle_44 : decode cX2_readSingle 44 = .ok (.if_icmp .lt 5, 3) := by decide +kernel
theorem dX2_readSingle_47 : decode cX2_readSingle 47 = .ok (.iconst 0, 1) := by decide +kernel
theorem dX2_readSingle_48 : decode cX2_readSingle 48 = .ok (.ireturn, 1) := by decide +kernel
theorem dX2_readSingle_49 : decode cX2_readSingle 49 = .ok (.aload_n 0, 1) := by decide +kernel
theorem dX2_readSingle_50 : decode cX2_readSingle 50 = .ok (.ldc 101, 2) := by decide +kernel
theorem dX2_readSingle_52 : decode cX2_readSingle 52 = .ok (.invokevirtual 44, 3) := by decide +kernel
theorem dX2_readSingle_55 : decode cX2_readSingle 55 = .ok (.ifCond .eq 29, 3) := by decide +kernel
theorem dX2_readSingle_58 : decode cX2_readSingle 58 = .ok (.aload_n 0, 1) := by decide +kernel
theorem dX2_readSingle_59 : decode cX2_readSingle 59 = .ok (.iconst 0, 1) := by decide +kernel
theorem dX2_readSingle_60 : decode cX2_readSingle 60 = .ok (.iload_n 1, 1) := by decide +kernel
theorem dX2_readSingle_61 : decode cX2_readSingle 61 = .ok (.iconst 1, 1) := by decide +kernel
theorem dX2_readSingle_62 : decode cX2_readSingle 62 = .ok (.iadd, 1) := by decide +kernel
theorem dX2_readSingle_63 : decode cX2_readSingle 63 = .ok (.invokevirtual 55, 3) := by decide +kernel
theorem dX2_readSingle_66 : decode cX2_readSingle 66 = .ok (.ifCond .eq 16, 3) := by decide +kernel
theorem dX2_readSingle_69 : decode cX2_readSingle 69 = .ok (.aload_n 0, 1) := by decide +kernel
theorem dX2_readSingle_70 : decode cX2_readSingle 70 = .ok (.ldc 103, 2) := by decide +kernel
theorem dX2_readSingle_72 : decode cX2_readSingle 72 = .ok (.invokevirtual 44, 3) := by decide +kernel
theorem dX2_readSingle_75 : decode cX2_readSingle 75 = .ok (.ifCond .eq 7, 3) := by decide +kernel
theorem dX2_readSingle_78 : decode cX2_readSingle 78 = .ok (.iconst 1, 1) := by decide +kernel
theorem dX2_readSingle_79 : decode cX2_readSingle 79 = .ok (.goto 4, 3) := by decide +kernel
theorem dX2_readSingle_82 : decode cX2_readSingle 82 = .ok (.iconst 0, 1) := by decide +kernel
theorem dX2_readSingle_83 : decode cX2_readSingle 83 = .ok (.ireturn, 1) := by decide +kernel
theorem dX2_readSingle_84 : decode cX2_readSingle 84 = .ok (.aload_n 0, 1) := by decide +kernel
theorem dX2_readSingle_85 : decode cX2_readSingle 85 = .ok (.ldc 105, 2) := by decide +kernel
theorem dX2_readSingle_87 : decode cX2_readSingle 87 = .ok (.invokevirtual 44, 3) := by decide +kernel
theorem dX2_readSingle_90 : decode cX2_readSingle 90 = .ok (.istore_n 3, 1) := by decide +kernel
theorem dX2_readSingle_91 : decode cX2_readSingle 91 = .ok (.iload_n 3, 1) := by decide +kernel
theorem dX2_readSingle_92 : decode cX2_readSingle 92 = .ok (.ifCond .eq 13, 3) := by decide +kernel
theorem dX2_readSingle_95 : decode cX2_readSingle 95 = .ok (.aload_n 0, 1) := by decide +kernel
theorem dX2_readSingle_96 : decode cX2_readSingle 96 = .ok (.iload_n 1, 1) := by decide +kernel
theorem dX2_readSingle_97 : decode cX2_readSingle 97 = .ok (.iconst 1, 1) := by decide +kernel
theorem dX2_readSingle_98 : decode cX2_readSingle 98 = .ok (.iadd, 1) := by decide +kernel
theorem dX2_readSingle_99 : decode cX2_readSingle 99 = .ok (.invokevirtual 65, 3) := by decide +kernel
theorem dX2_readSingle_102 : decode cX2_readSingle 102 = .ok (.ifCond .ne 5, 3) := by decide +kernel
theorem dX2_readSingle_105 : decode cX2_readSingle 105 = .ok (.iconst 0, 1) := by decide +kernel
theorem dX2_readSingle_106 : decode cX2_readSingle 106 = .ok (.ireturn, 1) := by decide +kernel
theorem dX2_readSingle_107 : decode cX2_readSingle 107 = .ok (.aload_n 0, 1) := by decide +kernel
theorem dX2_readSingle_108 : decode cX2_readSingle 108 = .ok (.iload_n 3, 1) := by decide +kernel
theorem dX2_readSingle_109 : decode cX2_readSingle 109 = .ok (.bipush 33, 2) := by decide +kernel
theorem dX2_readSingle_111 : decode cX2_readSingle 111 = .ok (.if_icmp .ne 8, 3) := by decide +kernel
theorem dX2_readSingle_114 : decode cX2_readSingle 114 = .ok (.bipush (-33), 2) := by decide +kernel
theorem dX2_readSingle_116 : decode cX2_readSingle 116 = .ok (.goto 5, 3) := by decide +kernel
theorem dX2_readSingle_119 : decode cX2_readSingle 119 = .ok (.bipush (-126), 2) := by decide +kernel
theorem dX2_readSingle_121 : decode cX2_readSingle 121 = .ok (.invokevirtual 61, 3) := by decide +kernel
theorem dX2_readSingle_124 : decode cX2_readSingle 124 = .ok (.iconst 1, 1) := by decide +kernel
theorem dX2_readSingle_125 : decode cX2_readSingle 125 = .ok (.ireturn, 1) := by decide +kernel
theorem dX2_readNumber_0 : decode cX2_readNumber 0 = .ok (.iconst 0, 1) := by decide +kernel
theorem dX2_readNumber_1 : decode cX2_readNumber 1 = .ok (.istore_n 1, 1) := by decide +kernel
theorem dX2_readNumber_2 : decode cX2_readNumber 2 = .ok (.iconst 0, 1) := by decide +kernel
theorem dX2_readNumber_3 : decode cX2_readNumber 3 = .ok (.istore_n 2, 1) := by decide +kernel
theorem dX2_readNumber_4 : decode cX2_readNumber 4 = .ok (.iload_n 2, 1) := by decide +kernel
theorem dX2_readNumber_5 : decode cX2_readNumber 5 = .ok (.iconst 4, 1) := by decide +kernel
theorem dX2_readNumber_6 : decode cX2_readNumber 6 = .ok (.if_icmp .ge 42, 3) := by decide +kernel
theorem dX2_readNumber_9 : decode cX2_readNumber 9 = .ok (.aload_n 0, 1) := by decide +kernel
theorem dX2_readNumber_10 : decode cX2_readNumber 10 = .ok (.invokevirtual 83, 3) := by decide +kernel
theorem dX2_readNumber_13 : decode cX2_readNumber 13 = .ok (.invokestatic 87, 3) := by decide +kernel
theorem dX2_readNumber_16 : decode cX2_readNumber 16 = .ok (.ifCond .eq 32, 3) := by decide +kernel
theorem dX2_readNumber_19 : decode cX2_readNumber 19 = .ok (.iload_n 1, 1) := by decide +kernel
theorem dX2_readNumber_20 : decode cX2_readNumber 20 = .ok (.bipush 10, 2) := by decide +kernel
theorem dX2_readNumber_22 : decode cX2_readNumber 22 = .ok (.imul, 1) := by decide +kernel
theorem dX2_readNumber_23 : decode cX2_readNumber 23 = .ok (.aload_n 0, 1) := by decide +kernel
theorem dX2_readNumber_24 : decode cX2_readNumber 24 = .ok (.invokevirtual 83, 3) := by decide +kernel
theorem dX2_readNumber_27 : decode cX2_readNumber 27 = .ok (.iadd, 1) := by decide +kernel
theorem dX2_readNumber_28 : decode cX2_readNumber 28 = .ok (.bipush 48, 2) := by decide +kernel
theorem dX2_readNumber_30 : decode cX2_readNumber 30 = .ok (.isub, 1) := by decide +kernel
theorem dX2_readNumber_31 : decode cX2_readNumber 31 = .ok (.istore_n 1, 1) := by decide +kernel
theorem dX2_readNumber_32 : decode cX2_readNumber 32 = .ok (.aload_n 0, 1) := by decide +kernel
theorem dX2_readNumber_33 : decode cX2_readNumber 33 = .ok (.dup, 1) := by decide +kernel
theorem dX2_readNumber_34 : decode cX2_readNumber 34 = .ok (.getfield 32, 3) := by decide +kernel
theorem dX2_readNumber_37 : decode cX2_readNumber 37 = .ok (.iconst 1, 1) := by decide +kernel
theorem dX2_readNumber_38 : decode cX2_readNumber 38 = .ok (.iadd, 1) := by decide +kernel
theorem dX2_readNumber_39 : decode cX2_readNumber 39 = .ok (.putfield 32, 3) := by decide +kernel
theorem dX2_readNumber_42 : decode cX2_readNumber 42 = .ok (.iinc 2 1, 3) := by decide +kernel
theorem dX2_readNumber_45 : decode cX2_readNumber 45 = .ok (.goto (-41), 3) := by decide +kernel
theorem dX2_readNumber_48 : decode cX2_readNumber 48 = .ok (.aload_n 0, 1) := by decide +kernel
theorem dX2_readNumber_49 : decode cX2_readNumber 49 = .ok (.iload_n 1, 1) := by decide +kernel
theorem dX2_readNumber_50 : decode cX2_readNumber 50 = .ok (.invokevirtual 61, 3) := by decide +kernel
theorem dX2_readNumber_53 : decode cX2_readNumber 53 = .ok (.iconst 1, 1) := by decide +kernel
theorem dX2_readNumber_54 : decode cX2_readNumber 54 = .ok (.ireturn, 1) := by decide +kernel
theorem dX2_isDigit_0 : decode cX2_isDigit 0 = .ok (.iload_n 0, 1) := by decide +kernel
theorem dX2_isDigit_1 : decode cX2_isDigit 1 = .ok (.bipush 48, 2) := by decide +kernel
theorem dX2_isDigit_3 : decode cX2_isDigit 3 = .ok (.if_icmp .lt 13, 3) := by decide +kernel
theorem dX2_isDigit_6 : decode cX2_isDigit 6 = .ok (.iload_n 0, 1) := by decide +kernel
theorem dX2_isDigit_7 : decode cX2_isDigit 7 = .ok (.bipush 57, 2) := by decide +kernel
theorem dX2_isDigit_9 : decode cX2_isDigit 9 = .ok (.if_icmp .gt 7, 3) := by decide +kernel
theorem dX2_isDigit_12 : decode cX2_isDigit 12 = .ok (.iconst 1, 1) := by decide +kernel
theorem dX2_isDigit_13 : decode cX2_isDigit 13 = .ok (.goto 4, 3) := by decide +kernel
theorem dX2_isDigit_16 : decode cX2_isDigit 16 = .ok (.iconst 0, 1) := by decide +kernel
theorem dX2_isDigit_17 : decode cX2_isDigit 17 = .ok (.ireturn, 1) := by decide +kernel
theorem dX2_seen_0 : decode cX2_seen 0 = .ok (.aload_n 0, 1) := by decide +kernel
theorem dX2_seen_1 : decode cX2_seen 1 = .ok (.getfield 32, 3) := by decide +kernel
theorem dX2_seen_4 : decode cX2_seen 4 = .ok (.aload_n 0, 1) := by decide +kernel
theorem dX2_seen_5 : decode cX2_seen 5 = .ok (.getfield 24, 3) := by decide +kernel
theorem dX2_seen_8 : decode cX2_seen 8 = .ok (.if_icmp .ge 17, 3) := by decide +kernel
theorem dX2_seen_11 : decode cX2_seen 11 = .ok (.aload_n 0, 1) := by decide +kernel
theorem dX2_seen_12 : decode cX2_seen 12 = .ok (.getfield 11, 3) := by decide +kernel
theorem dX2_seen_15 : decode cX2_seen 15 = .ok (.aload_n 0, 1) := by decide +kernel
theorem dX2_seen_16 : decode cX2_seen 16 = .ok (.getfield 32, 3) := by decide +kernel
theorem dX2_seen_19 : decode cX2_seen 19 = .ok (.invokestatic 107, 3) := by decide +kernel
theorem dX2_seen_22 : decode cX2_seen 22 = .ok (.goto 4, 3) := by decide +kernel
theorem dX2_seen_25 : decode cX2_seen 25 = .ok (.iconst (-1), 1) := by decide +kernel
theorem dX2_seen_26 : decode cX2_seen 26 = .ok (.ireturn, 1) := by decide +kernel
theorem dX2_passed_0 : decode cX2_passed 0 = .ok (.aload_n 0, 1) := by decide +kernel
theorem dX2_passed_1 : decode cX2_passed 1 = .ok (.invokevirtual 83, 3) := by decide +kernel
theorem dX2_passed_4 : decode cX2_passed 4 = .ok (.istore_n 2, 1) := by decide +kernel
theorem dX2_passed_5 : decode cX2_passed 5 = .ok (.iload_n 2, 1) := by decide +kernel
theorem dX2_passed_6 : decode cX2_passed 6 = .ok (.ifCond .le 12, 3) := by decide +kernel
theorem dX2_passed_9 : decode cX2_passed 9 = .ok (.aload_n 1, 1) := by decide +kernel
theorem dX2_passed_10 : decode cX2_passed 10 = .ok (.iload_n 2, 1) := by decide +kernel
theorem dX2_passed_11 : decode cX2_passed 11 = .ok (.i2c, 1) := by decide +kernel
theorem dX2_passed_12 : decode cX2_passed 12 = .ok (.invokevirtual 95, 3) := by decide +kernel
theorem dX2_passed_15 : decode cX2_passed 15 = .ok (.ifCond .ge 5, 3) := by decide +kernel
theorem dX2_passed_18 : decode cX2_passed 18 = .ok (.iconst 0, 1) := by decide +kernel
theorem dX2_passed_19 : decode cX2_passed 19 = .ok (.ireturn, 1) := by decide +kernel
theorem dX2_passed_20 : decode cX2_passed 20 = .ok (.aload_n 0, 1) := by decide +kernel
theorem dX2_passed_21 : decode cX2_passed 21 = .ok (.dup, 1) := by decide +kernel
theorem dX2_passed_22 : decode cX2_passed 22 = .ok (.getfield 32, 3) := by decide +kernel
theorem dX2_passed_25 : decode cX2_passed 25 = .ok (.iconst 1, 1) := by decide +kernel
theorem dX2_passed_26 : decode cX2_passed 26 = .ok (.iadd, 1) := by decide +kernel
theorem dX2_passed_27 : decode cX2_passed 27 = .ok (.putfield 32, 3) := by decide +kernel
theorem dX2_passed_30 : decode cX2_passed 30 = .ok (.iload_n 2, 1) := by decide +kernel
theorem dX2_passed_31 : decode cX2_passed 31 = .ok (.ireturn, 1) := by decide +kernel
theorem dX2_emit_0 : decode cX2_emit 0 = .ok (.aload_n 0, 1) := by decide +kernel
theorem dX2_emit_1 : decode cX2_emit 1 = .ok (.getfield 15, 3) := by decide +kernel
theorem dX2_emit_4 : decode cX2_emit 4 = .ok (.aload_n 0, 1) := by decide +kernel
theorem dX2_emit_5 : decode cX2_emit 5 = .ok (.getfield 35, 3) := by decide +kernel
theorem dX2_emit_8 : decode cX2_emit 8 = .ok (.iload_n 1, 1) := by decide +kernel
theorem dX2_emit_9 : decode cX2_emit 9 = .ok (.invokestatic 28, 3) := by decide +kernel
theorem dX2_emit_12 : decode cX2_emit 12 = .ok (.aload_n 0, 1) := by decide +kernel
theorem dX2_emit_13 : decode cX2_emit 13 = .ok (.dup, 1) := by decide +kernel
theorem dX2_emit_14 : decode cX2_emit 14 = .ok (.getfield 35, 3) := by decide +kernel
theorem dX2_emit_17 : decode cX2_emit 17 = .ok (.iconst 1, 1) := by decide +kernel
theorem dX2_emit_18 : decode cX2_emit 18 = .ok (.iadd, 1) := by decide +kernel
theorem dX2_emit_19 : decode cX2_emit 19 = .ok (.putfield 35, 3) := by decide +kernel
theorem dX2_emit_22 : decode cX2_emit 22 = .ok (.return_, 1) := by decide +kernel
theorem dX2_value_0 : decode cX2_value 0 = .ok (.aload_n 0, 1) := by decide +kernel
theorem dX2_value_1 : decode cX2_value 1 = .ok (.getfield 52, 3) := by decide +kernel
theorem dX2_value_4 : decode cX2_value 4 = .ok (.ifCond .ne 16, 3) := by decide +kernel
theorem dX2_value_7 : decode cX2_value 7 = .ok (.iload_n 1, 1) := by decide +kernel
theorem dX2_value_8 : decode cX2_value 8 = .ok (.iload_n 2, 1) := by decide +kernel
theorem dX2_value_9 : decode cX2_value 9 = .ok (.iload_n 3, 1) := by decide +kernel
theorem dX2_value_10 : decode cX2_value 10 = .ok (.iadd, 1) := by decide +kernel
theorem dX2_value_11 : decode cX2_value 11 = .ok (.if_icmp .gt 7, 3) := by decide +kernel
theorem dX2_value_14 : decode cX2_value 14 = .ok (.iconst 1, 1) := by decide +kernel
theorem dX2_value_15 : decode cX2_value 15 = .ok (.goto 4, 3) := by decide +kernel
theorem dX2_value_18 : decode cX2_value 18 = .ok (.iconst 0, 1) := by decide +kernel
theorem dX2_value_19 : decode cX2_value 19 = .ok (.ireturn, 1) := by decide +kernel
theorem dX2_value_20 : decode cX2_value 20 = .ok (.iconst 0, 1) := by decide +kernel
theorem dX2_value_21 : decode cX2_value 21 = .ok (.istore 7, 2) := by decide +kernel
theorem dX2_value_23 : decode cX2_value 23 = .ok (.iconst 1, 1) := by decide +kernel
theorem dX2_value_24 : decode cX2_value 24 = .ok (.istore 8, 2) := by decide +kernel
theorem dX2_value_26 : decode cX2_value 26 = .ok (.iconst 0, 1) := by decide +kernel
theorem dX2_value_27 : decode cX2_value 27 = .ok (.istore 9, 2) := by decide +kernel
theorem dX2_value_29 : decode cX2_value 29 = .ok (.iload 9, 2) := by decide +kernel
theorem dX2_value_31 : decode cX2_value 31 = .ok (.aload_n 0, 1) := by decide +kernel
theorem dX2_value_32 : decode cX2_value 32 = .ok (.getfield 52, 3) := by decide +kernel
theorem dX2_value_35 : decode cX2_value 35 = .ok (.if_icmp .ge 211, 3) := by decide +kernel
theorem dX2_value_38 : decode cX2_value 38 = .ok (.aload_n 0, 1) := by decide +kernel
theorem dX2_value_39 : decode cX2_value 39 = .ok (.getfield 18, 3) := by decide +kernel
theorem dX2_value_42 : decode cX2_value 42 = .ok (.iload 9, 2) := by decide +kernel
theorem dX2_value_44 : decode cX2_value 44 = .ok (.invokestatic 107, 3) := by decide +kernel
theorem dX2_value_47 : decode cX2_value 47 = .ok (.istore 10, 2) := by decide +kernel
theorem dX2_value_49 : decode cX2_value 49 = .ok (.iload 10, 2) := by decide +kernel
theorem dX2_value_51 : decode cX2_value 51 = .ok (.ldc 93, 2) := by decide +kernel
theorem dX2_value_53 : decode cX2_value 53 = .ok (.invokevirtual 111, 3) := by decide +kernel
theorem dX2_value_56 : decode cX2_value 56 = .ok (.ineg, 1) := by decide +kernel
theorem dX2_value_57 : decode cX2_value 57 = .ok (.if_icmp .lt 44, 3) := by decide +kernel
theorem dX2_value_60 : decode cX2_value 60 = .ok (.aload_n 0, 1) := by decide +kernel
theorem dX2_value_61 : decode cX2_value 61 = .ok (.getfield 21, 3) := by decide +kernel
theorem dX2_value_64 : decode cX2_value 64 = .ok (.iload 7, 2) := by decide +kernel
theorem dX2_value_66 : decode cX2_value 66 = .ok (.iload 10, 2) := by decide +kernel
theorem dX2_value_68 : decode cX2_value 68 = .ok (.ifCond .lt 8, 3) := by decide +kernel
theorem dX2_value_71 : decode cX2_value 71 = .ok (.iload 10, 2) := by decide +kernel
theorem dX2_value_73 : decode cX2_value 73 = .ok (.goto 19, 3) := by decide +kernel
theorem dX2_value_76 : decode cX2_value 76 = .ok (.iconst (-1), 1) := by decide +kernel
theorem dX2_value_77 : decode cX2_value 77 = .ok (.iload 10, 2) := by decide +kernel
theorem dX2_value_79 : decode cX2_value 79 = .ok (.isub, 1) := by decide +kernel
theorem dX2_value_80 : decode cX2_value 80 = .ok (.iload_n 1, 1) := by decide +kernel
theorem dX2_value_81 : decode cX2_value 81 = .ok (.iload_n 2, 1) := by decide +kernel
theorem dX2_value_82 : decode cX2_value 82 = .ok (.iload_n 3, 1) := by decide +kernel
theorem dX2_value_83 : decode cX2_value 83 = .ok (.iload 4, 2) := by decide +kernel
theorem dX2_value_85 : decode cX2_value 85 = .ok (.iload 5, 2) := by decide +kernel
theorem dX2_value_87 : decode cX2_value 87 = .ok (.iload 6, 2) := by decide +kernel
theorem dX2_value_89 : decode cX2_value 89 = .ok (.invokestatic 113, 3) := by decide +kernel
theorem dX2_value_92 : decode cX2_value 92 = .ok (.invokestatic 28, 3) := by decide +kernel
theorem dX2_value_95 : decode cX2_value 95 = .ok (.iinc 7 1, 3) := by decide +kernel
theorem dX2_value_98 : decode cX2_value 98 = .ok (.goto 142, 3) := by decide +kernel
theorem dX2_value_101 : decode cX2_value 101 = .ok (.iload 10, 2) := by decide +kernel
theorem dX2_value_103 : decode cX2_value 103 = .ok (.bipush (-33), 2) := by decide +kernel
theorem dX2_value_105 : decode cX2_value 105 = .ok (.if_icmp .eq 10, 3) := by decide +kernel
theorem dX2_value_108 : decode cX2_value 108 = .ok (.iload 10, 2) := by decide +kernel
theorem dX2_value_110 : decode cX2_value 110 = .ok (.bipush (-126), 2) := by decide +kernel
theorem dX2_value_112 : decode cX2_value 112 = .ok (.if_icmp .ne 34, 3) := by decide +kernel
theorem dX2_value_115 : decode cX2_value 115 = .ok (.aload_n 0, 1) := by decide +kernel
theorem dX2_value_116 : decode cX2_value 116 = .ok (.getfield 21, 3) := by decide +kernel
theorem dX2_value_119 : decode cX2_value 119 = .ok (.iload 7, 2) := by decide +kernel
theorem dX2_value_121 : decode cX2_value 121 = .ok (.iconst 1, 1) := by decide +kernel
theorem dX2_value_122 : decode cX2_value 122 = .ok (.isub, 1) := by decide +kernel
theorem dX2_value_123 : decode cX2_value 123 = .ok (.iload 10, 2) := by decide +kernel
theorem dX2_value_125 : decode cX2_value 125 = .ok (.ineg, 1) := by decide +kernel
theorem dX2_value_126 : decode cX2_value 126 = .ok (.aload_n 0, 1) := by decide +kernel
theorem dX2_value_127 : decode cX2_value 127 = .ok (.getfield 21, 3) := by decide +kernel
theorem dX2_value_130 : decode cX2_value 130 = .ok (.iload 7, 2) := by decide +kernel
theorem dX2_value_132 : decode cX2_value 132 = .ok (.iconst 1, 1) := by decide +kernel
theorem dX2_value_133 : decode cX2_value 133 = .ok (.isub, 1) := by decide +kernel
theorem dX2_value_134 : decode cX2_value 134 = .ok (.invokestatic 107, 3) := by decide +kernel
theorem dX2_value_137 : decode cX2_value 137 = .ok (.invokestatic 117, 3) := by decide +kernel
theorem dX2_value_140 : decode cX2_value 140 = .ok (.invokestatic 28, 3) := by decide +kernel
theorem dX2_value_143 : decode cX2_value 143 = .ok (.goto 97, 3) := by decide +kernel
theorem dX2_value_146 : decode cX2_value 146 = .ok (.iinc 7 (-1), 3) := by decide +kernel
theorem dX2_value_149 : decode cX2_value 149 = .ok (.aload_n 0, 1) := by decide +kernel
theorem dX2_value_150 : decode cX2_value 150 = .ok (.getfield 21, 3) := by decide +kernel
theorem dX2_value_153 : decode cX2_value 153 = .ok (.iload 7, 2) := by decide +kernel
theorem dX2_value_155 : decode cX2_value 155 = .ok (.invokestatic 107, 3) := by decide +kernel
theorem dX2_value_158 : decode cX2_value 158 = .ok (.istore 11, 2) := by decide +kernel
theorem dX2_value_160 : decode cX2_value 160 = .ok (.iload 10, 2) := by decide +kernel
theorem dX2_value_162 : decode cX2_value 162 = .ok (.bipush (-59), 2) := by decide +kernel
theorem dX2_value_164 : decode cX2_value 164 = .ok (.if_icmp .ne 11, 3) := by decide +kernel
theorem dX2_value_167 : decode cX2_value 167 = .ok (.iload 8, 2) := by decide +kernel
theorem dX2_value_169 : decode cX2_value 169 = .ok (.ifCond .eq 6, 3) := by decide +kernel
theorem dX2_value_172 : decode cX2_value 172 = .ok (.iload 11, 2) := by decide +kernel
theorem dX2_value_174 : decode cX2_value 174 = .ok (.ireturn, 1) := by decide +kernel
theorem dX2_value_175 : decode cX2_value 175 = .ok (.iload 10, 2) := by decide +kernel
theorem dX2_value_177 : decode cX2_value 177 = .ok (.bipush (-59), 2) := by decide +kernel
theorem dX2_value_179 : decode cX2_value 179 = .ok (.if_icmp .ne 9, 3) := by decide +kernel
theorem dX2_value_182 : decode cX2_value 182 = .ok (.iconst 1, 1) := by decide +kernel
theorem dX2_value_183 : decode cX2_value 183 = .ok (.istore 8, 2) := by decide +kernel
theorem dX2_value_185 : decode cX2_value 185 = .ok (.goto 55, 3) := by decide +kernel
theorem dX2_value_188 : decode cX2_value 188 = .ok (.iload 10, 2) := by decide +kernel
theorem dX2_value_190 : decode cX2_value 190 = .ok (.bipush (-63), 2) := by decide +kernel
theorem dX2_value_192 : decode cX2_value 192 = .ok (.if_icmp .ne 18, 3) := by decide +kernel
theorem dX2_value_195 : decode cX2_value 195 = .ok (.iload 11, 2) := by decide +kernel
theorem dX2_value_197 : decode cX2_value 197 = .ok (.ifCond .eq 7, 3) := by decide +kernel
theorem dX2_value_200 : decode cX2_value 200 = .ok (.iconst 1, 1) := by decide +kernel
theorem dX2_value_201 : decode cX2_value 201 = .ok (.goto 4, 3) := by decide +kernel
theorem dX2_value_204 : decode cX2_value 204 = .ok (.iconst 0, 1) := by decide +kernel
theorem dX2_value_205 : decode cX2_value 205 = .ok (.istore 8, 2) := by decide +kernel
theorem dX2_value_207 : decode cX2_value 207 = .ok (.goto 33, 3) := by decide +kernel
theorem dX2_value_210 : decode cX2_value 210 = .ok (.aload_n 0, 1) := by decide +kernel
theorem dX2_value_211 : decode cX2_value 211 = .ok (.getfield 21, 3) := by decide +kernel
theorem dX2_value_214 : decode cX2_value 214 = .ok (.iload 7, 2) := by decide +kernel
theorem dX2_value_216 : decode cX2_value 216 = .ok (.iconst 1, 1) := by decide +kernel
theorem dX2_value_217 : decode cX2_value 217 = .ok (.isub, 1) := by decide +kernel
theorem dX2_value_218 : decode cX2_value 218 = .ok (.iload 10, 2) := by decide +kernel
theorem dX2_value_220 : decode cX2_value 220 = .ok (.ineg, 1) := by decide +kernel
theorem dX2_value_221 : decode cX2_value 221 = .ok (.aload_n 0, 1) := by decide +kernel
theorem dX2_value_222 : decode cX2_value 222 = .ok (.getfield 21, 3) := by decide +kernel
theorem dX2_value_225 : decode cX2_value 225 = .ok (.iload 7, 2) := by decide +kernel
theorem dX2_value_227 : decode cX2_value 227 = .ok (.iconst 1, 1) := by decide +kernel
theorem dX2_value_228 : decode cX2_value 228 = .ok (.isub, 1) := by decide +kernel
theorem dX2_value_229 : decode cX2_value 229 = .ok (.invokestatic 107, 3) := by decide +kernel
theorem dX2_value_232 : decode cX2_value 232 = .ok (.iload 11, 2) := by decide +kernel
theorem dX2_value_234 : decode cX2_value 234 = .ok (.invokestatic 121, 3) := by decide +kernel
theorem dX2_value_237 : decode cX2_value 237 = .ok (.invokestatic 28, 3) := by decide +kernel
theorem dX2_value_240 : decode cX2_value 240 = .ok (.iinc 9 1, 3) := by decide +kernel
theorem dX2_value_243 : decode cX2_value 243 = .ok (.goto (-214), 3) := by decide +kernel
theorem dX2_value_246 : decode cX2_value 246 = .ok (.iconst 0, 1) := by decide +kernel
theorem dX2_value_247 : decode cX2_value 247 = .ok (.ireturn, 1) := by decide +kernel
theorem dX2_named_0 : decode cX2_named 0 = .ok (.iload_n 0, 1) := by decide +kernel
theorem dX2_named_1 : decode cX2_named 1 = .ok (.tableswitch 47 0 4 #[35, 37, 39, 41, 44], 35) := by decide +kernel
theorem dX2_named_36 : decode cX2_named 36 = .ok (.iload_n 1, 1) := by decide +kernel
theorem dX2_named_37 : decode cX2_named 37 = .ok (.ireturn, 1) := by decide +kernel
theorem dX2_named_38 : decode cX2_named 38 = .ok (.iload_n 2, 1) := by decide +kernel
theorem dX2_named_39 : decode cX2_named 39 = .ok (.ireturn, 1) := by decide +kernel
theorem dX2_named_40 : decode cX2_named 40 = .ok (.iload_n 3, 1) := by decide +kernel
theorem dX2_named_41 : decode cX2_named 41 = .ok (.ireturn, 1) := by decide +kernel
theorem dX2_named_42 : decode cX2_named 42 = .ok (.iload 4, 2) := by decide +kernel
theorem dX2_named_44 : decode cX2_named 44 = .ok (.ireturn, 1) := by decide +kernel
theorem dX2_named_45 : decode cX2_named 45 = .ok (.iload 5, 2) := by decide +kernel
theorem dX2_named_47 : decode cX2_named 47 = .ok (.ireturn, 1) := by decide +kernel
theorem dX2_named_48 : decode cX2_named 48 = .ok (.iload 6, 2) := by decide +kernel
theorem dX2_named_50 : decode cX2_named 50 = .ok (.ireturn, 1) := by decide +kernel
theorem dX2_alone_0 : decode cX2_alone 0 = .ok (.iload_n 0, 1) := by decide +kernel
theorem dX2_alone_1 : decode cX2_alone 1 = .ok (.bipush 126, 2) := by decide +kernel
theorem dX2_alone_3 : decode cX2_alone 3 = .ok (.if_icmp .ne 6, 3) := by decide +kernel
theorem dX2_alone_6 : decode cX2_alone 6 = .ok (.iload_n 1, 1) := by decide +kernel
theorem dX2_alone_7 : decode cX2_alone 7 = .ok (.ineg, 1) := by decide +kernel
theorem dX2_alone_8 : decode cX2_alone 8 = .ok (.ireturn, 1) := by decide +kernel
theorem dX2_alone_9 : decode cX2_alone 9 = .ok (.iload_n 1, 1) := by decide +kernel
theorem dX2_alone_10 : decode cX2_alone 10 = .ok (.ifCond .ne 7, 3) := by decide +kernel
theorem dX2_alone_13 : decode cX2_alone 13 = .ok (.iconst 1, 1) := by decide +kernel
theorem dX2_alone_14 : decode cX2_alone 14 = .ok (.goto 4, 3) := by decide +kernel
theorem dX2_alone_17 : decode cX2_alone 17 = .ok (.iconst 0, 1) := by decide +kernel
theorem dX2_alone_18 : decode cX2_alone 18 = .ok (.ireturn, 1) := by decide +kernel
theorem dX2_joined_0 : decode cX2_joined 0 = .ok (.iload_n 0, 1) := by decide +kernel
theorem dX2_joined_1 : decode cX2_joined 1 = .ok (.tableswitch 202 37 62 #[135, 188, 202, 202, 202, 119, 147, 202, 151, 202, 123, 202, 202, 202, 202, 202, 202, 202, 202, 202, 202, 202, 202, 155, 166, 177], 119) := by decide +kernel
theorem dX2_joined_120 : decode cX2_joined 120 = .ok (.iload_n 1, 1) := by decide +kernel
theorem dX2_joined_121 : decode cX2_joined 121 = .ok (.iload_n 2, 1) := by decide +kernel
theorem dX2_joined_122 : decode cX2_joined 122 = .ok (.imul, 1) := by decide +kernel
theorem dX2_joined_123 : decode cX2_joined 123 = .ok (.ireturn, 1) := by decide +kernel
theorem dX2_joined_124 : decode cX2_joined 124 = .ok (.iload_n 2, 1) := by decide +kernel
theorem dX2_joined_125 : decode cX2_joined 125 = .ok (.ifCond .ne 7, 3) := by decide +kernel
theorem dX2_joined_128 : decode cX2_joined 128 = .ok (.iconst 0, 1) := by decide +kernel
theorem dX2_joined_129 : decode cX2_joined 129 = .ok (.goto 6, 3) := by decide +kernel
theorem dX2_joined_132 : decode cX2_joined 132 = .ok (.iload_n 1, 1) := by decide +kernel
theorem dX2_joined_133 : decode cX2_joined 133 = .ok (.iload_n 2, 1) := by decide +kernel
theorem dX2_joined_134 : decode cX2_joined 134 = .ok (.idiv, 1) := by decide +kernel
theorem dX2_joined_135 : decode cX2_joined 135 = .ok (.ireturn, 1) := by decide +kernel
theorem dX2_joined_136 : decode cX2_joined 136 = .ok (.iload_n 2, 1) := by decide +kernel
theorem dX2_joined_137 : decode cX2_joined 137 = .ok (.ifCond .ne 7, 3) := by decide +kernel
theorem dX2_joined_140 : decode cX2_joined 140 = .ok (.iconst 0, 1) := by decide +kernel
theorem dX2_joined_141 : decode cX2_joined 141 = .ok (.goto 6, 3) := by decide +kernel
theorem dX2_joined_144 : decode cX2_joined 144 = .ok (.iload_n 1, 1) := by decide +kernel
theorem dX2_joined_145 : decode cX2_joined 145 = .ok (.iload_n 2, 1) := by decide +kernel
theorem dX2_joined_146 : decode cX2_joined 146 = .ok (.irem, 1) := by decide +kernel
theorem dX2_joined_147 : decode cX2_joined 147 = .ok (.ireturn, 1) := by decide +kernel
theorem dX2_joined_148 : decode cX2_joined 148 = .ok (.iload_n 1, 1) := by decide +kernel
theorem dX2_joined_149 : decode cX2_joined 149 = .ok (.iload_n 2, 1) := by decide +kernel
theorem dX2_joined_150 : decode cX2_joined 150 = .ok (.iadd, 1) := by decide +kernel
theorem dX2_joined_151 : decode cX2_joined 151 = .ok (.ireturn, 1) := by decide +kernel
theorem dX2_joined_152 : decode cX2_joined 152 = .ok (.iload_n 1, 1) := by decide +kernel
theorem dX2_joined_153 : decode cX2_joined 153 = .ok (.iload_n 2, 1) := by decide +kernel
theorem dX2_joined_154 : decode cX2_joined 154 = .ok (.isub, 1) := by decide +kernel
theorem dX2_joined_155 : decode cX2_joined 155 = .ok (.ireturn, 1) := by decide +kernel
theorem dX2_joined_156 : decode cX2_joined 156 = .ok (.iload_n 1, 1) := by decide +kernel
theorem dX2_joined_157 : decode cX2_joined 157 = .ok (.iload_n 2, 1) := by decide +kernel
theorem dX2_joined_158 : decode cX2_joined 158 = .ok (.if_icmp .ge 7, 3) := by decide +kernel
theorem dX2_joined_161 : decode cX2_joined 161 = .ok (.iconst 1, 1) := by decide +kernel
theorem dX2_joined_162 : decode cX2_joined 162 = .ok (.goto 4, 3) := by decide +kernel
theorem dX2_joined_165 : decode cX2_joined 165 = .ok (.iconst 0, 1) := by decide +kernel
theorem dX2_joined_166 : decode cX2_joined 166 = .ok (.ireturn, 1) := by decide +kernel
theorem dX2_joined_167 : decode cX2_joined 167 = .ok (.iload_n 1, 1) := by decide +kernel
theorem dX2_joined_168 : decode cX2_joined 168 = .ok (.iload_n 2, 1) := by decide +kernel
theorem dX2_joined_169 : decode cX2_joined 169 = .ok (.if_icmp .ne 7, 3) := by decide +kernel
theorem dX2_joined_172 : decode cX2_joined 172 = .ok (.iconst 1, 1) := by decide +kernel
theorem dX2_joined_173 : decode cX2_joined 173 = .ok (.goto 4, 3) := by decide +kernel
theorem dX2_joined_176 : decode cX2_joined 176 = .ok (.iconst 0, 1) := by decide +kernel
theorem dX2_joined_177 : decode cX2_joined 177 = .ok (.ireturn, 1) := by decide +kernel
theorem dX2_joined_178 : decode cX2_joined 178 = .ok (.iload_n 1, 1) := by decide +kernel
theorem dX2_joined_179 : decode cX2_joined 179 = .ok (.iload_n 2, 1) := by decide +kernel
theorem dX2_joined_180 : decode cX2_joined 180 = .ok (.if_icmp .le 7, 3) := by decide +kernel
theorem dX2_joined_183 : decode cX2_joined 183 = .ok (.iconst 1, 1) := by decide +kernel
theorem dX2_joined_184 : decode cX2_joined 184 = .ok (.goto 4, 3) := by decide +kernel
theorem dX2_joined_187 : decode cX2_joined 187 = .ok (.iconst 0, 1) := by decide +kernel
theorem dX2_joined_188 : decode cX2_joined 188 = .ok (.ireturn, 1) := by decide +kernel
theorem dX2_joined_189 : decode cX2_joined 189 = .ok (.iload_n 1, 1) := by decide +kernel
theorem dX2_joined_190 : decode cX2_joined 190 = .ok (.ifCond .eq 11, 3) := by decide +kernel
theorem dX2_joined_193 : decode cX2_joined 193 = .ok (.iload_n 2, 1) := by decide +kernel
theorem dX2_joined_194 : decode cX2_joined 194 = .ok (.ifCond .eq 7, 3) := by decide +kernel
theorem dX2_joined_197 : decode cX2_joined 197 = .ok (.iconst 1, 1) := by decide +kernel
theorem dX2_joined_198 : decode cX2_joined 198 = .ok (.goto 4, 3) := by decide +kernel
theorem dX2_joined_201 : decode cX2_joined 201 = .ok (.iconst 0, 1) := by decide +kernel
theorem dX2_joined_202 : decode cX2_joined 202 = .ok (.ireturn, 1) := by decide +kernel
theorem dX2_joined_203 : decode cX2_joined 203 = .ok (.iload_n 1, 1) := by decide +kernel
theorem dX2_joined_204 : decode cX2_joined 204 = .ok (.ifCond .ne 7, 3) := by decide +kernel
theorem dX2_joined_207 : decode cX2_joined 207 = .ok (.iload_n 2, 1) := by decide +kernel
theorem dX2_joined_208 : decode cX2_joined 208 = .ok (.ifCond .eq 7, 3) := by decide +kernel
theorem dX2_joined_211 : decode cX2_joined 211 = .ok (.iconst 1, 1) := by decide +kernel
theorem dX2_joined_212 : decode cX2_joined 212 = .ok (.goto 4, 3) := by decide +kernel
theorem dX2_joined_215 : decode cX2_joined 215 = .ok (.iconst 0, 1) := by decide +kernel
theorem dX2_joined_216 : decode cX2_joined 216 = .ok (.ireturn, 1) := by decide +kernel
theorem dX3_init_0 : decode cX3_init 0 = .ok (.aload_n 0, 1) := by decide +kernel
theorem dX3_init_1 : decode cX3_init 1 = .ok (.invokespecial 3, 3) := by decide +kernel
theorem dX3_init_4 : decode cX3_init 4 = .ok (.aload_n 0, 1) := by decide +kernel
theorem dX3_init_5 : decode cX3_init 5 = .ok (.bipush 8, 2) := by decide +kernel
theorem dX3_init_7 : decode cX3_init 7 = .ok (.newarray .int, 2) := by decide +kernel
theorem dX3_init_9 : decode cX3_init 9 = .ok (.putfield 9, 3) := by decide +kernel
theorem dX3_init_12 : decode cX3_init 12 = .ok (.aload_n 0, 1) := by decide +kernel
theorem dX3_init_13 : decode cX3_init 13 = .ok (.bipush 8, 2) := by decide +kernel
theorem dX3_init_15 : decode cX3_init 15 = .ok (.newarray .int, 2) := by decide +kernel
theorem dX3_init_17 : decode cX3_init 17 = .ok (.putfield 15, 3) := by decide +kernel
theorem dX3_init_20 : decode cX3_init 20 = .ok (.aload_n 0, 1) := by decide +kernel
theorem dX3_init_21 : decode cX3_init 21 = .ok (.bipush 8, 2) := by decide +kernel
theorem dX3_init_23 : decode cX3_init 23 = .ok (.newarray .int, 2) := by decide +kernel
theorem dX3_init_25 : decode cX3_init 25 = .ok (.putfield 18, 3) := by decide +kernel
theorem dX3_init_28 : decode cX3_init 28 = .ok (.aload_n 0, 1) := by decide +kernel
theorem dX3_init_29 : decode cX3_init 29 = .ok (.aload_n 1, 1) := by decide +kernel
theorem dX3_init_30 : decode cX3_init 30 = .ok (.putfield 21, 3) := by decide +kernel
theorem dX3_init_33 : decode cX3_init 33 = .ok (.return_, 1) := by decide +kernel
theorem dX3_fitAll_0 : decode cX3_fitAll 0 = .ok (.iconst 0, 1) := by decide +kernel
theorem dX3_fitAll_1 : decode cX3_fitAll 1 = .ok (.istore_n 1, 1) := by decide +kernel
theorem dX3_fitAll_2 : decode cX3_fitAll 2 = .ok (.iload_n 1, 1) := by decide +kernel
theorem dX3_fitAll_3 : decode cX3_fitAll 3 = .ok (.bipush 8, 2) := by decide +kernel
theorem dX3_fitAll_5 : decode cX3_fitAll 5 = .ok (.if_icmp .ge 18, 3) := by decide +kernel
theorem dX3_fitAll_8 : decode cX3_fitAll 8 = .ok (.aload_n 0, 1) := by decide +kernel
theorem dX3_fitAll_9 : decode cX3_fitAll 9 = .ok (.getfield 9, 3) := by decide +kernel
theorem dX3_fitAll_12 : decode cX3_fitAll 12 = .ok (.iload_n 1, 1) := by decide +kernel
theorem dX3_fitAll_13 : decode cX3_fitAll 13 = .ok (.iconst (-1), 1) := by decide +kernel
theorem dX3_fitAll_14 : decode cX3_fitAll 14 = .ok (.invokestatic 25, 3) := by decide +kernel
theorem dX3_fitAll_17 : decode cX3_fitAll 17 = .ok (.iinc 1 1, 3) := by decide +kernel
theorem dX3_fitAll_20 : decode cX3_fitAll 20 = .ok (.goto (-18), 3) := by decide +kernel
theorem dX3_fitAll_23 : decode cX3_fitAll 23 = .ok (.return_, 1) := by decide +kernel
theorem dX3_fitBook_0 : decode cX3_fitBook 0 = .ok (.aload_n 0, 1) := by decide +kernel
theorem dX3_fitBook_1 : decode cX3_fitBook 1 = .ok (.invokevirtual 29, 3) := by decide +kernel
theorem dX3_fitBook_4 : decode cX3_fitBook 4 = .ok (.iconst 0, 1) := by decide +kernel
theorem dX3_fitBook_5 : decode cX3_fitBook 5 = .ok (.istore_n 3, 1) := by decide +kernel
theorem dX3_fitBook_6 : decode cX3_fitBook 6 = .ok (.iload_n 3, 1) := by decide +kernel
theorem dX3_fitBook_7 : decode cX3_fitBook 7 = .ok (.bipush 8, 2) := by decide +kernel
theorem dX3_fitBook_9 : decode cX3_fitBook 9 = .ok (.if_icmp .ge 33, 3) := by decide +kernel
theorem dX3_fitBook_12 : decode cX3_fitBook 12 = .ok (.iload_n 3, 1) := by decide +kernel
theorem dX3_fitBook_13 : decode cX3_fitBook 13 = .ok (.aload_n 1, 1) := by decide +kernel
theorem dX3_fitBook_14 : decode cX3_fitBook 14 = .ok (.iload_n 2, 1) := by decide +kernel
theorem dX3_fitBook_15 : decode cX3_fitBook 15 = .ok (.invokevirtual 32, 3) := by decide +kernel
theorem dX3_fitBook_18 : decode cX3_fitBook 18 = .ok (.if_icmp .ge 24, 3) := by decide +kernel
theorem dX3_fitBook_21 : decode cX3_fitBook 21 = .ok (.aload_n 0, 1) := by decide +kernel
theorem dX3_fitBook_22 : decode cX3_fitBook 22 = .ok (.getfield 9, 3) := by decide +kernel
theorem dX3_fitBook_25 : decode cX3_fitBook 25 = .ok (.iload_n 3, 1) := by decide +kernel
theorem dX3_fitBook_26 : decode cX3_fitBook 26 = .ok (.aload_n 1, 1) := by decide +kernel
theorem dX3_fitBook_27 : decode cX3_fitBook 27 = .ok (.iload_n 2, 1) := by decide +kernel
theorem dX3_fitBook_28 : decode cX3_fitBook 28 = .ok (.iload_n 3, 1) := by decide +kernel
theorem dX3_fitBook_29 : decode cX3_fitBook 29 = .ok (.invokevirtual 38, 3) := by decide +kernel
theorem dX3_fitBook_32 : decode cX3_fitBook 32 = .ok (.l2i, 1) := by decide +kernel
theorem dX3_fitBook_33 : decode cX3_fitBook 33 = .ok (.invokestatic 25, 3) := by decide +kernel
theorem dX3_fitBook_36 : decode cX3_fitBook 36 = .ok (.iinc 3 1, 3) := by decide +kernel
theorem dX3_fitBook_39 : decode cX3_fitBook 39 = .ok (.goto (-33), 3) := by decide +kernel
theorem dX3_fitBook_42 : decode cX3_fitBook 42 = .ok (.return_, 1) := by decide +kernel
theorem dX3_answer_0 : decode cX3_answer 0 = .ok (.aload_n 0, 1) := by decide +kernel
theorem dX3_answer_1 : decode cX3_answer 1 = .ok (.iload_n 1, 1) := by decide +kernel
theorem dX3_answer_2 : decode cX3_answer 2 = .ok (.invokestatic 42, 3) := by decide +kernel
theorem dX3_answer_5 : decode cX3_answer 5 = .ok (.putfield 47, 3) := by decide +kernel
theorem dX3_answer_8 : decode cX3_answer 8 = .ok (.aload_n 0, 1) := by decide +kernel
theorem dX3_answer_9 : decode cX3_answer 9 = .ok (.iconst 0, 1) := by decide +kernel
theorem dX3_answer_10 : decode cX3_answer 10 = .ok (.putfield 51, 3) := by decide +kernel
theorem dX3_answer_13 : decode cX3_answer 13 = .ok (.aload_n 0, 1) := by decide +kernel
theorem dX3_answer_14 : decode cX3_answer 14 = .ok (.iload_n 2, 1) := by decide +kernel
theorem dX3_answer_15 : decode cX3_answer 15 = .ok (.iconst (-1), 1) := by decide +kernel
theorem dX3_answer_16 : decode cX3_answer 16 = .ok (.if_icmp .ne 8, 3) := by decide +kernel
theorem dX3_answer_19 : decode cX3_answer 19 = .ok (.ldc 54, 2) := by decide +kernel
theorem dX3_answer_21 : decode cX3_answer 21 = .ok (.goto 4, 3) := by decide +kernel
theorem dX3_answer_24 : decode cX3_answer 24 = .ok (.iconst 1, 1) := by decide +kernel
theorem dX3_answer_25 : decode cX3_answer 25 = .ok (.putfield 55, 3) := by decide +kernel
theorem dX3_answer_28 : decode cX3_answer 28 = .ok (.aload_n 0, 1) := by decide +kernel
theorem dX3_answer_29 : decode cX3_answer 29 = .ok (.iconst 0, 1) := by decide +kernel
theorem dX3_answer_30 : decode cX3_answer 30 = .ok (.iload_n 1, 1) := by decide +kernel
theorem dX3_answer_31 : decode cX3_answer 31 = .ok (.invokevirtual 58, 3) := by decide +kernel
theorem dX3_answer_34 : decode cX3_answer 34 = .ok (.iload_n 2, 1) := by decide +kernel
theorem dX3_answer_35 : decode cX3_answer 35 = .ok (.iconst (-1), 1) := by decide +kernel
theorem dX3_answer_36 : decode cX3_answer 36 = .ok (.if_icmp .ne 8, 3) := by decide +kernel
theorem dX3_answer_39 : decode cX3_answer 39 = .ok (.aload_n 0, 1) := by decide +kernel
theorem dX3_answer_40 : decode cX3_answer 40 = .ok (.getfield 51, 3) := by decide +kernel
theorem dX3_answer_43 : decode cX3_answer 43 = .ok (.ireturn, 1) := by decide +kernel
theorem dX3_answer_44 : decode cX3_answer 44 = .ok (.aload_n 0, 1) := by decide +kernel
theorem dX3_answer_45 : decode cX3_answer 45 = .ok (.getfield 51, 3) := by decide +kernel
theorem dX3_answer_48 : decode cX3_answer 48 = .ok (.ifCond .ne 8, 3) := by decide +kernel
theorem dX3_answer_51 : decode cX3_answer 51 = .ok (.bipush (-2), 2) := by decide +kernel
theorem dX3_answer_53 : decode cX3_answer 53 = .ok (.goto 11, 3) := by decide +kernel
theorem dX3_answer_56 : decode cX3_answer 56 = .ok (.aload_n 0, 1) := by decide +kernel
theorem dX3_answer_57 : decode cX3_answer 57 = .ok (.getfield 18, 3) := by decide +kernel
theorem dX3_answer_60 : decode cX3_answer 60 = .ok (.iload_n 2, 1) := by decide +kernel
theorem dX3_answer_61 : decode cX3_answer 61 = .ok (.invokestatic 62, 3) := by decide +kernel
theorem dX3_answer_64 : decode cX3_answer 64 = .ok (.ireturn, 1) := by decide +kernel
theorem dX3_fill_0 : decode cX3_fill 0 = .ok (.iload_n 1, 1) := by decide +kernel
theorem dX3_fill_1 : decode cX3_fill 1 = .ok (.aload_n 0, 1) := by decide +kernel
theorem dX3_fill_2 : decode cX3_fill 2 = .ok (.getfield 47, 3) := by decide +kernel
theorem dX3_fill_5 : decode cX3_fill 5 = .ok (.if_icmp .lt 8, 3) := by decide +kernel
theorem dX3_fill_8 : decode cX3_fill 8 = .ok (.aload_n 0, 1) := by decide +kernel
theorem dX3_fill_9 : decode cX3_fill 9 = .ok (.invokevirtual 66, 3) := by decide +kernel
theorem dX3_fill_12 : decode cX3_fill 12 = .ok (.return_, 1) := by decide +kernel
theorem dX3_fill_13 : decode cX3_fill 13 = .ok (.iconst 0, 1) := by decide +kernel
theorem dX3_fill_14 : decode cX3_fill 14 = .ok (.istore_n 3, 1) := by decide +kernel
theorem dX3_fill_15 : decode cX3_fill 15 = .ok (.iload_n 3, 1) := by decide +kernel
theorem dX3_fill_16 : decode cX3_fill 16 = .ok (.bipush 8, 2) := by decide +kernel
theorem dX3_fill_18 : decode cX3_fill 18 = .ok (.if_icmp .ge 86, 3) := by decide +kernel
theorem dX3_fill_21 : decode cX3_fill 21 = .ok (.aload_n 0, 1) := by decide +kernel
theorem dX3_fill_22 : decode cX3_fill 22 = .ok (.getfield 51, 3) := by decide +kernel
theorem dX3_fill_25 : decode cX3_fill 25 = .ok (.aload_n 0, 1) := by decide +kernel
theorem dX3_fill_26 : decode cX3_fill 26 = .ok (.getfield 55, 3) := by decide +kernel
theorem dX3_fill_29 : decode cX3_fill 29 = .ok (.if_icmp .ge 75, 3) := by decide +kernel
theorem dX3_fill_32 : decode cX3_fill 32 = .ok (.iload_n 2, 1) := by decide +kernel
theorem dX3_fill_33 : decode cX3_fill 33 = .ok (.iload_n 3, 1) := by decide +kernel
theorem dX3_fill_34 : decode cX3_fill 34 = .ok (.ishr, 1) := by decide +kernel
theorem dX3_fill_35 : decode cX3_fill 35 = .ok (.iconst 1, 1) := by decide +kernel
theorem dX3_fill_36 : decode cX3_fill 36 = .ok (.iand, 1) := by decide +kernel
theorem dX3_fill_37 : decode cX3_fill 37 = .ok (.ifCond .eq 61, 3) := by decide +kernel
theorem dX3_fill_40 : decode cX3_fill 40 = .ok (.aload_n 0, 1) := by decide +kernel
theorem dX3_fill_41 : decode cX3_fill 41 = .ok (.getfield 9, 3) := by decide +kernel
theorem dX3_fill_44 : decode cX3_fill 44 = .ok (.iload_n 1, 1) := by decide +kernel
theorem dX3_fill_45 : decode cX3_fill 45 = .ok (.invokestatic 62, 3) := by decide +kernel
theorem dX3_fill_48 : decode cX3_fill 48 = .ok (.iconst (-1), 1) := by decide +kernel
theorem dX3_fill_49 : decode cX3_fill 49 = .ok (.if_icmp .eq 18, 3) := by decide +kernel
theorem dX3_fill_52 : decode cX3_fill 52 = .ok (.aload_n 0, 1) := by decide +kernel
theorem dX3_fill_53 : decode cX3_fill 53 = .ok (.getfield 9, 3) := by decide +kernel
theorem dX3_fill_56 : decode cX3_fill 56 = .ok (.iload_n 1, 1) := by decide +kernel
theorem dX3_fill_57 : decode cX3_fill 57 = .ok (.invokestatic 62, 3) := by decide +kernel
theorem dX3_fill_60 : decode cX3_fill 60 = .ok (.iload_n 3, 1) := by decide +kernel
theorem dX3_fill_61 : decode cX3_fill 61 = .ok (.if_icmp .eq 6, 3) := by decide +kernel
theorem dX3_fill_64 : decode cX3_fill 64 = .ok (.goto 34, 3) := by decide +kernel
theorem dX3_fill_67 : decode cX3_fill 67 = .ok (.aload_n 0, 1) := by decide +kernel
theorem dX3_fill_68 : decode cX3_fill 68 = .ok (.getfield 15, 3) := by decide +kernel
theorem dX3_fill_71 : decode cX3_fill 71 = .ok (.iload_n 1, 1) := by decide +kernel
theorem dX3_fill_72 : decode cX3_fill 72 = .ok (.iload_n 3, 1) := by decide +kernel
theorem dX3_fill_73 : decode cX3_fill 73 = .ok (.invokestatic 25, 3) := by decide +kernel
theorem dX3_fill_76 : decode cX3_fill 76 = .ok (.aload_n 0, 1) := by decide +kernel
theorem dX3_fill_77 : decode cX3_fill 77 = .ok (.iload_n 1, 1) := by decide +kernel
theorem dX3_fill_78 : decode cX3_fill 78 = .ok (.invokevirtual 69, 3) := by decide +kernel
theorem dX3_fill_81 : decode cX3_fill 81 = .ok (.ifCond .eq 17, 3) := by decide +kernel
theorem dX3_fill_84 : decode cX3_fill 84 = .ok (.aload_n 0, 1) := by decide +kernel
theorem dX3_fill_85 : decode cX3_fill 85 = .ok (.iload_n 1, 1) := by decide +kernel
theorem dX3_fill_86 : decode cX3_fill 86 = .ok (.iconst 1, 1) := by decide +kernel
theorem dX3_fill_87 : decode cX3_fill 87 = .ok (.iadd, 1) := by decide +kernel
theorem dX3_fill_88 : decode cX3_fill 88 = .ok (.iload_n 2, 1) := by decide +kernel
theorem dX3_fill_89 : decode cX3_fill 89 = .ok (.iconst 1, 1) := by decide +kernel
theorem dX3_fill_90 : decode cX3_fill 90 = .ok (.iload_n 3, 1) := by decide +kernel
theorem dX3_fill_91 : decode cX3_fill 91 = .ok (.ishl, 1) := by decide +kernel
theorem dX3_fill_92 : decode cX3_fill 92 = .ok (.iconst (-1), 1) := by decide +kernel
theorem dX3_fill_93 : decode cX3_fill 93 = .ok (.ixor, 1) := by decide +kernel
theorem dX3_fill_94 : decode cX3_fill 94 = .ok (.iand, 1) := by decide +kernel
theorem dX3_fill_95 : decode cX3_fill 95 = .ok (.invokevirtual 58, 3) := by decide +kernel
theorem dX3_fill_98 : decode cX3_fill 98 = .ok (.iinc 3 1, 3) := by decide +kernel
theorem dX3_fill_101 : decode cX3_fill 101 = .ok (.goto (-86), 3) := by decide +kernel
theorem dX3_fill_104 : decode cX3_fill 104 = .ok (.return_, 1) := by decide +kernel
theorem dX3_isLawfulBefore_0 : decode cX3_isLawfulBefore 0 = .ok (.iload_n 1, 1) := by decide +kernel
theorem dX3_isLawfulBefore_1 : decode cX3_isLawfulBefore 1 = .ok (.ifCond .eq 19, 3) := by decide +kernel
theorem dX3_isLawfulBefore_4 : decode cX3_isLawfulBefore 4 = .ok (.iload_n 1, 1) := by decide +kernel
theorem dX3_isLawfulBefore_5 : decode cX3_isLawfulBefore 5 = .ok (.iconst 1, 1) := by decide +kernel
theorem dX3_isLawfulBefore_6 : decode cX3_isLawfulBefore 6 = .ok (.if_icmp .ne 16, 3) := by decide +kernel
theorem dX3_isLawfulBefore_9 : decode cX3_isLawfulBefore 9 = .ok (.aload_n 0, 1) := by decide +kernel
theorem dX3_isLawfulBefore_10 : decode cX3_isLawfulBefore 10 = .ok (.getfield 21, 3) := by decide +kernel
theorem dX3_isLawfulBefore_13 : decode cX3_isLawfulBefore 13 = .ok (.getfield 73, 3) := by decide +kernel
theorem dX3_isLawfulBefore_16 : decode cX3_isLawfulBefore 16 = .ok (.iconst 1, 1) := by decide +kernel
theorem dX3_isLawfulBefore_17 : decode cX3_isLawfulBefore 17 = .ok (.if_icmp .ne 5, 3) := by decide +kernel
theorem dX3_isLawfulBefore_20 : decode cX3_isLawfulBefore 20 = .ok (.iconst 1, 1) := by decide +kernel
theorem dX3_isLawfulBefore_21 : decode cX3_isLawfulBefore 21 = .ok (.ireturn, 1) := by decide +kernel
theorem dX3_isLawfulBefore_22 : decode cX3_isLawfulBefore 22 = .ok (.aload_n 0, 1) := by decide +kernel
theorem dX3_isLawfulBefore_23 : decode cX3_isLawfulBefore 23 = .ok (.getfield 21, 3) := by decide +kernel
theorem dX3_isLawfulBefore_26 : decode cX3_isLawfulBefore 26 = .ok (.aload_n 0, 1) := by decide +kernel
theorem dX3_isLawfulBefore_27 : decode cX3_isLawfulBefore 27 = .ok (.getfield 15, 3) := by decide +kernel
theorem dX3_isLawfulBefore_30 : decode cX3_isLawfulBefore 30 = .ok (.aload_n 0, 1) := by decide +kernel
theorem dX3_isLawfulBefore_31 : decode cX3_isLawfulBefore 31 = .ok (.getfield 47, 3) := by decide +kernel
theorem dX3_isLawfulBefore_34 : decode cX3_isLawfulBefore 34 = .ok (.iload_n 1, 1) := by decide +kernel
theorem dX3_isLawfulBefore_35 : decode cX3_isLawfulBefore 35 = .ok (.iconst 1, 1) := by decide +kernel
theorem dX3_isLawfulBefore_36 : decode cX3_isLawfulBefore 36 = .ok (.isub, 1) := by decide +kernel
theorem dX3_isLawfulBefore_37 : decode cX3_isLawfulBefore 37 = .ok (.invokevirtual 78, 3) := by decide +kernel
theorem dX3_isLawfulBefore_40 : decode cX3_isLawfulBefore 40 = .ok (.ireturn, 1) := by decide +kernel
theorem dX3_finish_0 : decode cX3_finish 0 = .ok (.aload_n 0, 1) := by decide +kernel
theorem dX3_finish_1 : decode cX3_finish 1 = .ok (.getfield 47, 3) := by decide +kernel
theorem dX3_finish_4 : decode cX3_finish 4 = .ok (.ifCond .le 47, 3) := by decide +kernel
theorem dX3_finish_7 : decode cX3_finish 7 = .ok (.aload_n 0, 1) := by decide +kernel
theorem dX3_finish_8 : decode cX3_finish 8 = .ok (.getfield 21, 3) := by decide +kernel
theorem dX3_finish_11 : decode cX3_finish 11 = .ok (.aload_n 0, 1) := by decide +kernel
theorem dX3_finish_12 : decode cX3_finish 12 = .ok (.getfield 15, 3) := by decide +kernel
theorem dX3_finish_15 : decode cX3_finish 15 = .ok (.aload_n 0, 1) := by decide +kernel
theorem dX3_finish_16 : decode cX3_finish 16 = .ok (.getfield 47, 3) := by decide +kernel
theorem dX3_finish_19 : decode cX3_finish 19 = .ok (.aload_n 0, 1) := by decide +kernel
theorem dX3_finish_20 : decode cX3_finish 20 = .ok (.getfield 47, 3) := by decide +kernel
theorem dX3_finish_23 : decode cX3_finish 23 = .ok (.iconst 1, 1) := by decide +kernel
theorem dX3_finish_24 : decode cX3_finish 24 = .ok (.isub, 1) := by decide +kernel
theorem dX3_finish_25 : decode cX3_finish 25 = .ok (.invokevirtual 78, 3) := by decide +kernel
theorem dX3_finish_28 : decode cX3_finish 28 = .ok (.ifCond .eq 22, 3) := by decide +kernel
theorem dX3_finish_31 : decode cX3_finish 31 = .ok (.aload_n 0, 1) := by decide +kernel
theorem dX3_finish_32 : decode cX3_finish 32 = .ok (.getfield 21, 3) := by decide +kernel
theorem dX3_finish_35 : decode cX3_finish 35 = .ok (.aload_n 0, 1) := by decide +kernel
theorem dX3_finish_36 : decode cX3_finish 36 = .ok (.getfield 15, 3) := by decide +kernel
theorem dX3_finish_39 : decode cX3_finish 39 = .ok (.aload_n 0, 1) := by decide +kernel
theorem dX3_finish_40 : decode cX3_finish 40 = .ok (.getfield 47, 3) := by decide +kernel
theorem dX3_finish_43 : decode cX3_finish 43 = .ok (.iconst 0, 1) := by decide +kernel
theorem dX3_finish_44 : decode cX3_finish 44 = .ok (.invokevirtual 78, 3) := by decide +kernel
theorem dX3_finish_47 : decode cX3_finish 47 = .ok (.ifCond .ne 4, 3) := by decide +kernel
theorem dX3_finish_50 : decode cX3_finish 50 = .ok (.return_, 1) := by decide +kernel
theorem dX3_finish_51 : decode cX3_finish 51 = .ok (.aload_n 0, 1) := by decide +kernel
theorem dX3_finish_52 : decode cX3_finish 52 = .ok (.getfield 51, 3) := by decide +kernel
theorem dX3_finish_55 : decode cX3_finish 55 = .ok (.ifCond .ne 18, 3) := by decide +kernel
theorem dX3_finish_58 : decode cX3_finish 58 = .ok (.aload_n 0, 1) := by decide +kernel
theorem dX3_finish_59 : decode cX3_finish 59 = .ok (.getfield 15, 3) := by decide +kernel
theorem dX3_finish_62 : decode cX3_finish 62 = .ok (.aload_n 0, 1) := by decide +kernel
theorem dX3_finish_63 : decode cX3_finish 63 = .ok (.getfield 18, 3) := by decide +kernel
theorem dX3_finish_66 : decode cX3_finish 66 = .ok (.aload_n 0, 1) := by decide +kernel
theorem dX3_finish_67 : decode cX3_finish 67 = .ok (.getfield 47, 3) := by decide +kernel
theorem dX3_finish_70 : decode cX3_finish 70 = .ok (.invokestatic 82, 3) := by decide +kernel
theorem dX3_finish_73 : decode cX3_finish 73 = .ok (.aload_n 0, 1) := by decide +kernel
theorem dX3_finish_74 : decode cX3_finish 74 = .ok (.dup, 1) := by decide +kernel
theorem dX3_finish_75 : decode cX3_finish 75 = .ok (.getfield 51, 3) := by decide +kernel
theorem dX3_finish_78 : decode cX3_finish 78 = .ok (.iconst 1, 1) := by decide +kernel
theorem dX3_finish_79 : decode cX3_finish 79 = .ok (.iadd, 1) := by decide +kernel
theorem dX3_finish_80 : decode cX3_finish 80 = .ok (.putfield 51, 3) := by decide +kernel
theorem dX3_finish_83 : decode cX3_finish 83 = .ok (.return_, 1) := by decide +kernel
theorem dX4_init_0 : decode cX4_init 0 = .ok (.aload_n 0, 1) := by decide +kernel
theorem dX4_init_1 : decode cX4_init 1 = .ok (.invokespecial 3, 3) := by decide +kernel
theorem dX4_init_4 : decode cX4_init 4 = .ok (.aload_n 0, 1) := by decide +kernel
theorem dX4_init_5 : decode cX4_init 5 = .ok (.bipush 9, 2) := by decide +kernel
theorem dX4_init_7 : decode cX4_init 7 = .ok (.newarray .int, 2) := by decide +kernel
theorem dX4_init_9 : decode cX4_init 9 = .ok (.putfield 9, 3) := by decide +kernel
theorem dX4_init_12 : decode cX4_init 12 = .ok (.aload_n 0, 1) := by decide +kernel
theorem dX4_init_13 : decode cX4_init 13 = .ok (.bipush 8, 2) := by decide +kernel
theorem dX4_init_15 : decode cX4_init 15 = .ok (.newarray .int, 2) := by decide +kernel
theorem dX4_init_17 : decode cX4_init 17 = .ok (.putfield 15, 3) := by decide +kernel
theorem dX4_init_20 : decode cX4_init 20 = .ok (.aload_n 0, 1) := by decide +kernel
theorem dX4_init_21 : decode cX4_init 21 = .ok (.bipush 8, 2) := by decide +kernel
theorem dX4_init_23 : decode cX4_init 23 = .ok (.newarray .int, 2) := by decide +kernel
theorem dX4_init_25 : decode cX4_init 25 = .ok (.putfield 18, 3) := by decide +kernel
theorem dX4_init_28 : decode cX4_init 28 = .ok (.aload_n 0, 1) := by decide +kernel
theorem dX4_init_29 : decode cX4_init 29 = .ok (.sipush 5832, 3) := by decide +kernel
theorem dX4_init_32 : decode cX4_init 32 = .ok (.newarray .int, 2) := by decide +kernel
theorem dX4_init_34 : decode cX4_init 34 = .ok (.putfield 21, 3) := by decide +kernel
theorem dX4_init_37 : decode cX4_init 37 = .ok (.aload_n 0, 1) := by decide +kernel
theorem dX4_init_38 : decode cX4_init 38 = .ok (.iconst 1, 1) := by decide +kernel
theorem dX4_init_39 : decode cX4_init 39 = .ok (.putfield 24, 3) := by decide +kernel
theorem dX4_init_42 : decode cX4_init 42 = .ok (.aload_n 0, 1) := by decide +kernel
theorem dX4_init_43 : decode cX4_init 43 = .ok (.aload_n 1, 1) := by decide +kernel
theorem dX4_init_44 : decode cX4_init 44 = .ok (.putfield 28, 3) := by decide +kernel
theorem dX4_init_47 : decode cX4_init 47 = .ok (.return_, 1) := by decide +kernel
theorem dX4_bring_0 : decode cX4_bring 0 = .ok (.iload_n 1, 1) := by decide +kernel
theorem dX4_bring_1 : decode cX4_bring 1 = .ok (.invokestatic 32, 3) := by decide +kernel
theorem dX4_bring_4 : decode cX4_bring 4 = .ok (.ifCond .ne 5, 3) := by decide +kernel
theorem dX4_bring_7 : decode cX4_bring 7 = .ok (.iconst (-1), 1) := by decide +kernel
theorem dX4_bring_8 : decode cX4_bring 8 = .ok (.ireturn, 1) := by decide +kernel
theorem dX4_bring_9 : decode cX4_bring 9 = .ok (.aload_n 0, 1) := by decide +kernel
theorem dX4_bring_10 : decode cX4_bring 10 = .ok (.getfield 36, 3) := by decide +kernel
theorem dX4_bring_13 : decode cX4_bring 13 = .ok (.bipush 8, 2) := by decide +kernel
theorem dX4_bring_15 : decode cX4_bring 15 = .ok (.if_icmp .lt 6, 3) := by decide +kernel
theorem dX4_bring_18 : decode cX4_bring 18 = .ok (.bipush (-3), 2) := by decide +kernel
theorem dX4_bring_20 : decode cX4_bring 20 = .ok (.ireturn, 1) := by decide +kernel
theorem dX4_bring_21 : decode cX4_bring 21 = .ok (.aload_n 0, 1) := by decide +kernel
theorem dX4_bring_22 : decode cX4_bring 22 = .ok (.aload_n 0, 1) := by decide +kernel
theorem dX4_bring_23 : decode cX4_bring 23 = .ok (.getfield 36, 3) := by decide +kernel
theorem dX4_bring_26 : decode cX4_bring 26 = .ok (.iload_n 1, 1) := by decide +kernel
theorem dX4_bring_27 : decode cX4_bring 27 = .ok (.invokevirtual 39, 3) := by decide +kernel
theorem dX4_bring_30 : decode cX4_bring 30 = .ok (.aload_n 0, 1) := by decide +kernel
theorem dX4_bring_31 : decode cX4_bring 31 = .ok (.dup, 1) := by decide +kernel
theorem dX4_bring_32 : decode cX4_bring 32 = .ok (.getfield 36, 3) := by decide +kernel
theorem dX4_bring_35 : decode cX4_bring 35 = .ok (.iconst 1, 1) := by decide +kernel
theorem dX4_bring_36 : decode cX4_bring 36 = .ok (.iadd, 1) := by decide +kernel
theorem dX4_bring_37 : decode cX4_bring 37 = .ok (.putfield 36, 3) := by decide +kernel
theorem dX4_bring_40 : decode cX4_bring 40 = .ok (.aload_n 0, 1) := by decide +kernel
theorem dX4_bring_41 : decode cX4_bring 41 = .ok (.getfield 36, 3) := by decide +kernel
theorem dX4_bring_44 : decode cX4_bring 44 = .ok (.iconst 1, 1) := by decide +kernel
theorem dX4_bring_45 : decode cX4_bring 45 = .ok (.isub, 1) := by decide +kernel
theorem dX4_bring_46 : decode cX4_bring 46 = .ok (.ireturn, 1) := by decide +kernel
theorem dX4_has_0 : decode cX4_has 0 = .ok (.iload_n 1, 1) := by decide +kernel
theorem dX4_has_1 : decode cX4_has 1 = .ok (.ifCond .lt 15, 3) := by decide +kernel
theorem dX4_has_4 : decode cX4_has 4 = .ok (.iload_n 1, 1) := by decide +kernel
theorem dX4_has_5 : decode cX4_has 5 = .ok (.aload_n 0, 1) := by decide +kernel
theorem dX4_has_6 : decode cX4_has 6 = .ok (.getfield 36, 3) := by decide +kernel
theorem dX4_has_9 : decode cX4_has 9 = .ok (.if_icmp .ge 7, 3) := by decide +kernel
theorem dX4_has_12 : decode cX4_has 12 = .ok (.iconst 1, 1) := by decide +kernel
theorem dX4_has_13 : decode cX4_has 13 = .ok (.goto 4, 3) := by decide +kernel
theorem dX4_has_16 : decode cX4_has 16 = .ok (.iconst 0, 1) := by decide +kernel
theorem dX4_has_17 : decode cX4_has 17 = .ok (.ireturn, 1) := by decide +kernel
theorem dX4_isSet_0 : decode cX4_isSet 0 = .ok (.iload_n 1, 1) := by decide +kernel
theorem dX4_isSet_1 : decode cX4_isSet 1 = .ok (.ifCond .lt 17, 3) := by decide +kernel
theorem dX4_isSet_4 : decode cX4_isSet 4 = .ok (.iload_n 1, 1) := by decide +kernel
theorem dX4_isSet_5 : decode cX4_isSet 5 = .ok (.iconst 1, 1) := by decide +kernel
theorem dX4_isSet_6 : decode cX4_isSet 6 = .ok (.aload_n 0, 1) := by decide +kernel
theorem dX4_isSet_7 : decode cX4_isSet 7 = .ok (.getfield 36, 3) := by decide +kernel
theorem dX4_isSet_10 : decode cX4_isSet 10 = .ok (.ishl, 1) := by decide +kernel
theorem dX4_isSet_11 : decode cX4_isSet 11 = .ok (.if_icmp .ge 7, 3) := by decide +kernel
theorem dX4_isSet_14 : decode cX4_isSet 14 = .ok (.iconst 1, 1) := by decide +kernel
theorem dX4_isSet_15 : decode cX4_isSet 15 = .ok (.goto 4, 3) := by decide +kernel
theorem dX4_isSet_18 : decode cX4_isSet 18 = .ok (.iconst 0, 1) := by decide +kernel
theorem dX4_isSet_19 : decode cX4_isSet 19 = .ok (.ireturn, 1) := by decide +kernel
theorem dX4_isPlace_0 : decode cX4_isPlace 0 = .ok (.iload_n 1, 1) := by decide +kernel
theorem dX4_isPlace_1 : decode cX4_isPlace 1 = .ok (.ifCond .lt 15, 3) := by decide +kernel
theorem dX4_isPlace_4 : decode cX4_isPlace 4 = .ok (.iload_n 1, 1) := by decide +kernel
theorem dX4_isPlace_5 : decode cX4_isPlace 5 = .ok (.aload_n 0, 1) := by decide +kernel
theorem dX4_isPlace_6 : decode cX4_isPlace 6 = .ok (.getfield 43, 3) := by decide +kernel
theorem dX4_isPlace_9 : decode cX4_isPlace 9 = .ok (.if_icmp .ge 7, 3) := by decide +kernel
theorem dX4_isPlace_12 : decode cX4_isPlace 12 = .ok (.iconst 1, 1) := by decide +kernel
theorem dX4_isPlace_13 : decode cX4_isPlace 13 = .ok (.goto 4, 3) := by decide +kernel
theorem dX4_isPlace_16 : decode cX4_isPlace 16 = .ok (.iconst 0, 1) := by decide +kernel
theorem dX4_isPlace_17 : decode cX4_isPlace 17 = .ok (.ireturn, 1) := by decide +kernel
theorem dX4_weightOf_0 : decode cX4_weightOf 0 = .ok (.aload_n 0, 1) := by decide +kernel
theorem dX4_weightOf_1 : decode cX4_weightOf 1 = .ok (.getfield 9, 3) := by decide +kernel
theorem dX4_weightOf_4 : decode cX4_weightOf 4 = .ok (.iload_n 1, 1) := by decide +kernel
theorem dX4_weightOf_5 : decode cX4_weightOf 5 = .ok (.invokestatic 46, 3) := by decide +kernel
theorem dX4_weightOf_8 : decode cX4_weightOf 8 = .ok (.ireturn, 1) := by decide +kernel
theorem dX4_weigh_0 : decode cX4_weigh 0 = .ok (.aload_n 0, 1) := by decide +kernel
theorem dX4_weigh_1 : decode cX4_weigh 1 = .ok (.getfield 9, 3) := by decide +kernel
theorem dX4_weigh_4 : decode cX4_weigh 4 = .ok (.iload_n 1, 1) := by decide +kernel
theorem dX4_weigh_5 : decode cX4_weigh 5 = .ok (.iload_n 2, 1) := by decide +kernel
theorem dX4_weigh_6 : decode cX4_weigh 6 = .ok (.invokestatic 50, 3) := by decide +kernel
theorem dX4_weigh_9 : decode cX4_weigh 9 = .ok (.iload_n 1, 1) := by decide +kernel
theorem dX4_weigh_10 : decode cX4_weigh 10 = .ok (.bipush 8, 2) := by decide +kernel
theorem dX4_weigh_12 : decode cX4_weigh 12 = .ok (.if_icmp .eq 7, 3) := by decide +kernel
theorem dX4_weigh_15 : decode cX4_weigh 15 = .ok (.aload_n 0, 1) := by decide +kernel
theorem dX4_weigh_16 : decode cX4_weigh 16 = .ok (.invokevirtual 54, 3) := by decide +kernel
theorem dX4_weigh_19 : decode cX4_weigh 19 = .ok (.return_, 1) := by decide +kernel
theorem dX4_judgeAnew_0 : decode cX4_judgeAnew 0 = .ok (.aload_n 0, 1) := by decide +kernel
theorem dX4_judgeAnew_1 : decode cX4_judgeAnew 1 = .ok (.dup, 1) := by decide +kernel
theorem dX4_judgeAnew_2 : decode cX4_judgeAnew 2 = .ok (.getfield 24, 3) := by decide +kernel
theorem dX4_judgeAnew_5 : decode cX4_judgeAnew 5 = .ok (.iconst 1, 1) := by decide +kernel
theorem dX4_judgeAnew_6 : decode cX4_judgeAnew 6 = .ok (.iadd, 1) := by decide +kernel
theorem dX4_judgeAnew_7 : decode cX4_judgeAnew 7 = .ok (.putfield 24, 3) := by decide +kernel
theorem dX4_judgeAnew_10 : decode cX4_judgeAnew 10 = .ok (.return_, 1) := by decide +kernel
theorem dX4_placeOf_0 : decode cX4_placeOf 0 = .ok (.aload_n 0, 1) := by decide +kernel
theorem dX4_placeOf_1 : decode cX4_placeOf 1 = .ok (.getfield 15, 3) := by decide +kernel
theorem dX4_placeOf_4 : decode cX4_placeOf 4 = .ok (.aload_n 0, 1) := by decide +kernel
theorem dX4_placeOf_5 : decode cX4_placeOf 5 = .ok (.getfield 43, 3) := by decide +kernel
theorem dX4_placeOf_8 : decode cX4_placeOf 8 = .ok (.iload_n 1, 1) := by decide +kernel
theorem dX4_placeOf_9 : decode cX4_placeOf 9 = .ok (.invokestatic 57, 3) := by decide +kernel
theorem dX4_placeOf_12 : decode cX4_placeOf 12 = .ok (.ireturn, 1) := by decide +kernel
theorem dX4_placeIn_0 : decode cX4_placeIn 0 = .ok (.iconst 0, 1) := by decide +kernel
theorem dX4_placeIn_1 : decode cX4_placeIn 1 = .ok (.istore_n 3, 1) := by decide +kernel
theorem dX4_placeIn_2 : decode cX4_placeIn 2 = .ok (.iload_n 3, 1) := by decide +kernel
theorem dX4_placeIn_3 : decode cX4_placeIn 3 = .ok (.iload_n 1, 1) := by decide +kernel
theorem dX4_placeIn_4 : decode cX4_placeIn 4 = .ok (.if_icmp .ge 20, 3) := by decide +kernel
theorem dX4_placeIn_7 : decode cX4_placeIn 7 = .ok (.aload_n 0, 1) := by decide +kernel
theorem dX4_placeIn_8 : decode cX4_placeIn 8 = .ok (.iload_n 3, 1) := by decide +kernel
theorem dX4_placeIn_9 : decode cX4_placeIn 9 = .ok (.invokestatic 46, 3) := by decide +kernel
theorem dX4_placeIn_12 : decode cX4_placeIn 12 = .ok (.iload_n 2, 1) := by decide +kernel
theorem dX4_placeIn_13 : decode cX4_placeIn 13 = .ok (.if_icmp .ne 5, 3) := by decide +kernel
theorem dX4_placeIn_16 : decode cX4_placeIn 16 = .ok (.iload_n 3, 1) := by decide +kernel
theorem dX4_placeIn_17 : decode cX4_placeIn 17 = .ok (.ireturn, 1) := by decide +kernel
theorem dX4_placeIn_18 : decode cX4_placeIn 18 = .ok (.iinc 3 1, 3) := by decide +kernel
theorem dX4_placeIn_21 : decode cX4_placeIn 21 = .ok (.goto (-19), 3) := by decide +kernel
theorem dX4_placeIn_24 : decode cX4_placeIn 24 = .ok (.bipush (-2), 2) := by decide +kernel
theorem dX4_placeIn_26 : decode cX4_placeIn 26 = .ok (.ireturn, 1) := by decide +kernel
theorem dX4_setOfRow_0 : decode cX4_setOfRow 0 = .ok (.iconst 0, 1) := by decide +kernel
theorem dX4_setOfRow_1 : decode cX4_setOfRow 1 = .ok (.istore_n 1, 1) := by decide +kernel
theorem dX4_setOfRow_2 : decode cX4_setOfRow 2 = .ok (.iconst 0, 1) := by decide +kernel
theorem dX4_setOfRow_3 : decode cX4_setOfRow 3 = .ok (.istore_n 2, 1) := by decide +kernel
theorem dX4_setOfRow_4 : decode cX4_setOfRow 4 = .ok (.iload_n 2, 1) := by decide +kernel
theorem dX4_setOfRow_5 : decode cX4_setOfRow 5 = .ok (.aload_n 0, 1) := by decide +kernel
theorem dX4_setOfRow_6 : decode cX4_setOfRow 6 = .ok (.getfield 43, 3) := by decide +kernel
theorem dX4_setOfRow_9 : decode cX4_setOfRow 9 = .ok (.if_icmp .ge 22, 3) := by decide +kernel
theorem dX4_setOfRow_12 : decode cX4_setOfRow 12 = .ok (.iload_n 1, 1) := by decide +kernel
theorem dX4_setOfRow_13 : decode cX4_setOfRow 13 = .ok (.iconst 1, 1) := by decide +kernel
theorem dX4_setOfRow_14 : decode cX4_setOfRow 14 = .ok (.aload_n 0, 1) := by decide +kernel
theorem dX4_setOfRow_15 : decode cX4_setOfRow 15 = .ok (.getfield 15, 3) := by decide +kernel
theorem dX4_setOfRow_18 : decode cX4_setOfRow 18 = .ok (.iload_n 2, 1) := by decide +kernel
theorem dX4_setOfRow_19 : decode cX4_setOfRow 19 = .ok (.invokestatic 46, 3) := by decide +kernel
theorem dX4_setOfRow_22 : decode cX4_setOfRow 22 = .ok (.ishl, 1) := by decide +kernel
theorem dX4_setOfRow_23 : decode cX4_setOfRow 23 = .ok (.ior, 1) := by decide +kernel
theorem dX4_setOfRow_24 : decode cX4_setOfRow 24 = .ok (.istore_n 1, 1) := by decide +kernel
theorem dX4_setOfRow_25 : decode cX4_setOfRow 25 = .ok (.iinc 2 1, 3) := by decide +kernel
theorem dX4_setOfRow_28 : decode cX4_setOfRow 28 = .ok (.goto (-24), 3) := by decide +kernel
theorem dX4_setOfRow_31 : decode cX4_setOfRow 31 = .ok (.iload_n 1, 1) := by decide +kernel
theorem dX4_setOfRow_32 : decode cX4_setOfRow 32 = .ok (.ireturn, 1) := by decide +kernel
theorem dX4_isStoneLawful_0 : decode cX4_isStoneLawful 0 = .ok (.aload_n 0, 1) := by decide +kernel
theorem dX4_isStoneLawful_1 : decode cX4_isStoneLawful 1 = .ok (.iload_n 1, 1) := by decide +kernel
theorem dX4_isStoneLawful_2 : decode cX4_isStoneLawful 2 = .ok (.invokevirtual 61, 3) := by decide +kernel
theorem dX4_isStoneLawful_5 : decode cX4_isStoneLawful 5 = .ok (.istore_n 2, 1) := by decide +kernel
theorem dX4_isStoneLawful_6 : decode cX4_isStoneLawful 6 = .ok (.iload_n 2, 1) := by decide +kernel
theorem dX4_isStoneLawful_7 : decode cX4_isStoneLawful 7 = .ok (.bipush (-2), 2) := by decide +kernel
theorem dX4_isStoneLawful_9 : decode cX4_isStoneLawful 9 = .ok (.if_icmp .ne 6, 3) := by decide +kernel
theorem dX4_isStoneLawful_12 : decode cX4_isStoneLawful 12 = .ok (.bipush (-2), 2) := by decide +kernel
theorem dX4_isStoneLawful_14 : decode cX4_isStoneLawful 14 = .ok (.ireturn, 1) := by decide +kernel
theorem dX4_isStoneLawful_15 : decode cX4_isStoneLawful 15 = .ok (.aload_n 0, 1) := by decide +kernel
theorem dX4_isStoneLawful_16 : decode cX4_isStoneLawful 16 = .ok (.aload_n 0, 1) := by decide +kernel
theorem dX4_isStoneLawful_17 : decode cX4_isStoneLawful 17 = .ok (.getfield 15, 3) := by decide +kernel
theorem dX4_isStoneLawful_20 : decode cX4_isStoneLawful 20 = .ok (.aload_n 0, 1) := by decide +kernel
theorem dX4_isStoneLawful_21 : decode cX4_isStoneLawful 21 = .ok (.getfield 43, 3) := by decide +kernel
theorem dX4_isStoneLawful_24 : decode cX4_isStoneLawful 24 = .ok (.iload_n 2, 1) := by decide +kernel
theorem dX4_isStoneLawful_25 : decode cX4_isStoneLawful 25 = .ok (.invokevirtual 65, 3) := by decide +kernel
theorem dX4_isStoneLawful_28 : decode cX4_isStoneLawful 28 = .ok (.ifCond .eq 7, 3) := by decide +kernel
theorem dX4_isStoneLawful_31 : decode cX4_isStoneLawful 31 = .ok (.iconst 1, 1) := by decide +kernel
theorem dX4_isStoneLawful_32 : decode cX4_isStoneLawful 32 = .ok (.goto 4, 3) := by decide +kernel
theorem dX4_isStoneLawful_35 : decode cX4_isStoneLawful 35 = .ok (.iconst 0, 1) := by decide +kernel
theorem dX4_isStoneLawful_36 : decode cX4_isStoneLawful 36 = .ok (.ireturn, 1) := by decide +kernel
theorem dX4_isLawful_0 : decode cX4_isLawful 0 = .ok (.iconst 0, 1) := by decide +kernel
theorem dX4_isLawful_1 : decode cX4_isLawful 1 = .ok (.istore_n 3, 1) := by decide +kernel
theorem dX4_isLawful_2 : decode cX4_isLawful 2 = .ok (.iload_n 3, 1) := by decide +kernel
theorem dX4_isLawful_3 : decode cX4_isLawful 3 = .ok (.iload_n 2, 1) := by decide +kernel
theorem dX4_isLawful_4 : decode cX4_isLawful 4 = .ok (.if_icmp .ge 21, 3) := by decide +kernel
theorem dX4_isLawful_7 : decode cX4_isLawful 7 = .ok (.aload_n 0, 1) := by decide +kernel
theorem dX4_isLawful_8 : decode cX4_isLawful 8 = .ok (.aload_n 1, 1) := by decide +kernel
theorem dX4_isLawful_9 : decode cX4_isLawful 9 = .ok (.iload_n 2, 1) := by decide +kernel
theorem dX4_isLawful_10 : decode cX4_isLawful 10 = .ok (.iload_n 3, 1) := by decide +kernel
theorem dX4_isLawful_11 : decode cX4_isLawful 11 = .ok (.invokevirtual 65, 3) := by decide +kernel
theorem dX4_isLawful_14 : decode cX4_isLawful 14 = .ok (.ifCond .ne 5, 3) := by decide +kernel
theorem dX4_isLawful_17 : decode cX4_isLawful 17 = .ok (.iconst 0, 1) := by decide +kernel
theorem dX4_isLawful_18 : decode cX4_isLawful 18 = .ok (.ireturn, 1) := by decide +kernel
theorem dX4_isLawful_19 : decode cX4_isLawful 19 = .ok (.iinc 3 1, 3) := by decide +kernel
theorem dX4_isLawful_22 : decode cX4_isLawful 22 = .ok (.goto (-20), 3) := by decide +kernel
theorem dX4_isLawful_25 : decode cX4_isLawful 25 = .ok (.iconst 1, 1) := by decide +kernel
theorem dX4_isLawful_26 : decode cX4_isLawful 26 = .ok (.ireturn, 1) := by decide +kernel
theorem dX4_firstUnlawful_0 : decode cX4_firstUnlawful 0 = .ok (.iconst 0, 1) := by decide +kernel
theorem dX4_firstUnlawful_1 : decode cX4_firstUnlawful 1 = .ok (.istore_n 3, 1) := by decide +kernel
theorem dX4_firstUnlawful_2 : decode cX4_firstUnlawful 2 = .ok (.iload_n 3, 1) := by decide +kernel
theorem dX4_firstUnlawful_3 : decode cX4_firstUnlawful 3 = .ok (.iload_n 2, 1) := by decide +kernel
theorem dX4_firstUnlawful_4 : decode cX4_firstUnlawful 4 = .ok (.if_icmp .ge 21, 3) := by decide +kernel
theorem dX4_firstUnlawful_7 : decode cX4_firstUnlawful 7 = .ok (.aload_n 0, 1) := by decide +kernel
theorem dX4_firstUnlawful_8 : decode cX4_firstUnlawful 8 = .ok (.aload_n 1, 1) := by decide +kernel
theorem dX4_firstUnlawful_9 : decode cX4_firstUnlawful 9 = .ok (.iload_n 2, 1) := by decide +kernel
theorem dX4_firstUnlawful_10 : decode cX4_firstUnlawful 10 = .ok (.iload_n 3, 1) := by decide +kernel
theorem dX4_firstUnlawful_11 : decode cX4_firstUnlawful 11 = .ok (.invokevirtual 65, 3) := by decide +kernel
theorem dX4_firstUnlawful_14 : decode cX4_firstUnlawful 14 = .ok (.ifCond .ne 5, 3) := by decide +kernel
theorem dX4_firstUnlawful_17 : decode cX4_firstUnlawful 17 = .ok (.iload_n 3, 1) := by decide +kernel
theorem dX4_firstUnlawful_18 : decode cX4_firstUnlawful 18 = .ok (.ireturn, 1) := by decide +kernel
theorem dX4_firstUnlawful_19 : decode cX4_firstUnlawful 19 = .ok (.iinc 3 1, 3) := by decide +kernel
theorem dX4_firstUnlawful_22 : decode cX4_firstUnlawful 22 = .ok (.goto (-20), 3) := by decide +kernel
theorem dX4_firstUnlawful_25 : decode cX4_firstUnlawful 25 = .ok (.bipush (-2), 2) := by decide +kernel
theorem dX4_firstUnlawful_27 : decode cX4_firstUnlawful 27 = .ok (.ireturn, 1) := by decide +kernel
theorem dX4_placeBeside_0 : decode cX4_placeBeside 0 = .ok (.iload_n 1, 1) := by decide +kernel
theorem dX4_placeBeside_1 : decode cX4_placeBeside 1 = .ok (.iload_n 3, 1) := by decide +kernel
theorem dX4_placeBeside_2 : decode cX4_placeBeside 2 = .ok (.iadd, 1) := by decide +kernel
theorem dX4_placeBeside_3 : decode cX4_placeBeside 3 = .ok (.istore 4, 2) := by decide +kernel
theorem dX4_placeBeside_5 : decode cX4_placeBeside 5 = .ok (.iload 4, 2) := by decide +kernel
theorem dX4_placeBeside_7 : decode cX4_placeBeside 7 = .ok (.ifCond .lt 12, 3) := by decide +kernel
theorem dX4_placeBeside_10 : decode cX4_placeBeside 10 = .ok (.iload 4, 2) := by decide +kernel
theorem dX4_placeBeside_12 : decode cX4_placeBeside 12 = .ok (.iload_n 2, 1) := by decide +kernel
theorem dX4_placeBeside_13 : decode cX4_placeBeside 13 = .ok (.if_icmp .ge 6, 3) := by decide +kernel
theorem dX4_placeBeside_16 : decode cX4_placeBeside 16 = .ok (.iload 4, 2) := by decide +kernel
theorem dX4_placeBeside_18 : decode cX4_placeBeside 18 = .ok (.ireturn, 1) := by decide +kernel
theorem dX4_placeBeside_19 : decode cX4_placeBeside 19 = .ok (.aload_n 0, 1) := by decide +kernel
theorem dX4_placeBeside_20 : decode cX4_placeBeside 20 = .ok (.getfield 69, 3) := by decide +kernel
theorem dX4_placeBeside_23 : decode cX4_placeBeside 23 = .ok (.ifCond .ne 5, 3) := by decide +kernel
theorem dX4_placeBeside_26 : decode cX4_placeBeside 26 = .ok (.iconst (-1), 1) := by decide +kernel
theorem dX4_placeBeside_27 : decode cX4_placeBeside 27 = .ok (.ireturn, 1) := by decide +kernel
theorem dX4_placeBeside_28 : decode cX4_placeBeside 28 = .ok (.iload 4, 2) := by decide +kernel
theorem dX4_placeBeside_30 : decode cX4_placeBeside 30 = .ok (.ifCond .ge 9, 3) := by decide +kernel
theorem dX4_placeBeside_33 : decode cX4_placeBeside 33 = .ok (.iload_n 2, 1) := by decide +kernel
theorem dX4_placeBeside_34 : decode cX4_placeBeside 34 = .ok (.iconst 1, 1) := by decide +kernel
theorem dX4_placeBeside_35 : decode cX4_placeBeside 35 = .ok (.isub, 1) := by decide +kernel
theorem dX4_placeBeside_36 : decode cX4_placeBeside 36 = .ok (.goto 4, 3) := by decide +kernel
theorem dX4_placeBeside_39 : decode cX4_placeBeside 39 = .ok (.iconst 0, 1) := by decide +kernel
theorem dX4_placeBeside_40 : decode cX4_placeBeside 40 = .ok (.ireturn, 1) := by decide +kernel
theorem dX4_isLawfulAt_0 : decode cX4_isLawfulAt 0 = .ok (.aload_n 0, 1) := by decide +kernel
theorem dX4_isLawfulAt_1 : decode cX4_isLawfulAt 1 = .ok (.iload_n 3, 1) := by decide +kernel
theorem dX4_isLawfulAt_2 : decode cX4_isLawfulAt 2 = .ok (.iload_n 2, 1) := by decide +kernel
theorem dX4_isLawfulAt_3 : decode cX4_isLawfulAt 3 = .ok (.iconst (-1), 1) := by decide +kernel
theorem dX4_isLawfulAt_4 : decode cX4_isLawfulAt 4 = .ok (.invokevirtual 72, 3) := by decide +kernel
theorem dX4_isLawfulAt_7 : decode cX4_isLawfulAt 7 = .ok (.istore 4, 2) := by decide +kernel
theorem dX4_isLawfulAt_9 : decode cX4_isLawfulAt 9 = .ok (.aload_n 0, 1) := by decide +kernel
theorem dX4_isLawfulAt_10 : decode cX4_isLawfulAt 10 = .ok (.iload_n 3, 1) := by decide +kernel
theorem dX4_isLawfulAt_11 : decode cX4_isLawfulAt 11 = .ok (.iload_n 2, 1) := by decide +kernel
theorem dX4_isLawfulAt_12 : decode cX4_isLawfulAt 12 = .ok (.iconst 1, 1) := by decide +kernel
theorem dX4_isLawfulAt_13 : decode cX4_isLawfulAt 13 = .ok (.invokevirtual 72, 3) := by decide +kernel
theorem dX4_isLawfulAt_16 : decode cX4_isLawfulAt 16 = .ok (.istore 5, 2) := by decide +kernel
theorem dX4_isLawfulAt_18 : decode cX4_isLawfulAt 18 = .ok (.aload_n 1, 1) := by decide +kernel
theorem dX4_isLawfulAt_19 : decode cX4_isLawfulAt 19 = .ok (.iload_n 3, 1) := by decide +kernel
theorem dX4_isLawfulAt_20 : decode cX4_isLawfulAt 20 = .ok (.invokestatic 46, 3) := by decide +kernel
theorem dX4_isLawfulAt_23 : decode cX4_isLawfulAt 23 = .ok (.istore 6, 2) := by decide +kernel
theorem dX4_isLawfulAt_25 : decode cX4_isLawfulAt 25 = .ok (.iload 4, 2) := by decide +kernel
theorem dX4_isLawfulAt_27 : decode cX4_isLawfulAt 27 = .ok (.iconst (-1), 1) := by decide +kernel
theorem dX4_isLawfulAt_28 : decode cX4_isLawfulAt 28 = .ok (.if_icmp .ne 7, 3) := by decide +kernel
theorem dX4_isLawfulAt_31 : decode cX4_isLawfulAt 31 = .ok (.iconst (-1), 1) := by decide +kernel
theorem dX4_isLawfulAt_32 : decode cX4_isLawfulAt 32 = .ok (.goto 9, 3) := by decide +kernel
theorem dX4_isLawfulAt_35 : decode cX4_isLawfulAt 35 = .ok (.aload_n 1, 1) := by decide +kernel
theorem dX4_isLawfulAt_36 : decode cX4_isLawfulAt 36 = .ok (.iload 4, 2) := by decide +kernel
theorem dX4_isLawfulAt_38 : decode cX4_isLawfulAt 38 = .ok (.invokestatic 46, 3) := by decide +kernel
theorem dX4_isLawfulAt_41 : decode cX4_isLawfulAt 41 = .ok (.istore 7, 2) := by decide +kernel
theorem dX4_isLawfulAt_43 : decode cX4_isLawfulAt 43 = .ok (.iload 5, 2) := by decide +kernel
theorem dX4_isLawfulAt_45 : decode cX4_isLawfulAt 45 = .ok (.iconst (-1), 1) := by decide +kernel
theorem dX4_isLawfulAt_46 : decode cX4_isLawfulAt 46 = .ok (.if_icmp .ne 7, 3) := by decide +kernel
theorem dX4_isLawfulAt_49 : decode cX4_isLawfulAt 49 = .ok (.iconst (-1), 1) := by decide +kernel
theorem dX4_isLawfulAt_50 : decode cX4_isLawfulAt 50 = .ok (.goto 9, 3) := by decide +kernel
theorem dX4_isLawfulAt_53 : decode cX4_isLawfulAt 53 = .ok (.aload_n 1, 1) := by decide +kernel
theorem dX4_isLawfulAt_54 : decode cX4_isLawfulAt 54 = .ok (.iload 5, 2) := by decide +kernel
theorem dX4_isLawfulAt_56 : decode cX4_isLawfulAt 56 = .ok (.invokestatic 46, 3) := by decide +kernel
theorem dX4_isLawfulAt_59 : decode cX4_isLawfulAt 59 = .ok (.istore 8, 2) := by decide +kernel
theorem dX4_isLawfulAt_61 : decode cX4_isLawfulAt 61 = .ok (.iload_n 2, 1) := by decide +kernel
theorem dX4_isLawfulAt_62 : decode cX4_isLawfulAt 62 = .ok (.aload_n 0, 1) := by decide +kernel
theorem dX4_isLawfulAt_63 : decode cX4_isLawfulAt 63 = .ok (.getfield 76, 3) := by decide +kernel
theorem dX4_isLawfulAt_66 : decode cX4_isLawfulAt 66 = .ok (.if_icmp .eq 12, 3) := by decide +kernel
theorem dX4_isLawfulAt_69 : decode cX4_isLawfulAt 69 = .ok (.aload_n 0, 1) := by decide +kernel
theorem dX4_isLawfulAt_70 : decode cX4_isLawfulAt 70 = .ok (.iload_n 2, 1) := by decide +kernel
theorem dX4_isLawfulAt_71 : decode cX4_isLawfulAt 71 = .ok (.putfield 76, 3) := by decide +kernel
theorem dX4_isLawfulAt_74 : decode cX4_isLawfulAt 74 = .ok (.aload_n 0, 1) := by decide +kernel
theorem dX4_isLawfulAt_75 : decode cX4_isLawfulAt 75 = .ok (.invokevirtual 54, 3) := by decide +kernel
theorem dX4_isLawfulAt_78 : decode cX4_isLawfulAt 78 = .ok (.iload_n 3, 1) := by decide +kernel
theorem dX4_isLawfulAt_79 : decode cX4_isLawfulAt 79 = .ok (.iload 6, 2) := by decide +kernel
theorem dX4_isLawfulAt_81 : decode cX4_isLawfulAt 81 = .ok (.iload 7, 2) := by decide +kernel
theorem dX4_isLawfulAt_83 : decode cX4_isLawfulAt 83 = .ok (.iload 8, 2) := by decide +kernel
theorem dX4_isLawfulAt_85 : decode cX4_isLawfulAt 85 = .ok (.invokestatic 79, 3) := by decide +kernel
theorem dX4_isLawfulAt_88 : decode cX4_isLawfulAt 88 = .ok (.istore 9, 2) := by decide +kernel
theorem dX4_isLawfulAt_90 : decode cX4_isLawfulAt 90 = .ok (.aload_n 0, 1) := by decide +kernel
theorem dX4_isLawfulAt_91 : decode cX4_isLawfulAt 91 = .ok (.getfield 21, 3) := by decide +kernel
theorem dX4_isLawfulAt_94 : decode cX4_isLawfulAt 94 = .ok (.iload 9, 2) := by decide +kernel
theorem dX4_isLawfulAt_96 : decode cX4_isLawfulAt 96 = .ok (.invokestatic 46, 3) := by decide +kernel
theorem dX4_isLawfulAt_99 : decode cX4_isLawfulAt 99 = .ok (.istore 10, 2) := by decide +kernel
theorem dX4_isLawfulAt_101 : decode cX4_isLawfulAt 101 = .ok (.iload 10, 2) := by decide +kernel
theorem dX4_isLawfulAt_103 : decode cX4_isLawfulAt 103 = .ok (.iconst 1, 1) := by decide +kernel
theorem dX4_isLawfulAt_104 : decode cX4_isLawfulAt 104 = .ok (.ishr, 1) := by decide +kernel
theorem dX4_isLawfulAt_105 : decode cX4_isLawfulAt 105 = .ok (.aload_n 0, 1) := by decide +kernel
theorem dX4_isLawfulAt_106 : decode cX4_isLawfulAt 106 = .ok (.getfield 24, 3) := by decide +kernel
theorem dX4_isLawfulAt_109 : decode cX4_isLawfulAt 109 = .ok (.if_icmp .eq 64, 3) := by decide +kernel
theorem dX4_isLawfulAt_112 : decode cX4_isLawfulAt 112 = .ok (.aload_n 0, 1) := by decide +kernel
theorem dX4_isLawfulAt_113 : decode cX4_isLawfulAt 113 = .ok (.getfield 28, 3) := by decide +kernel
theorem dX4_isLawfulAt_116 : decode cX4_isLawfulAt 116 = .ok (.aload_n 0, 1) := by decide +kernel
theorem dX4_isLawfulAt_117 : decode cX4_isLawfulAt 117 = .ok (.iload 6, 2) := by decide +kernel
theorem dX4_isLawfulAt_119 : decode cX4_isLawfulAt 119 = .ok (.invokevirtual 83, 3) := by decide +kernel
theorem dX4_isLawfulAt_122 : decode cX4_isLawfulAt 122 = .ok (.aload_n 0, 1) := by decide +kernel
theorem dX4_isLawfulAt_123 : decode cX4_isLawfulAt 123 = .ok (.iload 7, 2) := by decide +kernel
theorem dX4_isLawfulAt_125 : decode cX4_isLawfulAt 125 = .ok (.invokevirtual 83, 3) := by decide +kernel
theorem dX4_isLawfulAt_128 : decode cX4_isLawfulAt 128 = .ok (.aload_n 0, 1) := by decide +kernel
theorem dX4_isLawfulAt_129 : decode cX4_isLawfulAt 129 = .ok (.iload 8, 2) := by decide +kernel
theorem dX4_isLawfulAt_131 : decode cX4_isLawfulAt 131 = .ok (.invokevirtual 83, 3) := by decide +kernel
theorem dX4_isLawfulAt_134 : decode cX4_isLawfulAt 134 = .ok (.iload_n 3, 1) := by decide +kernel
theorem dX4_isLawfulAt_135 : decode cX4_isLawfulAt 135 = .ok (.iload_n 2, 1) := by decide +kernel
theorem dX4_isLawfulAt_136 : decode cX4_isLawfulAt 136 = .ok (.iload 6, 2) := by decide +kernel
theorem dX4_isLawfulAt_138 : decode cX4_isLawfulAt 138 = .ok (.invokevirtual 86, 3) := by decide +kernel
theorem dX4_isLawfulAt_141 : decode cX4_isLawfulAt 141 = .ok (.istore 11, 2) := by decide +kernel
theorem dX4_isLawfulAt_143 : decode cX4_isLawfulAt 143 = .ok (.aload_n 0, 1) := by decide +kernel
theorem dX4_isLawfulAt_144 : decode cX4_isLawfulAt 144 = .ok (.getfield 24, 3) := by decide +kernel
theorem dX4_isLawfulAt_147 : decode cX4_isLawfulAt 147 = .ok (.iconst 2, 1) := by decide +kernel
theorem dX4_isLawfulAt_148 : decode cX4_isLawfulAt 148 = .ok (.imul, 1) := by decide +kernel
theorem dX4_isLawfulAt_149 : decode cX4_isLawfulAt 149 = .ok (.iload 11, 2) := by decide +kernel
theorem dX4_isLawfulAt_151 : decode cX4_isLawfulAt 151 = .ok (.ifCond .eq 7, 3) := by decide +kernel
theorem dX4_isLawfulAt_154 : decode cX4_isLawfulAt 154 = .ok (.iconst 1, 1) := by decide +kernel
theorem dX4_isLawfulAt_155 : decode cX4_isLawfulAt 155 = .ok (.goto 4, 3) := by decide +kernel
theorem dX4_isLawfulAt_158 : decode cX4_isLawfulAt 158 = .ok (.iconst 0, 1) := by decide +kernel
theorem dX4_isLawfulAt_159 : decode cX4_isLawfulAt 159 = .ok (.iadd, 1) := by decide +kernel
theorem dX4_isLawfulAt_160 : decode cX4_isLawfulAt 160 = .ok (.istore 10, 2) := by decide +kernel
theorem dX4_isLawfulAt_162 : decode cX4_isLawfulAt 162 = .ok (.aload_n 0, 1) := by decide +kernel
theorem dX4_isLawfulAt_163 : decode cX4_isLawfulAt 163 = .ok (.getfield 21, 3) := by decide +kernel
theorem dX4_isLawfulAt_166 : decode cX4_isLawfulAt 166 = .ok (.iload 9, 2) := by decide +kernel
theorem dX4_isLawfulAt_168 : decode cX4_isLawfulAt 168 = .ok (.iload 10, 2) := by decide +kernel
theorem dX4_isLawfulAt_170 : decode cX4_isLawfulAt 170 = .ok (.invokestatic 50, 3) := by decide +kernel
theorem dX4_isLawfulAt_173 : decode cX4_isLawfulAt 173 = .ok (.iload 10, 2) := by decide +kernel
theorem dX4_isLawfulAt_175 : decode cX4_isLawfulAt 175 = .ok (.iconst 1, 1) := by decide +kernel
theorem dX4_isLawfulAt_176 : decode cX4_isLawfulAt 176 = .ok (.iand, 1) := by decide +kernel
theorem dX4_isLawfulAt_177 : decode cX4_isLawfulAt 177 = .ok (.iconst 1, 1) := by decide +kernel
theorem dX4_isLawfulAt_178 : decode cX4_isLawfulAt 178 = .ok (.if_icmp .ne 7, 3) := by decide +kernel
theorem dX4_isLawfulAt_181 : decode cX4_isLawfulAt 181 = .ok (.iconst 1, 1) := by decide +kernel
theorem dX4_isLawfulAt_182 : decode cX4_isLawfulAt 182 = .ok (.goto 4, 3) := by decide +kernel
theorem dX4_isLawfulAt_185 : decode cX4_isLawfulAt 185 = .ok (.iconst 0, 1) := by decide +kernel
theorem dX4_isLawfulAt_186 : decode cX4_isLawfulAt 186 = .ok (.ireturn, 1) := by decide +kernel
theorem dX4_slotOf_0 : decode cX4_slotOf 0 = .ok (.iload_n 1, 1) := by decide +kernel
theorem dX4_slotOf_1 : decode cX4_slotOf 1 = .ok (.bipush 8, 2) := by decide +kernel
theorem dX4_slotOf_3 : decode cX4_slotOf 3 = .ok (.if_icmp .eq 15, 3) := by decide +kernel
theorem dX4_slotOf_6 : decode cX4_slotOf 6 = .ok (.iload_n 2, 1) := by decide +kernel
theorem dX4_slotOf_7 : decode cX4_slotOf 7 = .ok (.bipush 8, 2) := by decide +kernel
theorem dX4_slotOf_9 : decode cX4_slotOf 9 = .ok (.if_icmp .eq 9, 3) := by decide +kernel
theorem dX4_slotOf_12 : decode cX4_slotOf 12 = .ok (.iload_n 3, 1) := by decide +kernel
theorem dX4_slotOf_13 : decode cX4_slotOf 13 = .ok (.bipush 8, 2) := by decide +kernel
theorem dX4_slotOf_15 : decode cX4_slotOf 15 = .ok (.if_icmp .ne 5, 3) := by decide +kernel
theorem dX4_slotOf_18 : decode cX4_slotOf 18 = .ok (.iconst (-1), 1) := by decide +kernel
theorem dX4_slotOf_19 : decode cX4_slotOf 19 = .ok (.ireturn, 1) := by decide +kernel
theorem dX4_slotOf_20 : decode cX4_slotOf 20 = .ok (.iload_n 0, 1) := by decide +kernel
theorem dX4_slotOf_21 : decode cX4_slotOf 21 = .ok (.bipush 9, 2) := by decide +kernel
theorem dX4_slotOf_23 : decode cX4_slotOf 23 = .ok (.imul, 1) := by decide +kernel
theorem dX4_slotOf_24 : decode cX4_slotOf 24 = .ok (.iload_n 2, 1) := by decide +kernel
theorem dX4_slotOf_25 : decode cX4_slotOf 25 = .ok (.iadd, 1) := by decide +kernel
theorem dX4_slotOf_26 : decode cX4_slotOf 26 = .ok (.iconst 1, 1) := by decide +kernel
theorem dX4_slotOf_27 : decode cX4_slotOf 27 = .ok (.iadd, 1) := by decide +kernel
theorem dX4_slotOf_28 : decode cX4_slotOf 28 = .ok (.bipush 8, 2) := by decide +kernel
theorem dX4_slotOf_30 : decode cX4_slotOf 30 = .ok (.imul, 1) := by decide +kernel
theorem dX4_slotOf_31 : decode cX4_slotOf 31 = .ok (.iload_n 1, 1) := by decide +kernel
theorem dX4_slotOf_32 : decode cX4_slotOf 32 = .ok (.iadd, 1) := by decide +kernel
theorem dX4_slotOf_33 : decode cX4_slotOf 33 = .ok (.bipush 9, 2) := by decide +kernel
theorem dX4_slotOf_35 : decode cX4_slotOf 35 = .ok (.imul, 1) := by decide +kernel
theorem dX4_slotOf_36 : decode cX4_slotOf 36 = .ok (.iload_n 3, 1) := by decide +kernel
theorem dX4_slotOf_37 : decode cX4_slotOf 37 = .ok (.iadd, 1) := by decide +kernel
theorem dX4_slotOf_38 : decode cX4_slotOf 38 = .ok (.iconst 1, 1) := by decide +kernel
theorem dX4_slotOf_39 : decode cX4_slotOf 39 = .ok (.iadd, 1) := by decide +kernel
theorem dX4_slotOf_40 : decode cX4_slotOf 40 = .ok (.ireturn, 1) := by decide +kernel
theorem dX4_lead_0 : decode cX4_lead 0 = .ok (.aload_n 0, 1) := by decide +kernel
theorem dX4_lead_1 : decode cX4_lead 1 = .ok (.dup, 1) := by decide +kernel
theorem dX4_lead_2 : decode cX4_lead 2 = .ok (.getfield 92, 3) := by decide +kernel
theorem dX4_lead_5 : decode cX4_lead 5 = .ok (.iconst 1, 1) := by decide +kernel
theorem dX4_lead_6 : decode cX4_lead 6 = .ok (.iadd, 1) := by decide +kernel
theorem dX4_lead_7 : decode cX4_lead 7 = .ok (.putfield 92, 3) := by decide +kernel
theorem dX4_lead_10 : decode cX4_lead 10 = .ok (.aload_n 0, 1) := by decide +kernel
theorem dX4_lead_11 : decode cX4_lead 11 = .ok (.aload_n 0, 1) := by decide +kernel
theorem dX4_lead_12 : decode cX4_lead 12 = .ok (.getfield 15, 3) := by decide +kernel
theorem dX4_lead_15 : decode cX4_lead 15 = .ok (.aload_n 0, 1) := by decide +kernel
theorem dX4_lead_16 : decode cX4_lead 16 = .ok (.getfield 43, 3) := by decide +kernel
theorem dX4_lead_19 : decode cX4_lead 19 = .ok (.invokevirtual 95, 3) := by decide +kernel
theorem dX4_lead_22 : decode cX4_lead 22 = .ok (.ifCond .ne 13, 3) := by decide +kernel
theorem dX4_lead_25 : decode cX4_lead 25 = .ok (.aload_n 0, 1) := by decide +kernel
theorem dX4_lead_26 : decode cX4_lead 26 = .ok (.dup, 1) := by decide +kernel
theorem dX4_lead_27 : decode cX4_lead 27 = .ok (.getfield 99, 3) := by decide +kernel
theorem dX4_lead_30 : decode cX4_lead 30 = .ok (.iconst 1, 1) := by decide +kernel
theorem dX4_lead_31 : decode cX4_lead 31 = .ok (.iadd, 1) := by decide +kernel
theorem dX4_lead_32 : decode cX4_lead 32 = .ok (.putfield 99, 3) := by decide +kernel
theorem dX4_lead_35 : decode cX4_lead 35 = .ok (.return_, 1) := by decide +kernel
theorem dX4_keepImage_0 : decode cX4_keepImage 0 = .ok (.aload_n 0, 1) := by decide +kernel
theorem dX4_keepImage_1 : decode cX4_keepImage 1 = .ok (.getfield 15, 3) := by decide +kernel
theorem dX4_keepImage_4 : decode cX4_keepImage 4 = .ok (.aload_n 0, 1) := by decide +kernel
theorem dX4_keepImage_5 : decode cX4_keepImage 5 = .ok (.getfield 18, 3) := by decide +kernel
theorem dX4_keepImage_8 : decode cX4_keepImage 8 = .ok (.aload_n 0, 1) := by decide +kernel
theorem dX4_keepImage_9 : decode cX4_keepImage 9 = .ok (.getfield 43, 3) := by decide +kernel
theorem dX4_keepImage_12 : decode cX4_keepImage 12 = .ok (.invokestatic 102, 3) := by decide +kernel
theorem dX4_keepImage_15 : decode cX4_keepImage 15 = .ok (.aload_n 0, 1) := by decide +kernel
theorem dX4_keepImage_16 : decode cX4_keepImage 16 = .ok (.aload_n 0, 1) := by decide +kernel
theorem dX4_keepImage_17 : decode cX4_keepImage 17 = .ok (.getfield 43, 3) := by decide +kernel
theorem dX4_keepImage_20 : decode cX4_keepImage 20 = .ok (.putfield 106, 3) := by decide +kernel
theorem dX4_keepImage_23 : decode cX4_keepImage 23 = .ok (.aload_n 0, 1) := by decide +kernel
theorem dX4_keepImage_24 : decode cX4_keepImage 24 = .ok (.aload_n 0, 1) := by decide +kernel
theorem dX4_keepImage_25 : decode cX4_keepImage 25 = .ok (.getfield 92, 3) := by decide +kernel
theorem dX4_keepImage_28 : decode cX4_keepImage 28 = .ok (.putfield 109, 3) := by decide +kernel
theorem dX4_keepImage_31 : decode cX4_keepImage 31 = .ok (.aload_n 0, 1) := by decide +kernel
theorem dX4_keepImage_32 : decode cX4_keepImage 32 = .ok (.aload_n 0, 1) := by decide +kernel
theorem dX4_keepImage_33 : decode cX4_keepImage 33 = .ok (.getfield 99, 3) := by decide +kernel
theorem dX4_keepImage_36 : decode cX4_keepImage 36 = .ok (.putfield 112, 3) := by decide +kernel
theorem dX4_keepImage_39 : decode cX4_keepImage 39 = .ok (.aload_n 0, 1) := by decide +kernel
theorem dX4_keepImage_40 : decode cX4_keepImage 40 = .ok (.iconst 1, 1) := by decide +kernel
theorem dX4_keepImage_41 : decode cX4_keepImage 41 = .ok (.putfield 115, 3) := by decide +kernel
theorem dX4_keepImage_44 : decode cX4_keepImage 44 = .ok (.aload_n 0, 1) := by decide +kernel
theorem dX4_keepImage_45 : decode cX4_keepImage 45 = .ok (.getfield 43, 3) := by decide +kernel
theorem dX4_keepImage_48 : decode cX4_keepImage 48 = .ok (.ireturn, 1) := by decide +kernel
theorem dX4_layBack_0 : decode cX4_layBack 0 = .ok (.aload_n 0, 1) := by decide +kernel
theorem dX4_layBack_1 : decode cX4_layBack 1 = .ok (.getfield 115, 3) := by decide +kernel
theorem dX4_layBack_4 : decode cX4_layBack 4 = .ok (.ifCond .ne 6, 3) := by decide +kernel
theorem dX4_layBack_7 : decode cX4_layBack 7 = .ok (.bipush (-5), 2) := by decide +kernel
theorem dX4_layBack_9 : decode cX4_layBack 9 = .ok (.ireturn, 1) := by decide +kernel
theorem dX4_layBack_10 : decode cX4_layBack 10 = .ok (.aload_n 0, 1) := by decide +kernel
theorem dX4_layBack_11 : decode cX4_layBack 11 = .ok (.getfield 18, 3) := by decide +kernel
theorem dX4_layBack_14 : decode cX4_layBack 14 = .ok (.aload_n 0, 1) := by decide +kernel
theorem dX4_layBack_15 : decode cX4_layBack 15 = .ok (.getfield 15, 3) := by decide +kernel
theorem dX4_layBack_18 : decode cX4_layBack 18 = .ok (.aload_n 0, 1) := by decide +kernel
theorem dX4_layBack_19 : decode cX4_layBack 19 = .ok (.getfield 106, 3) := by decide +kernel
theorem dX4_layBack_22 : decode cX4_layBack 22 = .ok (.invokestatic 102, 3) := by decide +kernel
theorem dX4_layBack_25 : decode cX4_layBack 25 = .ok (.aload_n 0, 1) := by decide +kernel
theorem dX4_layBack_26 : decode cX4_layBack 26 = .ok (.aload_n 0, 1) := by decide +kernel
theorem dX4_layBack_27 : decode cX4_layBack 27 = .ok (.getfield 106, 3) := by decide +kernel
theorem dX4_layBack_30 : decode cX4_layBack 30 = .ok (.putfield 43, 3) := by decide +kernel
theorem dX4_layBack_33 : decode cX4_layBack 33 = .ok (.aload_n 0, 1) := by decide +kernel
theorem dX4_layBack_34 : decode cX4_layBack 34 = .ok (.aload_n 0, 1) := by decide +kernel
theorem dX4_layBack_35 : decode cX4_layBack 35 = .ok (.getfield 109, 3) := by decide +kernel
theorem dX4_layBack_38 : decode cX4_layBack 38 = .ok (.putfield 92, 3) := by decide +kernel
theorem dX4_layBack_41 : decode cX4_layBack 41 = .ok (.aload_n 0, 1) := by decide +kernel
theorem dX4_layBack_42 : decode cX4_layBack 42 = .ok (.aload_n 0, 1) := by decide +kernel
theorem dX4_layBack_43 : decode cX4_layBack 43 = .ok (.getfield 112, 3) := by decide +kernel
theorem dX4_layBack_46 : decode cX4_layBack 46 = .ok (.putfield 99, 3) := by decide +kernel
theorem dX4_layBack_49 : decode cX4_layBack 49 = .ok (.aload_n 0, 1) := by decide +kernel
theorem dX4_layBack_50 : decode cX4_layBack 50 = .ok (.getfield 43, 3) := by decide +kernel
theorem dX4_layBack_53 : decode cX4_layBack 53 = .ok (.ireturn, 1) := by decide +kernel
theorem dX5_init_0 : decode cX5_init 0 = .ok (.aload_n 0, 1) := by decide +kernel
theorem dX5_init_1 : decode cX5_init 1 = .ok (.invokespecial 3, 3) := by decide +kernel
theorem dX5_init_4 : decode cX5_init 4 = .ok (.aload_n 0, 1) := by decide +kernel
theorem dX5_init_5 : decode cX5_init 5 = .ok (.sipush 256, 3) := by decide +kernel
theorem dX5_init_8 : decode cX5_init 8 = .ok (.newarray .int, 2) := by decide +kernel
theorem dX5_init_10 : decode cX5_init 10 = .ok (.putfield 9, 3) := by decide +kernel
theorem dX5_init_13 : decode cX5_init 13 = .ok (.aload_n 0, 1) := by decide +kernel
theorem dX5_init_14 : decode cX5_init 14 = .ok (.bipush 8, 2) := by decide +kernel
theorem dX5_init_16 : decode cX5_init 16 = .ok (.newarray .int, 2) := by decide +kernel
theorem dX5_init_18 : decode cX5_init 18 = .ok (.putfield 15, 3) := by decide +kernel
theorem dX5_init_21 : decode cX5_init 21 = .ok (.aload_n 0, 1) := by decide +kernel
theorem dX5_init_22 : decode cX5_init 22 = .ok (.aload_n 1, 1) := by decide +kernel
theorem dX5_init_23 : decode cX5_init 23 = .ok (.putfield 18, 3) := by decide +kernel
theorem dX5_init_26 : decode cX5_init 26 = .ok (.return_, 1) := by decide +kernel
theorem dX5_all_0 : decode cX5_all 0 = .ok (.iconst 1, 1) := by decide +kernel
theorem dX5_all_1 : decode cX5_all 1 = .ok (.aload_n 0, 1) := by decide +kernel
theorem dX5_all_2 : decode cX5_all 2 = .ok (.getfield 18, 3) := by decide +kernel
theorem dX5_all_5 : decode cX5_all 5 = .ok (.getfield 22, 3) := by decide +kernel
theorem dX5_all_8 : decode cX5_all 8 = .ok (.ishl, 1) := by decide +kernel
theorem dX5_all_9 : decode cX5_all 9 = .ok (.iconst 1, 1) := by decide +kernel
theorem dX5_all_10 : decode cX5_all 10 = .ok (.isub, 1) := by decide +kernel
theorem dX5_all_11 : decode cX5_all 11 = .ok (.ireturn, 1) := by decide +kernel
theorem dX5_most_0 : decode cX5_most 0 = .ok (.aload_n 0, 1) := by decide +kernel
theorem dX5_most_1 : decode cX5_most 1 = .ok (.invokevirtual 28, 3) := by decide +kernel
theorem dX5_most_4 : decode cX5_most 4 = .ok (.istore_n 1, 1) := by decide +kernel
theorem dX5_most_5 : decode cX5_most 5 = .ok (.iconst 0, 1) := by decide +kernel
theorem dX5_most_6 : decode cX5_most 6 = .ok (.istore_n 2, 1) := by decide +kernel
theorem dX5_most_7 : decode cX5_most 7 = .ok (.iload_n 2, 1) := by decide +kernel
theorem dX5_most_8 : decode cX5_most 8 = .ok (.iload_n 1, 1) := by decide +kernel
theorem dX5_most_9 : decode cX5_most 9 = .ok (.if_icmp .ge 34, 3) := by decide +kernel
theorem dX5_most_12 : decode cX5_most 12 = .ok (.aload_n 0, 1) := by decide +kernel
theorem dX5_most_13 : decode cX5_most 13 = .ok (.getfield 9, 3) := by decide +kernel
theorem dX5_most_16 : decode cX5_most 16 = .ok (.iload_n 2, 1) := by decide +kernel
theorem dX5_most_17 : decode cX5_most 17 = .ok (.aload_n 0, 1) := by decide +kernel
theorem dX5_most_18 : decode cX5_most 18 = .ok (.iload_n 2, 1) := by decide +kernel
theorem dX5_most_19 : decode cX5_most 19 = .ok (.invokevirtual 32, 3) := by decide +kernel
theorem dX5_most_22 : decode cX5_most 22 = .ok (.ifCond .eq 11, 3) := by decide +kernel
theorem dX5_most_25 : decode cX5_most 25 = .ok (.aload_n 0, 1) := by decide +kernel
theorem dX5_most_26 : decode cX5_most 26 = .ok (.iload_n 2, 1) := by decide +kernel
theorem dX5_most_27 : decode cX5_most 27 = .ok (.invokevirtual 36, 3) := by decide +kernel
theorem dX5_most_30 : decode cX5_most 30 = .ok (.goto 4, 3) := by decide +kernel
theorem dX5_most_33 : decode cX5_most 33 = .ok (.iconst (-1), 1) := by decide +kernel
theorem dX5_most_34 : decode cX5_most 34 = .ok (.invokestatic 40, 3) := by decide +kernel
theorem dX5_most_37 : decode cX5_most 37 = .ok (.iinc 2 1, 3) := by decide +kernel
theorem dX5_most_40 : decode cX5_most 40 = .ok (.goto (-33), 3) := by decide +kernel
theorem dX5_most_43 : decode cX5_most 43 = .ok (.aload_n 0, 1) := by decide +kernel
theorem dX5_most_44 : decode cX5_most 44 = .ok (.iload_n 1, 1) := by decide +kernel
theorem dX5_most_45 : decode cX5_most 45 = .ok (.invokevirtual 36, 3) := by decide +kernel
theorem dX5_most_48 : decode cX5_most 48 = .ok (.ireturn, 1) := by decide +kernel
theorem dX5_isLawful_0 : decode cX5_isLawful 0 = .ok (.iconst 0, 1) := by decide +kernel
theorem dX5_isLawful_1 : decode cX5_isLawful 1 = .ok (.istore_n 2, 1) := by decide +kernel
theorem dX5_isLawful_2 : decode cX5_isLawful 2 = .ok (.iconst 0, 1) := by decide +kernel
theorem dX5_isLawful_3 : decode cX5_isLawful 3 = .ok (.istore_n 3, 1) := by decide +kernel
theorem dX5_isLawful_4 : decode cX5_isLawful 4 = .ok (.iload_n 3, 1) := by decide +kernel
theorem dX5_isLawful_5 : decode cX5_isLawful 5 = .ok (.aload_n 0, 1) := by decide +kernel
theorem dX5_isLawful_6 : decode cX5_isLawful 6 = .ok (.getfield 18, 3) := by decide +kernel
theorem dX5_isLawful_9 : decode cX5_isLawful 9 = .ok (.getfield 22, 3) := by decide +kernel
theorem dX5_isLawful_12 : decode cX5_isLawful 12 = .ok (.if_icmp .ge 42, 3) := by decide +kernel
theorem dX5_isLawful_15 : decode cX5_isLawful 15 = .ok (.iload_n 1, 1) := by decide +kernel
theorem dX5_isLawful_16 : decode cX5_isLawful 16 = .ok (.iload_n 3, 1) := by decide +kernel
theorem dX5_isLawful_17 : decode cX5_isLawful 17 = .ok (.ishr, 1) := by decide +kernel
theorem dX5_isLawful_18 : decode cX5_isLawful 18 = .ok (.iconst 1, 1) := by decide +kernel
theorem dX5_isLawful_19 : decode cX5_isLawful 19 = .ok (.iand, 1) := by decide +kernel
theorem dX5_isLawful_20 : decode cX5_isLawful 20 = .ok (.ifCond .ne 6, 3) := by decide +kernel
theorem dX5_isLawful_23 : decode cX5_isLawful 23 = .ok (.goto 25, 3) := by decide +kernel
theorem dX5_isLawful_26 : decode cX5_isLawful 26 = .ok (.aload_n 0, 1) := by decide +kernel
theorem dX5_isLawful_27 : decode cX5_isLawful 27 = .ok (.getfield 15, 3) := by decide +kernel
theorem dX5_isLawful_30 : decode cX5_isLawful 30 = .ok (.iload_n 2, 1) := by decide +kernel
theorem dX5_isLawful_31 : decode cX5_isLawful 31 = .ok (.aload_n 0, 1) := by decide +kernel
theorem dX5_isLawful_32 : decode cX5_isLawful 32 = .ok (.getfield 18, 3) := by decide +kernel
theorem dX5_isLawful_35 : decode cX5_isLawful 35 = .ok (.getfield 44, 3) := by decide +kernel
theorem dX5_isLawful_38 : decode cX5_isLawful 38 = .ok (.iload_n 3, 1) := by decide +kernel
theorem dX5_isLawful_39 : decode cX5_isLawful 39 = .ok (.invokestatic 47, 3) := by decide +kernel
theorem dX5_isLawful_42 : decode cX5_isLawful 42 = .ok (.invokestatic 40, 3) := by decide +kernel
theorem dX5_isLawful_45 : decode cX5_isLawful 45 = .ok (.iinc 2 1, 3) := by decide +kernel
theorem dX5_isLawful_48 : decode cX5_isLawful 48 = .ok (.iinc 3 1, 3) := by decide +kernel
theorem dX5_isLawful_51 : decode cX5_isLawful 51 = .ok (.goto (-47), 3) := by decide +kernel
theorem dX5_isLawful_54 : decode cX5_isLawful 54 = .ok (.aload_n 0, 1) := by decide +kernel
theorem dX5_isLawful_55 : decode cX5_isLawful 55 = .ok (.getfield 18, 3) := by decide +kernel
theorem dX5_isLawful_58 : decode cX5_isLawful 58 = .ok (.aload_n 0, 1) := by decide +kernel
theorem dX5_isLawful_59 : decode cX5_isLawful 59 = .ok (.getfield 15, 3) := by decide +kernel
theorem dX5_isLawful_62 : decode cX5_isLawful 62 = .ok (.iload_n 2, 1) := by decide +kernel
theorem dX5_isLawful_63 : decode cX5_isLawful 63 = .ok (.invokevirtual 51, 3) := by decide +kernel
theorem dX5_isLawful_66 : decode cX5_isLawful 66 = .ok (.ireturn, 1) := by decide +kernel
theorem dX5_mostFrom_0 : decode cX5_mostFrom 0 = .ok (.iconst 0, 1) := by decide +kernel
theorem dX5_mostFrom_1 : decode cX5_mostFrom 1 = .ok (.istore_n 2, 1) := by decide +kernel
theorem dX5_mostFrom_2 : decode cX5_mostFrom 2 = .ok (.iconst 0, 1) := by decide +kernel
theorem dX5_mostFrom_3 : decode cX5_mostFrom 3 = .ok (.istore_n 3, 1) := by decide +kernel
theorem dX5_mostFrom_4 : decode cX5_mostFrom 4 = .ok (.iload_n 3, 1) := by decide +kernel
theorem dX5_mostFrom_5 : decode cX5_mostFrom 5 = .ok (.aload_n 0, 1) := by decide +kernel
theorem dX5_mostFrom_6 : decode cX5_mostFrom 6 = .ok (.getfield 18, 3) := by decide +kernel
theorem dX5_mostFrom_9 : decode cX5_mostFrom 9 = .ok (.getfield 22, 3) := by decide +kernel
theorem dX5_mostFrom_12 : decode cX5_mostFrom 12 = .ok (.if_icmp .ge 39, 3) := by decide +kernel
theorem dX5_mostFrom_15 : decode cX5_mostFrom 15 = .ok (.iload_n 1, 1) := by decide +kernel
theorem dX5_mostFrom_16 : decode cX5_mostFrom 16 = .ok (.iload_n 3, 1) := by decide +kernel
theorem dX5_mostFrom_17 : decode cX5_mostFrom 17 = .ok (.ishr, 1) := by decide +kernel
theorem dX5_mostFrom_18 : decode cX5_mostFrom 18 = .ok (.iconst 1, 1) := by decide +kernel
theorem dX5_mostFrom_19 : decode cX5_mostFrom 19 = .ok (.iand, 1) := by decide +kernel
theorem dX5_mostFrom_20 : decode cX5_mostFrom 20 = .ok (.iconst 1, 1) := by decide +kernel
theorem dX5_mostFrom_21 : decode cX5_mostFrom 21 = .ok (.if_icmp .ne 24, 3) := by decide +kernel
theorem dX5_mostFrom_24 : decode cX5_mostFrom 24 = .ok (.iload_n 2, 1) := by decide +kernel
theorem dX5_mostFrom_25 : decode cX5_mostFrom 25 = .ok (.aload_n 0, 1) := by decide +kernel
theorem dX5_mostFrom_26 : decode cX5_mostFrom 26 = .ok (.getfield 9, 3) := by decide +kernel
theorem dX5_mostFrom_29 : decode cX5_mostFrom 29 = .ok (.iload_n 1, 1) := by decide +kernel
theorem dX5_mostFrom_30 : decode cX5_mostFrom 30 = .ok (.iconst 1, 1) := by decide +kernel
theorem dX5_mostFrom_31 : decode cX5_mostFrom 31 = .ok (.iload_n 3, 1) := by decide +kernel
theorem dX5_mostFrom_32 : decode cX5_mostFrom 32 = .ok (.ishl, 1) := by decide +kernel
theorem dX5_mostFrom_33 : decode cX5_mostFrom 33 = .ok (.iconst (-1), 1) := by decide +kernel
theorem dX5_mostFrom_34 : decode cX5_mostFrom 34 = .ok (.ixor, 1) := by decide +kernel
theorem dX5_mostFrom_35 : decode cX5_mostFrom 35 = .ok (.iand, 1) := by decide +kernel
theorem dX5_mostFrom_36 : decode cX5_mostFrom 36 = .ok (.invokestatic 47, 3) := by decide +kernel
theorem dX5_mostFrom_39 : decode cX5_mostFrom 39 = .ok (.iconst 1, 1) := by decide +kernel
theorem dX5_mostFrom_40 : decode cX5_mostFrom 40 = .ok (.iadd, 1) := by decide +kernel
theorem dX5_mostFrom_41 : decode cX5_mostFrom 41 = .ok (.invokestatic 54, 3) := by decide +kernel
theorem dX5_mostFrom_44 : decode cX5_mostFrom 44 = .ok (.istore_n 2, 1) := by decide +kernel
theorem dX5_mostFrom_45 : decode cX5_mostFrom 45 = .ok (.iinc 3 1, 3) := by decide +kernel
theorem dX5_mostFrom_48 : decode cX5_mostFrom 48 = .ok (.goto (-44), 3) := by decide +kernel
theorem dX5_mostFrom_51 : decode cX5_mostFrom 51 = .ok (.iload_n 2, 1) := by decide +kernel
theorem dX5_mostFrom_52 : decode cX5_mostFrom 52 = .ok (.ireturn, 1) := by decide +kernel
theorem dX5_sale_0 : decode cX5_sale 0 = .ok (.aload_n 0, 1) := by decide +kernel
theorem dX5_sale_1 : decode cX5_sale 1 = .ok (.invokevirtual 28, 3) := by decide +kernel
theorem dX5_sale_4 : decode cX5_sale 4 = .ok (.istore_n 2, 1) := by decide +kernel
theorem dX5_sale_5 : decode cX5_sale 5 = .ok (.bipush (-2), 2) := by decide +kernel
theorem dX5_sale_7 : decode cX5_sale 7 = .ok (.istore_n 3, 1) := by decide +kernel
theorem dX5_sale_8 : decode cX5_sale 8 = .ok (.iconst 0, 1) := by decide +kernel
theorem dX5_sale_9 : decode cX5_sale 9 = .ok (.istore 4, 2) := by decide +kernel
theorem dX5_sale_11 : decode cX5_sale 11 = .ok (.iload 4, 2) := by decide +kernel
theorem dX5_sale_13 : decode cX5_sale 13 = .ok (.iload_n 1, 1) := by decide +kernel
theorem dX5_sale_14 : decode cX5_sale 14 = .ok (.if_icmp .gt 39, 3) := by decide +kernel
theorem dX5_sale_17 : decode cX5_sale 17 = .ok (.aload_n 0, 1) := by decide +kernel
theorem dX5_sale_18 : decode cX5_sale 18 = .ok (.iload_n 2, 1) := by decide +kernel
theorem dX5_sale_19 : decode cX5_sale 19 = .ok (.invokevirtual 60, 3) := by decide +kernel
theorem dX5_sale_22 : decode cX5_sale 22 = .ok (.istore_n 3, 1) := by decide +kernel
theorem dX5_sale_23 : decode cX5_sale 23 = .ok (.iload_n 3, 1) := by decide +kernel
theorem dX5_sale_24 : decode cX5_sale 24 = .ok (.bipush (-2), 2) := by decide +kernel
theorem dX5_sale_26 : decode cX5_sale 26 = .ok (.if_icmp .ne 6, 3) := by decide +kernel
theorem dX5_sale_29 : decode cX5_sale 29 = .ok (.bipush (-2), 2) := by decide +kernel
theorem dX5_sale_31 : decode cX5_sale 31 = .ok (.ireturn, 1) := by decide +kernel
theorem dX5_sale_32 : decode cX5_sale 32 = .ok (.iload_n 2, 1) := by decide +kernel
theorem dX5_sale_33 : decode cX5_sale 33 = .ok (.iconst 1, 1) := by decide +kernel
theorem dX5_sale_34 : decode cX5_sale 34 = .ok (.aload_n 0, 1) := by decide +kernel
theorem dX5_sale_35 : decode cX5_sale 35 = .ok (.getfield 18, 3) := by decide +kernel
theorem dX5_sale_38 : decode cX5_sale 38 = .ok (.iload_n 3, 1) := by decide +kernel
theorem dX5_sale_39 : decode cX5_sale 39 = .ok (.invokevirtual 63, 3) := by decide +kernel
theorem dX5_sale_42 : decode cX5_sale 42 = .ok (.ishl, 1) := by decide +kernel
theorem dX5_sale_43 : decode cX5_sale 43 = .ok (.iconst (-1), 1) := by decide +kernel
theorem dX5_sale_44 : decode cX5_sale 44 = .ok (.ixor, 1) := by decide +kernel
theorem dX5_sale_45 : decode cX5_sale 45 = .ok (.iand, 1) := by decide +kernel
theorem dX5_sale_46 : decode cX5_sale 46 = .ok (.istore_n 2, 1) := by decide +kernel
theorem dX5_sale_47 : decode cX5_sale 47 = .ok (.iinc 4 1, 3) := by decide +kernel
theorem dX5_sale_50 : decode cX5_sale 50 = .ok (.goto (-39), 3) := by decide +kernel
theorem dX5_sale_53 : decode cX5_sale 53 = .ok (.iload_n 3, 1) := by decide +kernel
theorem dX5_sale_54 : decode cX5_sale 54 = .ok (.ireturn, 1) := by decide +kernel
theorem dX5_firstSale_0 : decode cX5_firstSale 0 = .ok (.aload_n 0, 1) := by decide +kernel
theorem dX5_firstSale_1 : decode cX5_firstSale 1 = .ok (.iload_n 1, 1) := by decide +kernel
theorem dX5_firstSale_2 : decode cX5_firstSale 2 = .ok (.invokevirtual 36, 3) := by decide +kernel
theorem dX5_firstSale_5 : decode cX5_firstSale 5 = .ok (.istore_n 2, 1) := by decide +kernel
theorem dX5_firstSale_6 : decode cX5_firstSale 6 = .ok (.iconst 0, 1) := by decide +kernel
theorem dX5_firstSale_7 : decode cX5_firstSale 7 = .ok (.istore_n 3, 1) := by decide +kernel
theorem dX5_firstSale_8 : decode cX5_firstSale 8 = .ok (.iload_n 3, 1) := by decide +kernel
theorem dX5_firstSale_9 : decode cX5_firstSale 9 = .ok (.bipush 8, 2) := by decide +kernel
theorem dX5_firstSale_11 : decode cX5_firstSale 11 = .ok (.if_icmp .ge 71, 3) := by decide +kernel
theorem dX5_firstSale_14 : decode cX5_firstSale 14 = .ok (.aload_n 0, 1) := by decide +kernel
theorem dX5_firstSale_15 : decode cX5_firstSale 15 = .ok (.getfield 18, 3) := by decide +kernel
theorem dX5_firstSale_18 : decode cX5_firstSale 18 = .ok (.iload_n 3, 1) := by decide +kernel
theorem dX5_firstSale_19 : decode cX5_firstSale 19 = .ok (.invokevirtual 63, 3) := by decide +kernel
theorem dX5_firstSale_22 : decode cX5_firstSale 22 = .ok (.istore 4, 2) := by decide +kernel
theorem dX5_firstSale_24 : decode cX5_firstSale 24 = .ok (.iload 4, 2) := by decide +kernel
theorem dX5_firstSale_26 : decode cX5_firstSale 26 = .ok (.bipush (-2), 2) := by decide +kernel
theorem dX5_firstSale_28 : decode cX5_firstSale 28 = .ok (.if_icmp .eq 48, 3) := by decide +kernel
theorem dX5_firstSale_31 : decode cX5_firstSale 31 = .ok (.iload_n 1, 1) := by decide +kernel
theorem dX5_firstSale_32 : decode cX5_firstSale 32 = .ok (.iload 4, 2) := by decide +kernel
theorem dX5_firstSale_34 : decode cX5_firstSale 34 = .ok (.ishr, 1) := by decide +kernel
theorem dX5_firstSale_35 : decode cX5_firstSale 35 = .ok (.iconst 1, 1) := by decide +kernel
theorem dX5_firstSale_36 : decode cX5_firstSale 36 = .ok (.iand, 1) := by decide +kernel
theorem dX5_firstSale_37 : decode cX5_firstSale 37 = .ok (.ifCond .ne 6, 3) := by decide +kernel
theorem dX5_firstSale_40 : decode cX5_firstSale 40 = .ok (.goto 36, 3) := by decide +kernel
theorem dX5_firstSale_43 : decode cX5_firstSale 43 = .ok (.aload_n 0, 1) := by decide +kernel
theorem dX5_firstSale_44 : decode cX5_firstSale 44 = .ok (.getfield 9, 3) := by decide +kernel
theorem dX5_firstSale_47 : decode cX5_firstSale 47 = .ok (.iload_n 1, 1) := by decide +kernel
theorem dX5_firstSale_48 : decode cX5_firstSale 48 = .ok (.iconst 1, 1) := by decide +kernel
theorem dX5_firstSale_49 : decode cX5_firstSale 49 = .ok (.iload 4, 2) := by decide +kernel
theorem dX5_firstSale_51 : decode cX5_firstSale 51 = .ok (.ishl, 1) := by decide +kernel
theorem dX5_firstSale_52 : decode cX5_firstSale 52 = .ok (.iconst (-1), 1) := by decide +kernel
theorem dX5_firstSale_53 : decode cX5_firstSale 53 = .ok (.ixor, 1) := by decide +kernel
theorem dX5_firstSale_54 : decode cX5_firstSale 54 = .ok (.iand, 1) := by decide +kernel
theorem dX5_firstSale_55 : decode cX5_firstSale 55 = .ok (.invokestatic 47, 3) := by decide +kernel
theorem dX5_firstSale_58 : decode cX5_firstSale 58 = .ok (.istore 5, 2) := by decide +kernel
theorem dX5_firstSale_60 : decode cX5_firstSale 60 = .ok (.iload 5, 2) := by decide +kernel
theorem dX5_firstSale_62 : decode cX5_firstSale 62 = .ok (.iconst (-1), 1) := by decide +kernel
theorem dX5_firstSale_63 : decode cX5_firstSale 63 = .ok (.if_icmp .eq 13, 3) := by decide +kernel
theorem dX5_firstSale_66 : decode cX5_firstSale 66 = .ok (.iload 5, 2) := by decide +kernel
theorem dX5_firstSale_68 : decode cX5_firstSale 68 = .ok (.iconst 1, 1) := by decide +kernel
theorem dX5_firstSale_69 : decode cX5_firstSale 69 = .ok (.iadd, 1) := by decide +kernel
theorem dX5_firstSale_70 : decode cX5_firstSale 70 = .ok (.iload_n 2, 1) := by decide +kernel
theorem dX5_firstSale_71 : decode cX5_firstSale 71 = .ok (.if_icmp .ne 5, 3) := by decide +kernel
theorem dX5_firstSale_74 : decode cX5_firstSale 74 = .ok (.iload_n 3, 1) := by decide +kernel
theorem dX5_firstSale_75 : decode cX5_firstSale 75 = .ok (.ireturn, 1) := by decide +kernel
theorem dX5_firstSale_76 : decode cX5_firstSale 76 = .ok (.iinc 3 1, 3) := by decide +kernel
theorem dX5_firstSale_79 : decode cX5_firstSale 79 = .ok (.goto (-71), 3) := by decide +kernel
theorem dX5_firstSale_82 : decode cX5_firstSale 82 = .ok (.bipush (-2), 2) := by decide +kernel
theorem dX5_firstSale_84 : decode cX5_firstSale 84 = .ok (.ireturn, 1) := by decide +kernel
theorem dX6_init_0 : decode cX6_init 0 = .ok (.aload_n 0, 1) := by decide +kernel
theorem dX6_init_1 : decode cX6_init 1 = .ok (.invokespecial 3, 3) := by decide +kernel
theorem dX6_init_4 : decode cX6_init 4 = .ok (.aload_n 0, 1) := by decide +kernel
theorem dX6_init_5 : decode cX6_init 5 = .ok (.bipush 6, 2) := by decide +kernel
theorem dX6_init_7 : decode cX6_init 7 = .ok (.newarray .int, 2) := by decide +kernel
theorem dX6_init_9 : decode cX6_init 9 = .ok (.putfield 11, 3) := by decide +kernel
theorem dX6_init_12 : decode cX6_init 12 = .ok (.aload_n 0, 1) := by decide +kernel
theorem dX6_init_13 : decode cX6_init 13 = .ok (.bipush 6, 2) := by decide +kernel
theorem dX6_init_15 : decode cX6_init 15 = .ok (.newarray .int, 2) := by decide +kernel
theorem dX6_init_17 : decode cX6_init 17 = .ok (.putfield 15, 3) := by decide +kernel
theorem dX6_init_20 : decode cX6_init 20 = .ok (.aload_n 0, 1) := by decide +kernel
theorem dX6_init_21 : decode cX6_init 21 = .ok (.sipush 360, 3) := by decide +kernel
theorem dX6_init_24 : decode cX6_init 24 = .ok (.newarray .long, 2) := by decide +kernel
theorem dX6_init_26 : decode cX6_init 26 = .ok (.putfield 18, 3) := by decide +kernel
theorem dX6_init_29 : decode cX6_init 29 = .ok (.iconst 0, 1) := by decide +kernel
theorem dX6_init_30 : decode cX6_init 30 = .ok (.istore_n 1, 1) := by decide +kernel
theorem dX6_init_31 : decode cX6_init 31 = .ok (.iload_n 1, 1) := by decide +kernel
theorem dX6_init_32 : decode cX6_init 32 = .ok (.bipush 6, 2) := by decide +kernel
theorem dX6_init_34 : decode cX6_init 34 = .ok (.if_icmp .ge 19, 3) := by decide +kernel
theorem dX6_init_37 : decode cX6_init 37 = .ok (.aload_n 0, 1) := by decide +kernel
theorem dX6_init_38 : decode cX6_init 38 = .ok (.getfield 11, 3) := by decide +kernel
theorem dX6_init_41 : decode cX6_init 41 = .ok (.iload_n 1, 1) := by decide +kernel
theorem dX6_init_42 : decode cX6_init 42 = .ok (.bipush (-2), 2) := by decide +kernel
theorem dX6_init_44 : decode cX6_init 44 = .ok (.invokestatic 22, 3) := by decide +kernel
theorem dX6_init_47 : decode cX6_init 47 = .ok (.iinc 1 1, 3) := by decide +kernel
theorem dX6_init_50 : decode cX6_init 50 = .ok (.goto (-19), 3) := by decide +kernel
theorem dX6_init_53 : decode cX6_init 53 = .ok (.return_, 1) := by decide +kernel
theorem dX6_has_0 : decode cX6_has 0 = .ok (.iload_n 1, 1) := by decide +kernel
theorem dX6_has_1 : decode cX6_has 1 = .ok (.ifCond .lt 13, 3) := by decide +kernel
theorem dX6_has_4 : decode cX6_has 4 = .ok (.iload_n 1, 1) := by decide +kernel
theorem dX6_has_5 : decode cX6_has 5 = .ok (.bipush 6, 2) := by decide +kernel
theorem dX6_has_7 : decode cX6_has 7 = .ok (.if_icmp .ge 7, 3) := by decide +kernel
theorem dX6_has_10 : decode cX6_has 10 = .ok (.iconst 1, 1) := by decide +kernel
theorem dX6_has_11 : decode cX6_has 11 = .ok (.goto 4, 3) := by decide +kernel
theorem dX6_has_14 : decode cX6_has 14 = .ok (.iconst 0, 1) := by decide +kernel
theorem dX6_has_15 : decode cX6_has 15 = .ok (.ireturn, 1) := by decide +kernel
theorem dX6_isEmpty_0 : decode cX6_isEmpty 0 = .ok (.aload_n 0, 1) := by decide +kernel
theorem dX6_isEmpty_1 : decode cX6_isEmpty 1 = .ok (.getfield 11, 3) := by decide +kernel
theorem dX6_isEmpty_4 : decode cX6_isEmpty 4 = .ok (.iload_n 1, 1) := by decide +kernel
theorem dX6_isEmpty_5 : decode cX6_isEmpty 5 = .ok (.invokestatic 26, 3) := by decide +kernel
theorem dX6_isEmpty_8 : decode cX6_isEmpty 8 = .ok (.bipush (-2), 2) := by decide +kernel
theorem dX6_isEmpty_10 : decode cX6_isEmpty 10 = .ok (.if_icmp .ne 7, 3) := by decide +kernel
theorem dX6_isEmpty_13 : decode cX6_isEmpty 13 = .ok (.iconst 1, 1) := by decide +kernel
theorem dX6_isEmpty_14 : decode cX6_isEmpty 14 = .ok (.goto 4, 3) := by decide +kernel
theorem dX6_isEmpty_17 : decode cX6_isEmpty 17 = .ok (.iconst 0, 1) := by decide +kernel
theorem dX6_isEmpty_18 : decode cX6_isEmpty 18 = .ok (.ireturn, 1) := by decide +kernel
theorem dX6_holdsBody_0 : decode cX6_holdsBody 0 = .ok (.aload_n 0, 1) := by decide +kernel
theorem dX6_holdsBody_1 : decode cX6_holdsBody 1 = .ok (.getfield 11, 3) := by decide +kernel
theorem dX6_holdsBody_4 : decode cX6_holdsBody 4 = .ok (.iload_n 1, 1) := by decide +kernel
theorem dX6_holdsBody_5 : decode cX6_holdsBody 5 = .ok (.invokestatic 26, 3) := by decide +kernel
theorem dX6_holdsBody_8 : decode cX6_holdsBody 8 = .ok (.iconst (-1), 1) := by decide +kernel
theorem dX6_holdsBody_9 : decode cX6_holdsBody 9 = .ok (.if_icmp .ne 7, 3) := by decide +kernel
theorem dX6_holdsBody_12 : decode cX6_holdsBody 12 = .ok (.iconst 1, 1) := by decide +kernel
theorem dX6_holdsBody_13 : decode cX6_holdsBody 13 = .ok (.goto 4, 3) := by decide +kernel
theorem dX6_holdsBody_16 : decode cX6_holdsBody 16 = .ok (.iconst 0, 1) := by decide +kernel
theorem dX6_holdsBody_17 : decode cX6_holdsBody 17 = .ok (.ireturn, 1) := by decide +kernel
theorem dX6_bodyOn_0 : decode cX6_bodyOn 0 = .ok (.aload_n 0, 1) := by decide +kernel
theorem dX6_bodyOn_1 : decode cX6_bodyOn 1 = .ok (.getfield 15, 3) := by decide +kernel
theorem dX6_bodyOn_4 : decode cX6_bodyOn 4 = .ok (.iload_n 1, 1) := by decide +kernel
theorem dX6_bodyOn_5 : decode cX6_bodyOn 5 = .ok (.invokestatic 26, 3) := by decide +kernel
theorem dX6_bodyOn_8 : decode cX6_bodyOn 8 = .ok (.ireturn, 1) := by decide +kernel
theorem dX6_length_0 : decode cX6_length 0 = .ok (.aload_n 0, 1) := by decide +kernel
theorem dX6_length_1 : decode cX6_length 1 = .ok (.getfield 11, 3) := by decide +kernel
theorem dX6_length_4 : decode cX6_length 4 = .ok (.iload_n 1, 1) := by decide +kernel
theorem dX6_length_5 : decode cX6_length 5 = .ok (.invokestatic 26, 3) := by decide +kernel
theorem dX6_length_8 : decode cX6_length 8 = .ok (.ifCond .lt 14, 3) := by decide +kernel
theorem dX6_length_11 : decode cX6_length 11 = .ok (.aload_n 0, 1) := by decide +kernel
theorem dX6_length_12 : decode cX6_length 12 = .ok (.getfield 15, 3) := by decide +kernel
theorem dX6_length_15 : decode cX6_length 15 = .ok (.iload_n 1, 1) := by decide +kernel
theorem dX6_length_16 : decode cX6_length 16 = .ok (.invokestatic 26, 3) := by decide +kernel
theorem dX6_length_19 : decode cX6_length 19 = .ok (.goto 4, 3) := by decide +kernel
theorem dX6_length_22 : decode cX6_length 22 = .ok (.iconst 0, 1) := by decide +kernel
theorem dX6_length_23 : decode cX6_length 23 = .ok (.ireturn, 1) := by decide +kernel
theorem dX6_hold_0 : decode cX6_hold 0 = .ok (.aload_n 0, 1) := by decide +kernel
theorem dX6_hold_1 : decode cX6_hold 1 = .ok (.getfield 11, 3) := by decide +kernel
theorem dX6_hold_4 : decode cX6_hold 4 = .ok (.iload_n 1, 1) := by decide +kernel
theorem dX6_hold_5 : decode cX6_hold 5 = .ok (.iload_n 2, 1) := by decide +kernel
theorem dX6_hold_6 : decode cX6_hold 6 = .ok (.invokestatic 22, 3) := by decide +kernel
theorem dX6_hold_9 : decode cX6_hold 9 = .ok (.aload_n 0, 1) := by decide +kernel
theorem dX6_hold_10 : decode cX6_hold 10 = .ok (.getfield 15, 3) := by decide +kernel
theorem dX6_hold_13 : decode cX6_hold 13 = .ok (.iload_n 1, 1) := by decide +kernel
theorem dX6_hold_14 : decode cX6_hold 14 = .ok (.iload_n 3, 1) := by decide +kernel
theorem dX6_hold_15 : decode cX6_hold 15 = .ok (.invokestatic 22, 3) := by decide +kernel
theorem dX6_hold_18 : decode cX6_hold 18 = .ok (.iconst 0, 1) := by decide +kernel
theorem dX6_hold_19 : decode cX6_hold 19 = .ok (.istore 4, 2) := by decide +kernel
theorem dX6_hold_21 : decode cX6_hold 21 = .ok (.iload 4, 2) := by decide +kernel
theorem dX6_hold_23 : decode cX6_hold 23 = .ok (.bipush 60, 2) := by decide +kernel
theorem dX6_hold_25 : decode cX6_hold 25 = .ok (.if_icmp .ge 17, 3) := by decide +kernel
theorem dX6_hold_28 : decode cX6_hold 28 = .ok (.aload_n 0, 1) := by decide +kernel
theorem dX6_hold_29 : decode cX6_hold 29 = .ok (.iload_n 1, 1) := by decide +kernel
theorem dX6_hold_30 : decode cX6_hold 30 = .ok (.iload 4, 2) := by decide +kernel
theorem dX6_hold_32 : decode cX6_hold 32 = .ok (.lconst 0, 1) := by decide +kernel
theorem dX6_hold_33 : decode cX6_hold 33 = .ok (.invokevirtual 30, 3) := by decide +kernel
theorem dX6_hold_36 : decode cX6_hold 36 = .ok (.iinc 4 1, 3) := by decide +kernel
theorem dX6_hold_39 : decode cX6_hold 39 = .ok (.goto (-18), 3) := by decide +kernel
theorem dX6_hold_42 : decode cX6_hold 42 = .ok (.return_, 1) := by decide +kernel
theorem dX6_refusesRow_0 : decode cX6_refusesRow 0 = .ok (.aload_n 0, 1) := by decide +kernel
theorem dX6_refusesRow_1 : decode cX6_refusesRow 1 = .ok (.iload_n 1, 1) := by decide +kernel
theorem dX6_refusesRow_2 : decode cX6_refusesRow 2 = .ok (.invokevirtual 34, 3) := by decide +kernel
theorem dX6_refusesRow_5 : decode cX6_refusesRow 5 = .ok (.ifCond .ne 5, 3) := by decide +kernel
theorem dX6_refusesRow_8 : decode cX6_refusesRow 8 = .ok (.iconst (-1), 1) := by decide +kernel
theorem dX6_refusesRow_9 : decode cX6_refusesRow 9 = .ok (.ireturn, 1) := by decide +kernel
theorem dX6_refusesRow_10 : decode cX6_refusesRow 10 = .ok (.aload_n 0, 1) := by decide +kernel
theorem dX6_refusesRow_11 : decode cX6_refusesRow 11 = .ok (.iload_n 1, 1) := by decide +kernel
theorem dX6_refusesRow_12 : decode cX6_refusesRow 12 = .ok (.invokevirtual 38, 3) := by decide +kernel
theorem dX6_refusesRow_15 : decode cX6_refusesRow 15 = .ok (.ifCond .eq 6, 3) := by decide +kernel
theorem dX6_refusesRow_18 : decode cX6_refusesRow 18 = .ok (.bipush (-11), 2) := by decide +kernel
theorem dX6_refusesRow_20 : decode cX6_refusesRow 20 = .ok (.ireturn, 1) := by decide +kernel
theorem dX6_refusesRow_21 : decode cX6_refusesRow 21 = .ok (.aload_n 0, 1) := by decide +kernel
theorem dX6_refusesRow_22 : decode cX6_refusesRow 22 = .ok (.iload_n 1, 1) := by decide +kernel
theorem dX6_refusesRow_23 : decode cX6_refusesRow 23 = .ok (.invokevirtual 41, 3) := by decide +kernel
theorem dX6_refusesRow_26 : decode cX6_refusesRow 26 = .ok (.ifCond .eq 8, 3) := by decide +kernel
theorem dX6_refusesRow_29 : decode cX6_refusesRow 29 = .ok (.bipush (-12), 2) := by decide +kernel
theorem dX6_refusesRow_31 : decode cX6_refusesRow 31 = .ok (.goto 4, 3) := by decide +kernel
theorem dX6_refusesRow_34 : decode cX6_refusesRow 34 = .ok (.iconst 0, 1) := by decide +kernel
theorem dX6_refusesRow_35 : decode cX6_refusesRow 35 = .ok (.ireturn, 1) := by decide +kernel
theorem dX6_refusesBytes_0 : decode cX6_refusesBytes 0 = .ok (.aload_n 0, 1) := by decide +kernel
theorem dX6_refusesBytes_1 : decode cX6_refusesBytes 1 = .ok (.iload_n 1, 1) := by decide +kernel
theorem dX6_refusesBytes_2 : decode cX6_refusesBytes 2 = .ok (.invokevirtual 44, 3) := by decide +kernel
theorem dX6_refusesBytes_5 : decode cX6_refusesBytes 5 = .ok (.istore_n 2, 1) := by decide +kernel
theorem dX6_refusesBytes_6 : decode cX6_refusesBytes 6 = .ok (.iload_n 2, 1) := by decide +kernel
theorem dX6_refusesBytes_7 : decode cX6_refusesBytes 7 = .ok (.ifCond .eq 5, 3) := by decide +kernel
theorem dX6_refusesBytes_10 : decode cX6_refusesBytes 10 = .ok (.iload_n 2, 1) := by decide +kernel
theorem dX6_refusesBytes_11 : decode cX6_refusesBytes 11 = .ok (.ireturn, 1) := by decide +kernel
theorem dX6_refusesBytes_12 : decode cX6_refusesBytes 12 = .ok (.aload_n 0, 1) := by decide +kernel
theorem dX6_refusesBytes_13 : decode cX6_refusesBytes 13 = .ok (.getfield 11, 3) := by decide +kernel
theorem dX6_refusesBytes_16 : decode cX6_refusesBytes 16 = .ok (.iload_n 1, 1) := by decide +kernel
theorem dX6_refusesBytes_17 : decode cX6_refusesBytes 17 = .ok (.invokestatic 26, 3) := by decide +kernel
theorem dX6_refusesBytes_20 : decode cX6_refusesBytes 20 = .ok (.ifCond .ne 7, 3) := by decide +kernel
theorem dX6_refusesBytes_23 : decode cX6_refusesBytes 23 = .ok (.iconst 0, 1) := by decide +kernel
theorem dX6_refusesBytes_24 : decode cX6_refusesBytes 24 = .ok (.goto 5, 3) := by decide +kernel
theorem dX6_refusesBytes_27 : decode cX6_refusesBytes 27 = .ok (.bipush (-12), 2) := by decide +kernel
theorem dX6_refusesBytes_29 : decode cX6_refusesBytes 29 = .ok (.ireturn, 1) := by decide +kernel
theorem dX6_refusesElement_0 : decode cX6_refusesElement 0 = .ok (.aload_n 0, 1) := by decide +kernel
theorem dX6_refusesElement_1 : decode cX6_refusesElement 1 = .ok (.iload_n 1, 1) := by decide +kernel
theorem dX6_refusesElement_2 : decode cX6_refusesElement 2 = .ok (.invokevirtual 44, 3) := by decide +kernel
theorem dX6_refusesElement_5 : decode cX6_refusesElement 5 = .ok (.istore_n 3, 1) := by decide +kernel
theorem dX6_refusesElement_6 : decode cX6_refusesElement 6 = .ok (.iload_n 3, 1) := by decide +kernel
theorem dX6_refusesElement_7 : decode cX6_refusesElement 7 = .ok (.ifCond .eq 5, 3) := by decide +kernel
theorem dX6_refusesElement_10 : decode cX6_refusesElement 10 = .ok (.iload_n 3, 1) := by decide +kernel
theorem dX6_refusesElement_11 : decode cX6_refusesElement 11 = .ok (.ireturn, 1) := by decide +kernel
theorem dX6_refusesElement_12 : decode cX6_refusesElement 12 = .ok (.iload_n 2, 1) := by decide +kernel
theorem dX6_refusesElement_13 : decode cX6_refusesElement 13 = .ok (.ifCond .lt 16, 3) := by decide +kernel
theorem dX6_refusesElement_16 : decode cX6_refusesElement 16 = .ok (.iload_n 2, 1) := by decide +kernel
theorem dX6_refusesElement_17 : decode cX6_refusesElement 17 = .ok (.aload_n 0, 1) := by decide +kernel
theorem dX6_refusesElement_18 : decode cX6_refusesElement 18 = .ok (.iload_n 1, 1) := by decide +kernel
theorem dX6_refusesElement_19 : decode cX6_refusesElement 19 = .ok (.invokevirtual 48, 3) := by decide +kernel
theorem dX6_refusesElement_22 : decode cX6_refusesElement 22 = .ok (.if_icmp .ge 7, 3) := by decide +kernel
theorem dX6_refusesElement_25 : decode cX6_refusesElement 25 = .ok (.iconst 0, 1) := by decide +kernel
theorem dX6_refusesElement_26 : decode cX6_refusesElement 26 = .ok (.goto 5, 3) := by decide +kernel
theorem dX6_refusesElement_29 : decode cX6_refusesElement 29 = .ok (.bipush (-13), 2) := by decide +kernel
theorem dX6_refusesElement_31 : decode cX6_refusesElement 31 = .ok (.ireturn, 1) := by decide +kernel
theorem dX6_refusesPair_0 : decode cX6_refusesPair 0 = .ok (.aload_n 0, 1) := by decide +kernel
theorem dX6_refusesPair_1 : decode cX6_refusesPair 1 = .ok (.iload_n 1, 1) := by decide +kernel
theorem dX6_refusesPair_2 : decode cX6_refusesPair 2 = .ok (.invokevirtual 34, 3) := by decide +kernel
theorem dX6_refusesPair_5 : decode cX6_refusesPair 5 = .ok (.ifCond .eq 11, 3) := by decide +kernel
theorem dX6_refusesPair_8 : decode cX6_refusesPair 8 = .ok (.aload_n 0, 1) := by decide +kernel
theorem dX6_refusesPair_9 : decode cX6_refusesPair 9 = .ok (.iload_n 2, 1) := by decide +kernel
theorem dX6_refusesPair_10 : decode cX6_refusesPair 10 = .ok (.invokevirtual 34, 3) := by decide +kernel
theorem dX6_refusesPair_13 : decode cX6_refusesPair 13 = .ok (.ifCond .ne 5, 3) := by decide +kernel
theorem dX6_refusesPair_16 : decode cX6_refusesPair 16 = .ok (.iconst (-1), 1) := by decide +kernel
theorem dX6_refusesPair_17 : decode cX6_refusesPair 17 = .ok (.ireturn, 1) := by decide +kernel
theorem dX6_refusesPair_18 : decode cX6_refusesPair 18 = .ok (.aload_n 0, 1) := by decide +kernel
theorem dX6_refusesPair_19 : decode cX6_refusesPair 19 = .ok (.iload_n 1, 1) := by decide +kernel
theorem dX6_refusesPair_20 : decode cX6_refusesPair 20 = .ok (.invokevirtual 38, 3) := by decide +kernel
theorem dX6_refusesPair_23 : decode cX6_refusesPair 23 = .ok (.ifCond .ne 11, 3) := by decide +kernel
theorem dX6_refusesPair_26 : decode cX6_refusesPair 26 = .ok (.aload_n 0, 1) := by decide +kernel
theorem dX6_refusesPair_27 : decode cX6_refusesPair 27 = .ok (.iload_n 2, 1) := by decide +kernel
theorem dX6_refusesPair_28 : decode cX6_refusesPair 28 = .ok (.invokevirtual 38, 3) := by decide +kernel
theorem dX6_refusesPair_31 : decode cX6_refusesPair 31 = .ok (.ifCond .eq 6, 3) := by decide +kernel
theorem dX6_refusesPair_34 : decode cX6_refusesPair 34 = .ok (.bipush (-11), 2) := by decide +kernel
theorem dX6_refusesPair_36 : decode cX6_refusesPair 36 = .ok (.ireturn, 1) := by decide +kernel
theorem dX6_refusesPair_37 : decode cX6_refusesPair 37 = .ok (.aload_n 0, 1) := by decide +kernel
theorem dX6_refusesPair_38 : decode cX6_refusesPair 38 = .ok (.getfield 11, 3) := by decide +kernel
theorem dX6_refusesPair_41 : decode cX6_refusesPair 41 = .ok (.iload_n 1, 1) := by decide +kernel
theorem dX6_refusesPair_42 : decode cX6_refusesPair 42 = .ok (.invokestatic 26, 3) := by decide +kernel
theorem dX6_refusesPair_45 : decode cX6_refusesPair 45 = .ok (.ifCond .lt 26, 3) := by decide +kernel
theorem dX6_refusesPair_48 : decode cX6_refusesPair 48 = .ok (.aload_n 0, 1) := by decide +kernel
theorem dX6_refusesPair_49 : decode cX6_refusesPair 49 = .ok (.getfield 11, 3) := by decide +kernel
theorem dX6_refusesPair_52 : decode cX6_refusesPair 52 = .ok (.iload_n 1, 1) := by decide +kernel
theorem dX6_refusesPair_53 : decode cX6_refusesPair 53 = .ok (.invokestatic 26, 3) := by decide +kernel
theorem dX6_refusesPair_56 : decode cX6_refusesPair 56 = .ok (.aload_n 0, 1) := by decide +kernel
theorem dX6_refusesPair_57 : decode cX6_refusesPair 57 = .ok (.getfield 11, 3) := by decide +kernel
theorem dX6_refusesPair_60 : decode cX6_refusesPair 60 = .ok (.iload_n 2, 1) := by decide +kernel
theorem dX6_refusesPair_61 : decode cX6_refusesPair 61 = .ok (.invokestatic 26, 3) := by decide +kernel
theorem dX6_refusesPair_64 : decode cX6_refusesPair 64 = .ok (.if_icmp .ne 7, 3) := by decide +kernel
theorem dX6_refusesPair_67 : decode cX6_refusesPair 67 = .ok (.iconst 0, 1) := by decide +kernel
theorem dX6_refusesPair_68 : decode cX6_refusesPair 68 = .ok (.goto 5, 3) := by decide +kernel
theorem dX6_refusesPair_71 : decode cX6_refusesPair 71 = .ok (.bipush (-12), 2) := by decide +kernel
theorem dX6_refusesPair_73 : decode cX6_refusesPair 73 = .ok (.ireturn, 1) := by decide +kernel
theorem dX6_valueAt_0 : decode cX6_valueAt 0 = .ok (.iload_n 1, 1) := by decide +kernel
theorem dX6_valueAt_1 : decode cX6_valueAt 1 = .ok (.bipush 60, 2) := by decide +kernel
theorem dX6_valueAt_3 : decode cX6_valueAt 3 = .ok (.imul, 1) := by decide +kernel
theorem dX6_valueAt_4 : decode cX6_valueAt 4 = .ok (.iload_n 2, 1) := by decide +kernel
theorem dX6_valueAt_5 : decode cX6_valueAt 5 = .ok (.iadd, 1) := by decide +kernel
theorem dX6_valueAt_6 : decode cX6_valueAt 6 = .ok (.istore_n 3, 1) := by decide +kernel
theorem dX6_valueAt_7 : decode cX6_valueAt 7 = .ok (.iload_n 3, 1) := by decide +kernel
theorem dX6_valueAt_8 : decode cX6_valueAt 8 = .ok (.ifCond .lt 21, 3) := by decide +kernel
theorem dX6_valueAt_11 : decode cX6_valueAt 11 = .ok (.iload_n 3, 1) := by decide +kernel
theorem dX6_valueAt_12 : decode cX6_valueAt 12 = .ok (.aload_n 0, 1) := by decide +kernel
theorem dX6_valueAt_13 : decode cX6_valueAt 13 = .ok (.getfield 18, 3) := by decide +kernel
theorem dX6_valueAt_16 : decode cX6_valueAt 16 = .ok (.arraylength, 1) := by decide +kernel
theorem dX6_valueAt_17 : decode cX6_valueAt 17 = .ok (.if_icmp .ge 12, 3) := by decide +kernel
theorem dX6_valueAt_20 : decode cX6_valueAt 20 = .ok (.aload_n 0, 1) := by decide +kernel
theorem dX6_valueAt_21 : decode cX6_valueAt 21 = .ok (.getfield 18, 3) := by decide +kernel
theorem dX6_valueAt_24 : decode cX6_valueAt 24 = .ok (.iload_n 3, 1) := by decide +kernel
theorem dX6_valueAt_25 : decode cX6_valueAt 25 = .ok (.laload, 1) := by decide +kernel
theorem dX6_valueAt_26 : decode cX6_valueAt 26 = .ok (.goto 4, 3) := by decide +kernel
theorem dX6_valueAt_29 : decode cX6_valueAt 29 = .ok (.lconst 0, 1) := by decide +kernel
theorem dX6_valueAt_30 : decode cX6_valueAt 30 = .ok (.lreturn, 1) := by decide +kernel
theorem dX6_store_0 : decode cX6_store 0 = .ok (.iload_n 1, 1) := by decide +kernel
theorem dX6_store_1 : decode cX6_store 1 = .ok (.bipush 60, 2) := by decide +kernel
theorem dX6_store_3 : decode cX6_store 3 = .ok (.imul, 1) := by decide +kernel
theorem dX6_store_4 : decode cX6_store 4 = .ok (.iload_n 2, 1) := by decide +kernel
theorem dX6_store_5 : decode cX6_store 5 = .ok (.iadd, 1) := by decide +kernel
theorem dX6_store_6 : decode cX6_store 6 = .ok (.istore 5, 2) := by decide +kernel
theorem dX6_store_8 : decode cX6_store 8 = .ok (.iload 5, 2) := by decide +kernel
theorem dX6_store_10 : decode cX6_store 10 = .ok (.ifCond .lt 21, 3) := by decide +kernel
theorem dX6_store_13 : decode cX6_store 13 = .ok (.iload 5, 2) := by decide +kernel
theorem dX6_store_15 : decode cX6_store 15 = .ok (.aload_n 0, 1) := by decide +kernel
theorem dX6_store_16 : decode cX6_store 16 = .ok (.getfield 18, 3) := by decide +kernel
theorem dX6_store_19 : decode cX6_store 19 = .ok (.arraylength, 1) := by decide +kernel
theorem dX6_store_20 : decode cX6_store 20 = .ok (.if_icmp .ge 11, 3) := by decide +kernel
theorem dX6_store_23 : decode cX6_store 23 = .ok (.aload_n 0, 1) := by decide +kernel
theorem dX6_store_24 : decode cX6_store 24 = .ok (.getfield 18, 3) := by decide +kernel
theorem dX6_store_27 : decode cX6_store 27 = .ok (.iload 5, 2) := by decide +kernel
theorem dX6_store_29 : decode cX6_store 29 = .ok (.lload_n 3, 1) := by decide +kernel
theorem dX6_store_30 : decode cX6_store 30 = .ok (.lastore, 1) := by decide +kernel
theorem dX6_store_31 : decode cX6_store 31 = .ok (.return_, 1) := by decide +kernel
theorem dX6_enter_0 : decode cX6_enter 0 = .ok (.aload_n 0, 1) := by decide +kernel
theorem dX6_enter_1 : decode cX6_enter 1 = .ok (.iload_n 1, 1) := by decide +kernel
theorem dX6_enter_2 : decode cX6_enter 2 = .ok (.iload_n 2, 1) := by decide +kernel
theorem dX6_enter_3 : decode cX6_enter 3 = .ok (.aload_n 0, 1) := by decide +kernel
theorem dX6_enter_4 : decode cX6_enter 4 = .ok (.getfield 11, 3) := by decide +kernel
theorem dX6_enter_7 : decode cX6_enter 7 = .ok (.iload_n 1, 1) := by decide +kernel
theorem dX6_enter_8 : decode cX6_enter 8 = .ok (.invokestatic 26, 3) := by decide +kernel
theorem dX6_enter_11 : decode cX6_enter 11 = .ok (.lload_n 3, 1) := by decide +kernel
theorem dX6_enter_12 : decode cX6_enter 12 = .ok (.invokestatic 51, 3) := by decide +kernel
theorem dX6_enter_15 : decode cX6_enter 15 = .ok (.invokevirtual 30, 3) := by decide +kernel
theorem dX6_enter_18 : decode cX6_enter 18 = .ok (.return_, 1) := by decide +kernel
theorem dX6_narrowed_0 : decode cX6_narrowed 0 = .ok (.iload_n 0, 1) := by decide +kernel
theorem dX6_narrowed_1 : decode cX6_narrowed 1 = .ok (.tableswitch 47 0 3 #[31, 36, 41, 45], 31) := by decide +kernel
theorem dX6_narrowed_32 : decode cX6_narrowed 32 = .ok (.lload_n 1, 1) := by decide +kernel
theorem dX6_narrowed_33 : decode cX6_narrowed 33 = .ok (.l2i, 1) := by decide +kernel
theorem dX6_narrowed_34 : decode cX6_narrowed 34 = .ok (.i2b, 1) := by decide +kernel
theorem dX6_narrowed_35 : decode cX6_narrowed 35 = .ok (.i2l, 1) := by decide +kernel
theorem dX6_narrowed_36 : decode cX6_narrowed 36 = .ok (.lreturn, 1) := by decide +kernel
theorem dX6_narrowed_37 : decode cX6_narrowed 37 = .ok (.lload_n 1, 1) := by decide +kernel
theorem dX6_narrowed_38 : decode cX6_narrowed 38 = .ok (.l2i, 1) := by decide +kernel
theorem dX6_narrowed_39 : decode cX6_narrowed 39 = .ok (.i2s, 1) := by decide +kernel
theorem dX6_narrowed_40 : decode cX6_narrowed 40 = .ok (.i2l, 1) := by decide +kernel
theorem dX6_narrowed_41 : decode cX6_narrowed 41 = .ok (.lreturn, 1) := by decide +kernel
theorem dX6_narrowed_42 : decode cX6_narrowed 42 = .ok (.lload_n 1, 1) := by decide +kernel
theorem dX6_narrowed_43 : decode cX6_narrowed 43 = .ok (.l2i, 1) := by decide +kernel
theorem dX6_narrowed_44 : decode cX6_narrowed 44 = .ok (.i2l, 1) := by decide +kernel
theorem dX6_narrowed_45 : decode cX6_narrowed 45 = .ok (.lreturn, 1) := by decide +kernel
theorem dX6_narrowed_46 : decode cX6_narrowed 46 = .ok (.lload_n 1, 1) := by decide +kernel
theorem dX6_narrowed_47 : decode cX6_narrowed 47 = .ok (.lreturn, 1) := by decide +kernel
theorem dX6_narrowed_48 : decode cX6_narrowed 48 = .ok (.lload_n 1, 1) := by decide +kernel
theorem dX6_narrowed_49 : decode cX6_narrowed 49 = .ok (.lconst 0, 1) := by decide +kernel
theorem dX6_narrowed_50 : decode cX6_narrowed 50 = .ok (.lcmp, 1) := by decide +kernel
theorem dX6_narrowed_51 : decode cX6_narrowed 51 = .ok (.ifCond .eq 7, 3) := by decide +kernel
theorem dX6_narrowed_54 : decode cX6_narrowed 54 = .ok (.lconst 1, 1) := by decide +kernel
theorem dX6_narrowed_55 : decode cX6_narrowed 55 = .ok (.goto 4, 3) := by decide +kernel
theorem dX6_narrowed_58 : decode cX6_narrowed 58 = .ok (.lconst 0, 1) := by decide +kernel
theorem dX6_narrowed_59 : decode cX6_narrowed 59 = .ok (.lreturn, 1) := by decide +kernel
theorem dX6_move_0 : decode cX6_move 0 = .ok (.iload 5, 2) := by decide +kernel
theorem dX6_move_2 : decode cX6_move 2 = .ok (.ifCond .lt 12, 3) := by decide +kernel
theorem dX6_move_5 : decode cX6_move 5 = .ok (.iload_n 2, 1) := by decide +kernel
theorem dX6_move_6 : decode cX6_move 6 = .ok (.ifCond .lt 8, 3) := by decide +kernel
theorem dX6_move_9 : decode cX6_move 9 = .ok (.iload 4, 2) := by decide +kernel
theorem dX6_move_11 : decode cX6_move 11 = .ok (.ifCond .ge 5, 3) := by decide +kernel
theorem dX6_move_14 : decode cX6_move 14 = .ok (.iconst 0, 1) := by decide +kernel
theorem dX6_move_15 : decode cX6_move 15 = .ok (.ireturn, 1) := by decide +kernel
theorem dX6_move_16 : decode cX6_move 16 = .ok (.iload_n 2, 1) := by decide +kernel
theorem dX6_move_17 : decode cX6_move 17 = .ok (.aload_n 0, 1) := by decide +kernel
theorem dX6_move_18 : decode cX6_move 18 = .ok (.iload_n 1, 1) := by decide +kernel
theorem dX6_move_19 : decode cX6_move 19 = .ok (.invokevirtual 48, 3) := by decide +kernel
theorem dX6_move_22 : decode cX6_move 22 = .ok (.iload 5, 2) := by decide +kernel
theorem dX6_move_24 : decode cX6_move 24 = .ok (.isub, 1) := by decide +kernel
theorem dX6_move_25 : decode cX6_move 25 = .ok (.if_icmp .gt 16, 3) := by decide +kernel
theorem dX6_move_28 : decode cX6_move 28 = .ok (.iload 4, 2) := by decide +kernel
theorem dX6_move_30 : decode cX6_move 30 = .ok (.aload_n 0, 1) := by decide +kernel
theorem dX6_move_31 : decode cX6_move 31 = .ok (.iload_n 3, 1) := by decide +kernel
theorem dX6_move_32 : decode cX6_move 32 = .ok (.invokevirtual 48, 3) := by decide +kernel
theorem dX6_move_35 : decode cX6_move 35 = .ok (.iload 5, 2) := by decide +kernel
theorem dX6_move_37 : decode cX6_move 37 = .ok (.isub, 1) := by decide +kernel
theorem dX6_move_38 : decode cX6_move 38 = .ok (.if_icmp .le 5, 3) := by decide +kernel
theorem dX6_move_41 : decode cX6_move 41 = .ok (.iconst 0, 1) := by decide +kernel
theorem dX6_move_42 : decode cX6_move 42 = .ok (.ireturn, 1) := by decide +kernel
theorem dX6_move_43 : decode cX6_move 43 = .ok (.iload_n 2, 1) := by decide +kernel
theorem dX6_move_44 : decode cX6_move 44 = .ok (.iload 4, 2) := by decide +kernel
theorem dX6_move_46 : decode cX6_move 46 = .ok (.if_icmp .le 7, 3) := by decide +kernel
theorem dX6_move_49 : decode cX6_move 49 = .ok (.iconst 1, 1) := by decide +kernel
theorem dX6_move_50 : decode cX6_move 50 = .ok (.goto 4, 3) := by decide +kernel
theorem dX6_move_53 : decode cX6_move 53 = .ok (.iconst 0, 1) := by decide +kernel
theorem dX6_move_54 : decode cX6_move 54 = .ok (.istore 6, 2) := by decide +kernel
theorem dX6_move_56 : decode cX6_move 56 = .ok (.iconst 0, 1) := by decide +kernel
theorem dX6_move_57 : decode cX6_move 57 = .ok (.istore 7, 2) := by decide +kernel
theorem dX6_move_59 : decode cX6_move 59 = .ok (.iload 7, 2) := by decide +kernel
theorem dX6_move_61 : decode cX6_move 61 = .ok (.iload 5, 2) := by decide +kernel
theorem dX6_move_63 : decode cX6_move 63 = .ok (.if_icmp .ge 47, 3) := by decide +kernel
theorem dX6_move_66 : decode cX6_move 66 = .ok (.iload 6, 2) := by decide +kernel
theorem dX6_move_68 : decode cX6_move 68 = .ok (.ifCond .eq 8, 3) := by decide +kernel
theorem dX6_move_71 : decode cX6_move 71 = .ok (.iload 7, 2) := by decide +kernel
theorem dX6_move_73 : decode cX6_move 73 = .ok (.goto 10, 3) := by decide +kernel
theorem dX6_move_76 : decode cX6_move 76 = .ok (.iload 5, 2) := by decide +kernel
theorem dX6_move_78 : decode cX6_move 78 = .ok (.iconst 1, 1) := by decide +kernel
theorem dX6_move_79 : decode cX6_move 79 = .ok (.isub, 1) := by decide +kernel
theorem dX6_move_80 : decode cX6_move 80 = .ok (.iload 7, 2) := by decide +kernel
theorem dX6_move_82 : decode cX6_move 82 = .ok (.isub, 1) := by decide +kernel
theorem dX6_move_83 : decode cX6_move 83 = .ok (.istore 8, 2) := by decide +kernel
theorem dX6_move_85 : decode cX6_move 85 = .ok (.aload_n 0, 1) := by decide +kernel
theorem dX6_move_86 : decode cX6_move 86 = .ok (.iload_n 3, 1) := by decide +kernel
theorem dX6_move_87 : decode cX6_move 87 = .ok (.iload 4, 2) := by decide +kernel
theorem dX6_move_89 : decode cX6_move 89 = .ok (.iload 8, 2) := by decide +kernel
theorem dX6_move_91 : decode cX6_move 91 = .ok (.iadd, 1) := by decide +kernel
theorem dX6_move_92 : decode cX6_move 92 = .ok (.aload_n 0, 1) := by decide +kernel
theorem dX6_move_93 : decode cX6_move 93 = .ok (.iload_n 1, 1) := by decide +kernel
theorem dX6_move_94 : decode cX6_move 94 = .ok (.iload_n 2, 1) := by decide +kernel
theorem dX6_move_95 : decode cX6_move 95 = .ok (.iload 8, 2) := by decide +kernel
theorem dX6_move_97 : decode cX6_move 97 = .ok (.iadd, 1) := by decide +kernel
theorem dX6_move_98 : decode cX6_move 98 = .ok (.invokevirtual 55, 3) := by decide +kernel
theorem dX6_move_101 : decode cX6_move 101 = .ok (.invokevirtual 30, 3) := by decide +kernel
theorem dX6_move_104 : decode cX6_move 104 = .ok (.iinc 7 1, 3) := by decide +kernel
theorem dX6_move_107 : decode cX6_move 107 = .ok (.goto (-48), 3) := by decide +kernel
theorem dX6_move_110 : decode cX6_move 110 = .ok (.iconst 1, 1) := by decide +kernel
theorem dX6_move_111 : decode cX6_move 111 = .ok (.ireturn, 1) := by decide +kernel
theorem dX7_init_0 : decode cX7_init 0 = .ok (.aload_n 0, 1) := by decide +kernel
theorem dX7_init_1 : decode cX7_init 1 = .ok (.invokespecial 3, 3) := by decide +kernel
theorem dX7_init_4 : decode cX7_init 4 = .ok (.aload_n 0, 1) := by decide +kernel
theorem dX7_init_5 : decode cX7_init 5 = .ok (.bipush 8, 2) := by decide +kernel
theorem dX7_init_7 : decode cX7_init 7 = .ok (.newarray .int, 2) := by decide +kernel
theorem dX7_init_9 : decode cX7_init 9 = .ok (.putfield 9, 3) := by decide +kernel
theorem dX7_init_12 : decode cX7_init 12 = .ok (.aload_n 0, 1) := by decide +kernel
theorem dX7_init_13 : decode cX7_init 13 = .ok (.bipush 8, 2) := by decide +kernel
theorem dX7_init_15 : decode cX7_init 15 = .ok (.newarray .int, 2) := by decide +kernel
theorem dX7_init_17 : decode cX7_init 17 = .ok (.putfield 15, 3) := by decide +kernel
theorem dX7_init_20 : decode cX7_init 20 = .ok (.aload_n 0, 1) := by decide +kernel
theorem dX7_init_21 : decode cX7_init 21 = .ok (.aload_n 1, 1) := by decide +kernel
theorem dX7_init_22 : decode cX7_init 22 = .ok (.putfield 18, 3) := by decide +kernel
theorem dX7_init_25 : decode cX7_init 25 = .ok (.return_, 1) := by decide +kernel
theorem dX7_firstWay_0 : decode cX7_firstWay 0 = .ok (.iconst 0, 1) := by decide +kernel
theorem dX7_firstWay_1 : decode cX7_firstWay 1 = .ok (.istore_n 2, 1) := by decide +kernel
theorem dX7_firstWay_2 : decode cX7_firstWay 2 = .ok (.iconst 0, 1) := by decide +kernel
theorem dX7_firstWay_3 : decode cX7_firstWay 3 = .ok (.istore_n 3, 1) := by decide +kernel
theorem dX7_firstWay_4 : decode cX7_firstWay 4 = .ok (.iload_n 3, 1) := by decide +kernel
theorem dX7_firstWay_5 : decode cX7_firstWay 5 = .ok (.bipush 8, 2) := by decide +kernel
theorem dX7_firstWay_7 : decode cX7_firstWay 7 = .ok (.if_icmp .ge 32, 3) := by decide +kernel
theorem dX7_firstWay_10 : decode cX7_firstWay 10 = .ok (.iload_n 1, 1) := by decide +kernel
theorem dX7_firstWay_11 : decode cX7_firstWay 11 = .ok (.iload_n 3, 1) := by decide +kernel
theorem dX7_firstWay_12 : decode cX7_firstWay 12 = .ok (.ishr, 1) := by decide +kernel
theorem dX7_firstWay_13 : decode cX7_firstWay 13 = .ok (.iconst 1, 1) := by decide +kernel
theorem dX7_firstWay_14 : decode cX7_firstWay 14 = .ok (.iand, 1) := by decide +kernel
theorem dX7_firstWay_15 : decode cX7_firstWay 15 = .ok (.ifCond .ne 6, 3) := by decide +kernel
theorem dX7_firstWay_18 : decode cX7_firstWay 18 = .ok (.goto 15, 3) := by decide +kernel
theorem dX7_firstWay_21 : decode cX7_firstWay 21 = .ok (.aload_n 0, 1) := by decide +kernel
theorem dX7_firstWay_22 : decode cX7_firstWay 22 = .ok (.getfield 9, 3) := by decide +kernel
theorem dX7_firstWay_25 : decode cX7_firstWay 25 = .ok (.iload_n 2, 1) := by decide +kernel
theorem dX7_firstWay_26 : decode cX7_firstWay 26 = .ok (.iload_n 3, 1) := by decide +kernel
theorem dX7_firstWay_27 : decode cX7_firstWay 27 = .ok (.invokestatic 22, 3) := by decide +kernel
theorem dX7_firstWay_30 : decode cX7_firstWay 30 = .ok (.iinc 2 1, 3) := by decide +kernel
theorem dX7_firstWay_33 : decode cX7_firstWay 33 = .ok (.iinc 3 1, 3) := by decide +kernel
theorem dX7_firstWay_36 : decode cX7_firstWay 36 = .ok (.goto (-32), 3) := by decide +kernel
theorem dX7_firstWay_39 : decode cX7_firstWay 39 = .ok (.iconst 0, 1) := by decide +kernel
theorem dX7_firstWay_40 : decode cX7_firstWay 40 = .ok (.istore_n 3, 1) := by decide +kernel
theorem dX7_firstWay_41 : decode cX7_firstWay 41 = .ok (.iload_n 3, 1) := by decide +kernel
theorem dX7_firstWay_42 : decode cX7_firstWay 42 = .ok (.iconst 1, 1) := by decide +kernel
theorem dX7_firstWay_43 : decode cX7_firstWay 43 = .ok (.iload_n 2, 1) := by decide +kernel
theorem dX7_firstWay_44 : decode cX7_firstWay 44 = .ok (.ishl, 1) := by decide +kernel
theorem dX7_firstWay_45 : decode cX7_firstWay 45 = .ok (.if_icmp .ge 32, 3) := by decide +kernel
theorem dX7_firstWay_48 : decode cX7_firstWay 48 = .ok (.aload_n 0, 1) := by decide +kernel
theorem dX7_firstWay_49 : decode cX7_firstWay 49 = .ok (.iload_n 2, 1) := by decide +kernel
theorem dX7_firstWay_50 : decode cX7_firstWay 50 = .ok (.iload_n 3, 1) := by decide +kernel
theorem dX7_firstWay_51 : decode cX7_firstWay 51 = .ok (.invokevirtual 26, 3) := by decide +kernel
theorem dX7_firstWay_54 : decode cX7_firstWay 54 = .ok (.aload_n 0, 1) := by decide +kernel
theorem dX7_firstWay_55 : decode cX7_firstWay 55 = .ok (.getfield 18, 3) := by decide +kernel
theorem dX7_firstWay_58 : decode cX7_firstWay 58 = .ok (.aload_n 0, 1) := by decide +kernel
theorem dX7_firstWay_59 : decode cX7_firstWay 59 = .ok (.getfield 15, 3) := by decide +kernel
theorem dX7_firstWay_62 : decode cX7_firstWay 62 = .ok (.iload_n 2, 1) := by decide +kernel
theorem dX7_firstWay_63 : decode cX7_firstWay 63 = .ok (.invokevirtual 30, 3) := by decide +kernel
theorem dX7_firstWay_66 : decode cX7_firstWay 66 = .ok (.ifCond .eq 5, 3) := by decide +kernel
theorem dX7_firstWay_69 : decode cX7_firstWay 69 = .ok (.iload_n 3, 1) := by decide +kernel
theorem dX7_firstWay_70 : decode cX7_firstWay 70 = .ok (.ireturn, 1) := by decide +kernel
theorem dX7_firstWay_71 : decode cX7_firstWay 71 = .ok (.iinc 3 2, 3) := by decide +kernel
theorem dX7_firstWay_74 : decode cX7_firstWay 74 = .ok (.goto (-33), 3) := by decide +kernel
theorem dX7_firstWay_77 : decode cX7_firstWay 77 = .ok (.bipush (-2), 2) := by decide +kernel
theorem dX7_firstWay_79 : decode cX7_firstWay 79 = .ok (.ireturn, 1) := by decide +kernel
theorem dX7_setAtEnds_0 : decode cX7_setAtEnds 0 = .ok (.iload_n 1, 1) := by decide +kernel
theorem dX7_setAtEnds_1 : decode cX7_setAtEnds 1 = .ok (.iconst 1, 1) := by decide +kernel
theorem dX7_setAtEnds_2 : decode cX7_setAtEnds 2 = .ok (.isub, 1) := by decide +kernel
theorem dX7_setAtEnds_3 : decode cX7_setAtEnds 3 = .ok (.iload_n 2, 1) := by decide +kernel
theorem dX7_setAtEnds_4 : decode cX7_setAtEnds 4 = .ok (.invokestatic 36, 3) := by decide +kernel
theorem dX7_setAtEnds_7 : decode cX7_setAtEnds 7 = .ok (.isub, 1) := by decide +kernel
theorem dX7_setAtEnds_8 : decode cX7_setAtEnds 8 = .ok (.istore_n 3, 1) := by decide +kernel
theorem dX7_setAtEnds_9 : decode cX7_setAtEnds 9 = .ok (.iload_n 3, 1) := by decide +kernel
theorem dX7_setAtEnds_10 : decode cX7_setAtEnds 10 = .ok (.istore 4, 2) := by decide +kernel
theorem dX7_setAtEnds_12 : decode cX7_setAtEnds 12 = .ok (.aload_n 0, 1) := by decide +kernel
theorem dX7_setAtEnds_13 : decode cX7_setAtEnds 13 = .ok (.getfield 15, 3) := by decide +kernel
theorem dX7_setAtEnds_16 : decode cX7_setAtEnds 16 = .ok (.iload_n 3, 1) := by decide +kernel
theorem dX7_setAtEnds_17 : decode cX7_setAtEnds 17 = .ok (.aload_n 0, 1) := by decide +kernel
theorem dX7_setAtEnds_18 : decode cX7_setAtEnds 18 = .ok (.getfield 9, 3) := by decide +kernel
theorem dX7_setAtEnds_21 : decode cX7_setAtEnds 21 = .ok (.iconst 0, 1) := by decide +kernel
theorem dX7_setAtEnds_22 : decode cX7_setAtEnds 22 = .ok (.invokestatic 42, 3) := by decide +kernel
theorem dX7_setAtEnds_25 : decode cX7_setAtEnds 25 = .ok (.invokestatic 22, 3) := by decide +kernel
theorem dX7_setAtEnds_28 : decode cX7_setAtEnds 28 = .ok (.iconst 1, 1) := by decide +kernel
theorem dX7_setAtEnds_29 : decode cX7_setAtEnds 29 = .ok (.istore 5, 2) := by decide +kernel
theorem dX7_setAtEnds_31 : decode cX7_setAtEnds 31 = .ok (.iload 5, 2) := by decide +kernel
theorem dX7_setAtEnds_33 : decode cX7_setAtEnds 33 = .ok (.iload_n 1, 1) := by decide +kernel
theorem dX7_setAtEnds_34 : decode cX7_setAtEnds 34 = .ok (.if_icmp .ge 63, 3) := by decide +kernel
theorem dX7_setAtEnds_37 : decode cX7_setAtEnds 37 = .ok (.iload_n 2, 1) := by decide +kernel
theorem dX7_setAtEnds_38 : decode cX7_setAtEnds 38 = .ok (.iload 5, 2) := by decide +kernel
theorem dX7_setAtEnds_40 : decode cX7_setAtEnds 40 = .ok (.ishr, 1) := by decide +kernel
theorem dX7_setAtEnds_41 : decode cX7_setAtEnds 41 = .ok (.iconst 1, 1) := by decide +kernel
theorem dX7_setAtEnds_42 : decode cX7_setAtEnds 42 = .ok (.iand, 1) := by decide +kernel
theorem dX7_setAtEnds_43 : decode cX7_setAtEnds 43 = .ok (.iconst 1, 1) := by decide +kernel
theorem dX7_setAtEnds_44 : decode cX7_setAtEnds 44 = .ok (.if_icmp .ne 27, 3) := by decide +kernel
theorem dX7_setAtEnds_47 : decode cX7_setAtEnds 47 = .ok (.iinc 4 1, 3) := by decide +kernel
theorem dX7_setAtEnds_50 : decode cX7_setAtEnds 50 = .ok (.aload_n 0, 1) := by decide +kernel
theorem dX7_setAtEnds_51 : decode cX7_setAtEnds 51 = .ok (.getfield 15, 3) := by decide +kernel
theorem dX7_setAtEnds_54 : decode cX7_setAtEnds 54 = .ok (.iload 4, 2) := by decide +kernel
theorem dX7_setAtEnds_56 : decode cX7_setAtEnds 56 = .ok (.aload_n 0, 1) := by decide +kernel
theorem dX7_setAtEnds_57 : decode cX7_setAtEnds 57 = .ok (.getfield 9, 3) := by decide +kernel
theorem dX7_setAtEnds_60 : decode cX7_setAtEnds 60 = .ok (.iload 5, 2) := by decide +kernel
theorem dX7_setAtEnds_62 : decode cX7_setAtEnds 62 = .ok (.invokestatic 42, 3) := by decide +kernel
theorem dX7_setAtEnds_65 : decode cX7_setAtEnds 65 = .ok (.invokestatic 22, 3) := by decide +kernel
theorem dX7_setAtEnds_68 : decode cX7_setAtEnds 68 = .ok (.goto 23, 3) := by decide +kernel
theorem dX7_setAtEnds_71 : decode cX7_setAtEnds 71 = .ok (.iinc 3 (-1), 3) := by decide +kernel
theorem dX7_setAtEnds_74 : decode cX7_setAtEnds 74 = .ok (.aload_n 0, 1) := by decide +kernel
theorem dX7_setAtEnds_75 : decode cX7_setAtEnds 75 = .ok (.getfield 15, 3) := by decide +kernel
theorem dX7_setAtEnds_78 : decode cX7_setAtEnds 78 = .ok (.iload_n 3, 1) := by decide +kernel
theorem dX7_setAtEnds_79 : decode cX7_setAtEnds 79 = .ok (.aload_n 0, 1) := by decide +kernel
theorem dX7_setAtEnds_80 : decode cX7_setAtEnds 80 = .ok (.getfield 9, 3) := by decide +kernel
theorem dX7_setAtEnds_83 : decode cX7_setAtEnds 83 = .ok (.iload 5, 2) := by decide +kernel
theorem dX7_setAtEnds_85 : decode cX7_setAtEnds 85 = .ok (.invokestatic 42, 3) := by decide +kernel
theorem dX7_setAtEnds_88 : decode cX7_setAtEnds 88 = .ok (.invokestatic 22, 3) := by decide +kernel
theorem dX7_setAtEnds_91 : decode cX7_setAtEnds 91 = .ok (.iinc 5 1, 3) := by decide +kernel
theorem dX7_setAtEnds_94 : decode cX7_setAtEnds 94 = .ok (.goto (-63), 3) := by decide +kernel
theorem dX7_setAtEnds_97 : decode cX7_setAtEnds 97 = .ok (.return_, 1) := by decide +kernel
theorem dX7_fewestAside_0 : decode cX7_fewestAside 0 = .ok (.iload_n 1, 1) := by decide +kernel
theorem dX7_fewestAside_1 : decode cX7_fewestAside 1 = .ok (.invokestatic 36, 3) := by decide +kernel
theorem dX7_fewestAside_4 : decode cX7_fewestAside 4 = .ok (.istore_n 2, 1) := by decide +kernel
theorem dX7_fewestAside_5 : decode cX7_fewestAside 5 = .ok (.iconst 0, 1) := by decide +kernel
theorem dX7_fewestAside_6 : decode cX7_fewestAside 6 = .ok (.istore_n 3, 1) := by decide +kernel
theorem dX7_fewestAside_7 : decode cX7_fewestAside 7 = .ok (.iload_n 3, 1) := by decide +kernel
theorem dX7_fewestAside_8 : decode cX7_fewestAside 8 = .ok (.iload_n 2, 1) := by decide +kernel
theorem dX7_fewestAside_9 : decode cX7_fewestAside 9 = .ok (.if_icmp .ge 63, 3) := by decide +kernel
theorem dX7_fewestAside_12 : decode cX7_fewestAside 12 = .ok (.iconst 0, 1) := by decide +kernel
theorem dX7_fewestAside_13 : decode cX7_fewestAside 13 = .ok (.istore 4, 2) := by decide +kernel
theorem dX7_fewestAside_15 : decode cX7_fewestAside 15 = .ok (.iload 4, 2) := by decide +kernel
theorem dX7_fewestAside_17 : decode cX7_fewestAside 17 = .ok (.iload_n 1, 1) := by decide +kernel
theorem dX7_fewestAside_18 : decode cX7_fewestAside 18 = .ok (.if_icmp .ge 48, 3) := by decide +kernel
theorem dX7_fewestAside_21 : decode cX7_fewestAside 21 = .ok (.iload 4, 2) := by decide +kernel
theorem dX7_fewestAside_23 : decode cX7_fewestAside 23 = .ok (.iload_n 1, 1) := by decide +kernel
theorem dX7_fewestAside_24 : decode cX7_fewestAside 24 = .ok (.iconst (-1), 1) := by decide +kernel
theorem dX7_fewestAside_25 : decode cX7_fewestAside 25 = .ok (.ixor, 1) := by decide +kernel
theorem dX7_fewestAside_26 : decode cX7_fewestAside 26 = .ok (.iand, 1) := by decide +kernel
theorem dX7_fewestAside_27 : decode cX7_fewestAside 27 = .ok (.ifCond .ne 33, 3) := by decide +kernel
theorem dX7_fewestAside_30 : decode cX7_fewestAside 30 = .ok (.iload 4, 2) := by decide +kernel
theorem dX7_fewestAside_32 : decode cX7_fewestAside 32 = .ok (.invokestatic 36, 3) := by decide +kernel
theorem dX7_fewestAside_35 : decode cX7_fewestAside 35 = .ok (.iload_n 3, 1) := by decide +kernel
theorem dX7_fewestAside_36 : decode cX7_fewestAside 36 = .ok (.if_icmp .eq 6, 3) := by decide +kernel
theorem dX7_fewestAside_39 : decode cX7_fewestAside 39 = .ok (.goto 21, 3) := by decide +kernel
theorem dX7_fewestAside_42 : decode cX7_fewestAside 42 = .ok (.aload_n 0, 1) := by decide +kernel
theorem dX7_fewestAside_43 : decode cX7_fewestAside 43 = .ok (.iload_n 1, 1) := by decide +kernel
theorem dX7_fewestAside_44 : decode cX7_fewestAside 44 = .ok (.iload 4, 2) := by decide +kernel
theorem dX7_fewestAside_46 : decode cX7_fewestAside 46 = .ok (.iconst (-1), 1) := by decide +kernel
theorem dX7_fewestAside_47 : decode cX7_fewestAside 47 = .ok (.ixor, 1) := by decide +kernel
theorem dX7_fewestAside_48 : decode cX7_fewestAside 48 = .ok (.iand, 1) := by decide +kernel
theorem dX7_fewestAside_49 : decode cX7_fewestAside 49 = .ok (.invokevirtual 46, 3) := by decide +kernel
theorem dX7_fewestAside_52 : decode cX7_fewestAside 52 = .ok (.bipush (-2), 2) := by decide +kernel
theorem dX7_fewestAside_54 : decode cX7_fewestAside 54 = .ok (.if_icmp .eq 6, 3) := by decide +kernel
theorem dX7_fewestAside_57 : decode cX7_fewestAside 57 = .ok (.iload 4, 2) := by decide +kernel
theorem dX7_fewestAside_59 : decode cX7_fewestAside 59 = .ok (.ireturn, 1) := by decide +kernel
theorem dX7_fewestAside_60 : decode cX7_fewestAside 60 = .ok (.iinc 4 1, 3) := by decide +kernel
theorem dX7_fewestAside_63 : decode cX7_fewestAside 63 = .ok (.goto (-48), 3) := by decide +kernel
theorem dX7_fewestAside_66 : decode cX7_fewestAside 66 = .ok (.iinc 3 1, 3) := by decide +kernel
theorem dX7_fewestAside_69 : decode cX7_fewestAside 69 = .ok (.goto (-62), 3) := by decide +kernel
theorem dX7_fewestAside_72 : decode cX7_fewestAside 72 = .ok (.iload_n 1, 1) := by decide +kernel
theorem dX7_fewestAside_73 : decode cX7_fewestAside 73 = .ok (.ireturn, 1) := by decide +kernel
theorem dX8_init_0 : decode cX8_init 0 = .ok (.aload_n 0, 1) := by decide +kernel
theorem dX8_init_1 : decode cX8_init 1 = .ok (.invokespecial 3, 3) := by decide +kernel
theorem dX8_init_4 : decode cX8_init 4 = .ok (.aload_n 0, 1) := by decide +kernel
theorem dX8_init_5 : decode cX8_init 5 = .ok (.bipush 9, 2) := by decide +kernel
theorem dX8_init_7 : decode cX8_init 7 = .ok (.newarray .int, 2) := by decide +kernel
theorem dX8_init_9 : decode cX8_init 9 = .ok (.putfield 9, 3) := by decide +kernel
theorem dX8_init_12 : decode cX8_init 12 = .ok (.aload_n 0, 1) := by decide +kernel
theorem dX8_init_13 : decode cX8_init 13 = .ok (.bipush 8, 2) := by decide +kernel
theorem dX8_init_15 : decode cX8_init 15 = .ok (.newarray .int, 2) := by decide +kernel
theorem dX8_init_17 : decode cX8_init 17 = .ok (.putfield 15, 3) := by decide +kernel
theorem dX8_init_20 : decode cX8_init 20 = .ok (.aload_n 0, 1) := by decide +kernel
theorem dX8_init_21 : decode cX8_init 21 = .ok (.aload_n 1, 1) := by decide +kernel
theorem dX8_init_22 : decode cX8_init 22 = .ok (.putfield 18, 3) := by decide +kernel
theorem dX8_init_25 : decode cX8_init 25 = .ok (.return_, 1) := by decide +kernel
theorem dX8_beginAnew_0 : decode cX8_beginAnew 0 = .ok (.aload_n 0, 1) := by decide +kernel
theorem dX8_beginAnew_1 : decode cX8_beginAnew 1 = .ok (.getfield 18, 3) := by decide +kernel
theorem dX8_beginAnew_4 : decode cX8_beginAnew 4 = .ok (.getfield 22, 3) := by decide +kernel
theorem dX8_beginAnew_7 : decode cX8_beginAnew 7 = .ok (.aload_n 0, 1) := by decide +kernel
theorem dX8_beginAnew_8 : decode cX8_beginAnew 8 = .ok (.getfield 9, 3) := by decide +kernel
theorem dX8_beginAnew_11 : decode cX8_beginAnew 11 = .ok (.aload_n 0, 1) := by decide +kernel
theorem dX8_beginAnew_12 : decode cX8_beginAnew 12 = .ok (.getfield 18, 3) := by decide +kernel
theorem dX8_beginAnew_15 : decode cX8_beginAnew 15 = .ok (.getfield 27, 3) := by decide +kernel
theorem dX8_beginAnew_18 : decode cX8_beginAnew 18 = .ok (.invokestatic 31, 3) := by decide +kernel
theorem dX8_beginAnew_21 : decode cX8_beginAnew 21 = .ok (.return_, 1) := by decide +kernel
theorem dX8_mayBeSold_0 : decode cX8_mayBeSold 0 = .ok (.iconst 0, 1) := by decide +kernel
theorem dX8_mayBeSold_1 : decode cX8_mayBeSold 1 = .ok (.istore_n 1, 1) := by decide +kernel
theorem dX8_mayBeSold_2 : decode cX8_mayBeSold 2 = .ok (.aload_n 0, 1) := by decide +kernel
theorem dX8_mayBeSold_3 : decode cX8_mayBeSold 3 = .ok (.getfield 18, 3) := by decide +kernel
theorem dX8_mayBeSold_6 : decode cX8_mayBeSold 6 = .ok (.getfield 27, 3) := by decide +kernel
theorem dX8_mayBeSold_9 : decode cX8_mayBeSold 9 = .ok (.istore_n 2, 1) := by decide +kernel
theorem dX8_mayBeSold_10 : decode cX8_mayBeSold 10 = .ok (.iconst 0, 1) := by decide +kernel
theorem dX8_mayBeSold_11 : decode cX8_mayBeSold 11 = .ok (.istore_n 3, 1) := by decide +kernel
theorem dX8_mayBeSold_12 : decode cX8_mayBeSold 12 = .ok (.iload_n 3, 1) := by decide +kernel
theorem dX8_mayBeSold_13 : decode cX8_mayBeSold 13 = .ok (.iload_n 2, 1) := by decide +kernel
theorem dX8_mayBeSold_14 : decode cX8_mayBeSold 14 = .ok (.if_icmp .ge 55, 3) := by decide +kernel
theorem dX8_mayBeSold_17 : decode cX8_mayBeSold 17 = .ok (.aload_n 0, 1) := by decide +kernel
theorem dX8_mayBeSold_18 : decode cX8_mayBeSold 18 = .ok (.invokevirtual 35, 3) := by decide +kernel
theorem dX8_mayBeSold_21 : decode cX8_mayBeSold 21 = .ok (.aload_n 0, 1) := by decide +kernel
theorem dX8_mayBeSold_22 : decode cX8_mayBeSold 22 = .ok (.getfield 9, 3) := by decide +kernel
theorem dX8_mayBeSold_25 : decode cX8_mayBeSold 25 = .ok (.iload_n 2, 1) := by decide +kernel
theorem dX8_mayBeSold_26 : decode cX8_mayBeSold 26 = .ok (.iload_n 3, 1) := by decide +kernel
theorem dX8_mayBeSold_27 : decode cX8_mayBeSold 27 = .ok (.invokestatic 38, 3) := by decide +kernel
theorem dX8_mayBeSold_30 : decode cX8_mayBeSold 30 = .ok (.aload_n 0, 1) := by decide +kernel
theorem dX8_mayBeSold_31 : decode cX8_mayBeSold 31 = .ok (.getfield 18, 3) := by decide +kernel
theorem dX8_mayBeSold_34 : decode cX8_mayBeSold 34 = .ok (.aload_n 0, 1) := by decide +kernel
theorem dX8_mayBeSold_35 : decode cX8_mayBeSold 35 = .ok (.getfield 9, 3) := by decide +kernel
theorem dX8_mayBeSold_38 : decode cX8_mayBeSold 38 = .ok (.iload_n 2, 1) := by decide +kernel
theorem dX8_mayBeSold_39 : decode cX8_mayBeSold 39 = .ok (.iconst 1, 1) := by decide +kernel
theorem dX8_mayBeSold_40 : decode cX8_mayBeSold 40 = .ok (.isub, 1) := by decide +kernel
theorem dX8_mayBeSold_41 : decode cX8_mayBeSold 41 = .ok (.invokevirtual 42, 3) := by decide +kernel
theorem dX8_mayBeSold_44 : decode cX8_mayBeSold 44 = .ok (.ifCond .eq 19, 3) := by decide +kernel
theorem dX8_mayBeSold_47 : decode cX8_mayBeSold 47 = .ok (.iload_n 1, 1) := by decide +kernel
theorem dX8_mayBeSold_48 : decode cX8_mayBeSold 48 = .ok (.iconst 1, 1) := by decide +kernel
theorem dX8_mayBeSold_49 : decode cX8_mayBeSold 49 = .ok (.aload_n 0, 1) := by decide +kernel
theorem dX8_mayBeSold_50 : decode cX8_mayBeSold 50 = .ok (.getfield 18, 3) := by decide +kernel
theorem dX8_mayBeSold_53 : decode cX8_mayBeSold 53 = .ok (.getfield 22, 3) := by decide +kernel
theorem dX8_mayBeSold_56 : decode cX8_mayBeSold 56 = .ok (.iload_n 3, 1) := by decide +kernel
theorem dX8_mayBeSold_57 : decode cX8_mayBeSold 57 = .ok (.invokestatic 46, 3) := by decide +kernel
theorem dX8_mayBeSold_60 : decode cX8_mayBeSold 60 = .ok (.ishl, 1) := by decide +kernel
theorem dX8_mayBeSold_61 : decode cX8_mayBeSold 61 = .ok (.ior, 1) := by decide +kernel
theorem dX8_mayBeSold_62 : decode cX8_mayBeSold 62 = .ok (.istore_n 1, 1) := by decide +kernel
theorem dX8_mayBeSold_63 : decode cX8_mayBeSold 63 = .ok (.iinc 3 1, 3) := by decide +kernel
theorem dX8_mayBeSold_66 : decode cX8_mayBeSold 66 = .ok (.goto (-54), 3) := by decide +kernel
theorem dX8_mayBeSold_69 : decode cX8_mayBeSold 69 = .ok (.iload_n 1, 1) := by decide +kernel
theorem dX8_mayBeSold_70 : decode cX8_mayBeSold 70 = .ok (.ireturn, 1) := by decide +kernel
theorem dX8_lawfulWays_0 : decode cX8_lawfulWays 0 = .ok (.iconst 0, 1) := by decide +kernel
theorem dX8_lawfulWays_1 : decode cX8_lawfulWays 1 = .ok (.istore_n 2, 1) := by decide +kernel
theorem dX8_lawfulWays_2 : decode cX8_lawfulWays 2 = .ok (.aload_n 0, 1) := by decide +kernel
theorem dX8_lawfulWays_3 : decode cX8_lawfulWays 3 = .ok (.getfield 18, 3) := by decide +kernel
theorem dX8_lawfulWays_6 : decode cX8_lawfulWays 6 = .ok (.getfield 27, 3) := by decide +kernel
theorem dX8_lawfulWays_9 : decode cX8_lawfulWays 9 = .ok (.istore_n 3, 1) := by decide +kernel
theorem dX8_lawfulWays_10 : decode cX8_lawfulWays 10 = .ok (.iconst 0, 1) := by decide +kernel
theorem dX8_lawfulWays_11 : decode cX8_lawfulWays 11 = .ok (.istore 4, 2) := by decide +kernel
theorem dX8_lawfulWays_13 : decode cX8_lawfulWays 13 = .ok (.iload 4, 2) := by decide +kernel
theorem dX8_lawfulWays_15 : decode cX8_lawfulWays 15 = .ok (.iload_n 3, 1) := by decide +kernel
theorem dX8_lawfulWays_16 : decode cX8_lawfulWays 16 = .ok (.if_icmp .ge 78, 3) := by decide +kernel
theorem dX8_lawfulWays_19 : decode cX8_lawfulWays 19 = .ok (.iload 4, 2) := by decide +kernel
theorem dX8_lawfulWays_21 : decode cX8_lawfulWays 21 = .ok (.iconst 1, 1) := by decide +kernel
theorem dX8_lawfulWays_22 : decode cX8_lawfulWays 22 = .ok (.iadd, 1) := by decide +kernel
theorem dX8_lawfulWays_23 : decode cX8_lawfulWays 23 = .ok (.istore 5, 2) := by decide +kernel
theorem dX8_lawfulWays_25 : decode cX8_lawfulWays 25 = .ok (.iload 5, 2) := by decide +kernel
theorem dX8_lawfulWays_27 : decode cX8_lawfulWays 27 = .ok (.iload_n 3, 1) := by decide +kernel
theorem dX8_lawfulWays_28 : decode cX8_lawfulWays 28 = .ok (.if_icmp .ge 60, 3) := by decide +kernel
theorem dX8_lawfulWays_31 : decode cX8_lawfulWays 31 = .ok (.aload_n 0, 1) := by decide +kernel
theorem dX8_lawfulWays_32 : decode cX8_lawfulWays 32 = .ok (.invokevirtual 35, 3) := by decide +kernel
theorem dX8_lawfulWays_35 : decode cX8_lawfulWays 35 = .ok (.iload_n 1, 1) := by decide +kernel
theorem dX8_lawfulWays_36 : decode cX8_lawfulWays 36 = .ok (.ifCond .eq 17, 3) := by decide +kernel
theorem dX8_lawfulWays_39 : decode cX8_lawfulWays 39 = .ok (.aload_n 0, 1) := by decide +kernel
theorem dX8_lawfulWays_40 : decode cX8_lawfulWays 40 = .ok (.getfield 9, 3) := by decide +kernel
theorem dX8_lawfulWays_43 : decode cX8_lawfulWays 43 = .ok (.iload 4, 2) := by decide +kernel
