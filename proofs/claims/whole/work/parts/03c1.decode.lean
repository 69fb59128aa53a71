theorem dX8_lawfulWays_45 : decode cX8_lawfulWays 45 = .ok (.iload 5, 2) := by decide +kernel
theorem dX8_lawfulWays_47 : decode cX8_lawfulWays 47 = .ok (.invokestatic 50, 3) := by decide +kernel
theorem dX8_lawfulWays_50 : decode cX8_lawfulWays 50 = .ok (.goto 14, 3) := by decide +kernel
theorem dX8_lawfulWays_53 : decode cX8_lawfulWays 53 = .ok (.aload_n 0, 1) := by decide +kernel
theorem dX8_lawfulWays_54 : decode cX8_lawfulWays 54 = .ok (.getfield 9, 3) := by decide +kernel
theorem dX8_lawfulWays_57 : decode cX8_lawfulWays 57 = .ok (.iload 4, 2) := by decide +kernel
theorem dX8_lawfulWays_59 : decode cX8_lawfulWays 59 = .ok (.iload 5, 2) := by decide +kernel
theorem dX8_lawfulWays_61 : decode cX8_lawfulWays 61 = .ok (.invokestatic 53, 3) := by decide +kernel
theorem dX8_lawfulWays_64 : decode cX8_lawfulWays 64 = .ok (.aload_n 0, 1) := by decide +kernel
theorem dX8_lawfulWays_65 : decode cX8_lawfulWays 65 = .ok (.getfield 18, 3) := by decide +kernel
theorem dX8_lawfulWays_68 : decode cX8_lawfulWays 68 = .ok (.aload_n 0, 1) := by decide +kernel
theorem dX8_lawfulWays_69 : decode cX8_lawfulWays 69 = .ok (.getfield 9, 3) := by decide +kernel
theorem dX8_lawfulWays_72 : decode cX8_lawfulWays 72 = .ok (.iload_n 3, 1) := by decide +kernel
theorem dX8_lawfulWays_73 : decode cX8_lawfulWays 73 = .ok (.invokevirtual 42, 3) := by decide +kernel
theorem dX8_lawfulWays_76 : decode cX8_lawfulWays 76 = .ok (.ifCond .eq 6, 3) := by decide +kernel
theorem dX8_lawfulWays_79 : decode cX8_lawfulWays 79 = .ok (.iinc 2 1, 3) := by decide +kernel
theorem dX8_lawfulWays_82 : decode cX8_lawfulWays 82 = .ok (.iinc 5 1, 3) := by decide +kernel
theorem dX8_lawfulWays_85 : decode cX8_lawfulWays 85 = .ok (.goto (-60), 3) := by decide +kernel
theorem dX8_lawfulWays_88 : decode cX8_lawfulWays 88 = .ok (.iinc 4 1, 3) := by decide +kernel
theorem dX8_lawfulWays_91 : decode cX8_lawfulWays 91 = .ok (.goto (-78), 3) := by decide +kernel
theorem dX8_lawfulWays_94 : decode cX8_lawfulWays 94 = .ok (.iload_n 2, 1) := by decide +kernel
theorem dX8_lawfulWays_95 : decode cX8_lawfulWays 95 = .ok (.ireturn, 1) := by decide +kernel
theorem dX8_knockOff_0 : decode cX8_knockOff 0 = .ok (.aload_n 0, 1) := by decide +kernel
theorem dX8_knockOff_1 : decode cX8_knockOff 1 = .ok (.getfield 18, 3) := by decide +kernel
theorem dX8_knockOff_4 : decode cX8_knockOff 4 = .ok (.getfield 27, 3) := by decide +kernel
theorem dX8_knockOff_7 : decode cX8_knockOff 7 = .ok (.istore_n 1, 1) := by decide +kernel
theorem dX8_knockOff_8 : decode cX8_knockOff 8 = .ok (.iconst 0, 1) := by decide +kernel
theorem dX8_knockOff_9 : decode cX8_knockOff 9 = .ok (.istore_n 2, 1) := by decide +kernel
theorem dX8_knockOff_10 : decode cX8_knockOff 10 = .ok (.iload_n 2, 1) := by decide +kernel
theorem dX8_knockOff_11 : decode cX8_knockOff 11 = .ok (.iload_n 1, 1) := by decide +kernel
theorem dX8_knockOff_12 : decode cX8_knockOff 12 = .ok (.if_icmp .ge 35, 3) := by decide +kernel
theorem dX8_knockOff_15 : decode cX8_knockOff 15 = .ok (.aload_n 0, 1) := by decide +kernel
theorem dX8_knockOff_16 : decode cX8_knockOff 16 = .ok (.getfield 15, 3) := by decide +kernel
theorem dX8_knockOff_19 : decode cX8_knockOff 19 = .ok (.iload_n 2, 1) := by decide +kernel
theorem dX8_knockOff_20 : decode cX8_knockOff 20 = .ok (.aload_n 0, 1) := by decide +kernel
theorem dX8_knockOff_21 : decode cX8_knockOff 21 = .ok (.getfield 18, 3) := by decide +kernel
theorem dX8_knockOff_24 : decode cX8_knockOff 24 = .ok (.aload_n 0, 1) := by decide +kernel
theorem dX8_knockOff_25 : decode cX8_knockOff 25 = .ok (.getfield 18, 3) := by decide +kernel
theorem dX8_knockOff_28 : decode cX8_knockOff 28 = .ok (.getfield 22, 3) := by decide +kernel
theorem dX8_knockOff_31 : decode cX8_knockOff 31 = .ok (.iload_n 2, 1) := by decide +kernel
theorem dX8_knockOff_32 : decode cX8_knockOff 32 = .ok (.invokestatic 46, 3) := by decide +kernel
theorem dX8_knockOff_35 : decode cX8_knockOff 35 = .ok (.invokevirtual 56, 3) := by decide +kernel
theorem dX8_knockOff_38 : decode cX8_knockOff 38 = .ok (.invokestatic 60, 3) := by decide +kernel
theorem dX8_knockOff_41 : decode cX8_knockOff 41 = .ok (.iinc 2 1, 3) := by decide +kernel
theorem dX8_knockOff_44 : decode cX8_knockOff 44 = .ok (.goto (-34), 3) := by decide +kernel
theorem dX8_knockOff_47 : decode cX8_knockOff 47 = .ok (.iconst 0, 1) := by decide +kernel
theorem dX8_knockOff_48 : decode cX8_knockOff 48 = .ok (.istore_n 2, 1) := by decide +kernel
theorem dX8_knockOff_49 : decode cX8_knockOff 49 = .ok (.iload_n 2, 1) := by decide +kernel
theorem dX8_knockOff_50 : decode cX8_knockOff 50 = .ok (.iload_n 1, 1) := by decide +kernel
theorem dX8_knockOff_51 : decode cX8_knockOff 51 = .ok (.if_icmp .ge 45, 3) := by decide +kernel
theorem dX8_knockOff_54 : decode cX8_knockOff 54 = .ok (.aload_n 0, 1) := by decide +kernel
theorem dX8_knockOff_55 : decode cX8_knockOff 55 = .ok (.iload_n 2, 1) := by decide +kernel
theorem dX8_knockOff_56 : decode cX8_knockOff 56 = .ok (.iload_n 1, 1) := by decide +kernel
theorem dX8_knockOff_57 : decode cX8_knockOff 57 = .ok (.iconst (-1), 1) := by decide +kernel
theorem dX8_knockOff_58 : decode cX8_knockOff 58 = .ok (.invokevirtual 63, 3) := by decide +kernel
theorem dX8_knockOff_61 : decode cX8_knockOff 61 = .ok (.aload_n 0, 1) := by decide +kernel
theorem dX8_knockOff_62 : decode cX8_knockOff 62 = .ok (.iload_n 2, 1) := by decide +kernel
theorem dX8_knockOff_63 : decode cX8_knockOff 63 = .ok (.iload_n 1, 1) := by decide +kernel
theorem dX8_knockOff_64 : decode cX8_knockOff 64 = .ok (.iconst 1, 1) := by decide +kernel
theorem dX8_knockOff_65 : decode cX8_knockOff 65 = .ok (.invokevirtual 63, 3) := by decide +kernel
theorem dX8_knockOff_68 : decode cX8_knockOff 68 = .ok (.iadd, 1) := by decide +kernel
theorem dX8_knockOff_69 : decode cX8_knockOff 69 = .ok (.istore_n 3, 1) := by decide +kernel
theorem dX8_knockOff_70 : decode cX8_knockOff 70 = .ok (.aload_n 0, 1) := by decide +kernel
theorem dX8_knockOff_71 : decode cX8_knockOff 71 = .ok (.getfield 15, 3) := by decide +kernel
theorem dX8_knockOff_74 : decode cX8_knockOff 74 = .ok (.iload_n 2, 1) := by decide +kernel
theorem dX8_knockOff_75 : decode cX8_knockOff 75 = .ok (.aload_n 0, 1) := by decide +kernel
theorem dX8_knockOff_76 : decode cX8_knockOff 76 = .ok (.getfield 15, 3) := by decide +kernel
theorem dX8_knockOff_79 : decode cX8_knockOff 79 = .ok (.iload_n 2, 1) := by decide +kernel
theorem dX8_knockOff_80 : decode cX8_knockOff 80 = .ok (.invokestatic 46, 3) := by decide +kernel
theorem dX8_knockOff_83 : decode cX8_knockOff 83 = .ok (.iload_n 3, 1) := by decide +kernel
theorem dX8_knockOff_84 : decode cX8_knockOff 84 = .ok (.invokestatic 67, 3) := by decide +kernel
theorem dX8_knockOff_87 : decode cX8_knockOff 87 = .ok (.invokestatic 60, 3) := by decide +kernel
theorem dX8_knockOff_90 : decode cX8_knockOff 90 = .ok (.iinc 2 1, 3) := by decide +kernel
theorem dX8_knockOff_93 : decode cX8_knockOff 93 = .ok (.goto (-44), 3) := by decide +kernel
theorem dX8_knockOff_96 : decode cX8_knockOff 96 = .ok (.iconst 0, 1) := by decide +kernel
theorem dX8_knockOff_97 : decode cX8_knockOff 97 = .ok (.istore_n 2, 1) := by decide +kernel
theorem dX8_knockOff_98 : decode cX8_knockOff 98 = .ok (.iload_n 2, 1) := by decide +kernel
theorem dX8_knockOff_99 : decode cX8_knockOff 99 = .ok (.iload_n 1, 1) := by decide +kernel
theorem dX8_knockOff_100 : decode cX8_knockOff 100 = .ok (.if_icmp .ge 23, 3) := by decide +kernel
theorem dX8_knockOff_103 : decode cX8_knockOff 103 = .ok (.aload_n 0, 1) := by decide +kernel
theorem dX8_knockOff_104 : decode cX8_knockOff 104 = .ok (.getfield 15, 3) := by decide +kernel
theorem dX8_knockOff_107 : decode cX8_knockOff 107 = .ok (.iload_n 2, 1) := by decide +kernel
theorem dX8_knockOff_108 : decode cX8_knockOff 108 = .ok (.invokestatic 46, 3) := by decide +kernel
theorem dX8_knockOff_111 : decode cX8_knockOff 111 = .ok (.iconst 1, 1) := by decide +kernel
theorem dX8_knockOff_112 : decode cX8_knockOff 112 = .ok (.if_icmp .ge 5, 3) := by decide +kernel
theorem dX8_knockOff_115 : decode cX8_knockOff 115 = .ok (.iconst 0, 1) := by decide +kernel
theorem dX8_knockOff_116 : decode cX8_knockOff 116 = .ok (.ireturn, 1) := by decide +kernel
theorem dX8_knockOff_117 : decode cX8_knockOff 117 = .ok (.iinc 2 1, 3) := by decide +kernel
theorem dX8_knockOff_120 : decode cX8_knockOff 120 = .ok (.goto (-22), 3) := by decide +kernel
theorem dX8_knockOff_123 : decode cX8_knockOff 123 = .ok (.iconst 1, 1) := by decide +kernel
theorem dX8_knockOff_124 : decode cX8_knockOff 124 = .ok (.ireturn, 1) := by decide +kernel
theorem dX8_lighterBeside_0 : decode cX8_lighterBeside 0 = .ok (.aload_n 0, 1) := by decide +kernel
theorem dX8_lighterBeside_1 : decode cX8_lighterBeside 1 = .ok (.getfield 18, 3) := by decide +kernel
theorem dX8_lighterBeside_4 : decode cX8_lighterBeside 4 = .ok (.iload_n 1, 1) := by decide +kernel
theorem dX8_lighterBeside_5 : decode cX8_lighterBeside 5 = .ok (.iload_n 2, 1) := by decide +kernel
theorem dX8_lighterBeside_6 : decode cX8_lighterBeside 6 = .ok (.iload_n 3, 1) := by decide +kernel
theorem dX8_lighterBeside_7 : decode cX8_lighterBeside 7 = .ok (.invokevirtual 73, 3) := by decide +kernel
theorem dX8_lighterBeside_10 : decode cX8_lighterBeside 10 = .ok (.istore 4, 2) := by decide +kernel
theorem dX8_lighterBeside_12 : decode cX8_lighterBeside 12 = .ok (.iload 4, 2) := by decide +kernel
theorem dX8_lighterBeside_14 : decode cX8_lighterBeside 14 = .ok (.iconst (-1), 1) := by decide +kernel
theorem dX8_lighterBeside_15 : decode cX8_lighterBeside 15 = .ok (.if_icmp .ne 7, 3) := by decide +kernel
theorem dX8_lighterBeside_18 : decode cX8_lighterBeside 18 = .ok (.iconst 0, 1) := by decide +kernel
theorem dX8_lighterBeside_19 : decode cX8_lighterBeside 19 = .ok (.goto 12, 3) := by decide +kernel
theorem dX8_lighterBeside_22 : decode cX8_lighterBeside 22 = .ok (.aload_n 0, 1) := by decide +kernel
theorem dX8_lighterBeside_23 : decode cX8_lighterBeside 23 = .ok (.getfield 15, 3) := by decide +kernel
theorem dX8_lighterBeside_26 : decode cX8_lighterBeside 26 = .ok (.iload 4, 2) := by decide +kernel
theorem dX8_lighterBeside_28 : decode cX8_lighterBeside 28 = .ok (.invokestatic 46, 3) := by decide +kernel
theorem dX8_lighterBeside_31 : decode cX8_lighterBeside 31 = .ok (.ireturn, 1) := by decide +kernel
theorem dX8_knockedOff_0 : decode cX8_knockedOff 0 = .ok (.iconst 0, 1) := by decide +kernel
theorem dX8_knockedOff_1 : decode cX8_knockedOff 1 = .ok (.istore_n 1, 1) := by decide +kernel
theorem dX8_knockedOff_2 : decode cX8_knockedOff 2 = .ok (.iconst 0, 1) := by decide +kernel
theorem dX8_knockedOff_3 : decode cX8_knockedOff 3 = .ok (.istore_n 2, 1) := by decide +kernel
theorem dX8_knockedOff_4 : decode cX8_knockedOff 4 = .ok (.iload_n 2, 1) := by decide +kernel
theorem dX8_knockedOff_5 : decode cX8_knockedOff 5 = .ok (.aload_n 0, 1) := by decide +kernel
theorem dX8_knockedOff_6 : decode cX8_knockedOff 6 = .ok (.getfield 18, 3) := by decide +kernel
theorem dX8_knockedOff_9 : decode cX8_knockedOff 9 = .ok (.getfield 27, 3) := by decide +kernel
theorem dX8_knockedOff_12 : decode cX8_knockedOff 12 = .ok (.if_icmp .ge 39, 3) := by decide +kernel
theorem dX8_knockedOff_15 : decode cX8_knockedOff 15 = .ok (.iload_n 1, 1) := by decide +kernel
theorem dX8_knockedOff_16 : decode cX8_knockedOff 16 = .ok (.aload_n 0, 1) := by decide +kernel
theorem dX8_knockedOff_17 : decode cX8_knockedOff 17 = .ok (.getfield 18, 3) := by decide +kernel
theorem dX8_knockedOff_20 : decode cX8_knockedOff 20 = .ok (.aload_n 0, 1) := by decide +kernel
theorem dX8_knockedOff_21 : decode cX8_knockedOff 21 = .ok (.getfield 18, 3) := by decide +kernel
theorem dX8_knockedOff_24 : decode cX8_knockedOff 24 = .ok (.getfield 22, 3) := by decide +kernel
theorem dX8_knockedOff_27 : decode cX8_knockedOff 27 = .ok (.iload_n 2, 1) := by decide +kernel
theorem dX8_knockedOff_28 : decode cX8_knockedOff 28 = .ok (.invokestatic 46, 3) := by decide +kernel
theorem dX8_knockedOff_31 : decode cX8_knockedOff 31 = .ok (.invokevirtual 56, 3) := by decide +kernel
theorem dX8_knockedOff_34 : decode cX8_knockedOff 34 = .ok (.aload_n 0, 1) := by decide +kernel
theorem dX8_knockedOff_35 : decode cX8_knockedOff 35 = .ok (.getfield 15, 3) := by decide +kernel
theorem dX8_knockedOff_38 : decode cX8_knockedOff 38 = .ok (.iload_n 2, 1) := by decide +kernel
theorem dX8_knockedOff_39 : decode cX8_knockedOff 39 = .ok (.invokestatic 46, 3) := by decide +kernel
theorem dX8_knockedOff_42 : decode cX8_knockedOff 42 = .ok (.isub, 1) := by decide +kernel
theorem dX8_knockedOff_43 : decode cX8_knockedOff 43 = .ok (.iadd, 1) := by decide +kernel
theorem dX8_knockedOff_44 : decode cX8_knockedOff 44 = .ok (.istore_n 1, 1) := by decide +kernel
theorem dX8_knockedOff_45 : decode cX8_knockedOff 45 = .ok (.iinc 2 1, 3) := by decide +kernel
theorem dX8_knockedOff_48 : decode cX8_knockedOff 48 = .ok (.goto (-44), 3) := by decide +kernel
theorem dX8_knockedOff_51 : decode cX8_knockedOff 51 = .ok (.iload_n 1, 1) := by decide +kernel
theorem dX8_knockedOff_52 : decode cX8_knockedOff 52 = .ok (.ireturn, 1) := by decide +kernel
theorem dX8_findMakingUp_0 : decode cX8_findMakingUp 0 = .ok (.aload_n 0, 1) := by decide +kernel
theorem dX8_findMakingUp_1 : decode cX8_findMakingUp 1 = .ok (.getfield 18, 3) := by decide +kernel
theorem dX8_findMakingUp_4 : decode cX8_findMakingUp 4 = .ok (.getfield 27, 3) := by decide +kernel
theorem dX8_findMakingUp_7 : decode cX8_findMakingUp 7 = .ok (.istore_n 1, 1) := by decide +kernel
theorem dX8_findMakingUp_8 : decode cX8_findMakingUp 8 = .ok (.iconst 1, 1) := by decide +kernel
theorem dX8_findMakingUp_9 : decode cX8_findMakingUp 9 = .ok (.istore_n 2, 1) := by decide +kernel
theorem dX8_findMakingUp_10 : decode cX8_findMakingUp 10 = .ok (.iload_n 2, 1) := by decide +kernel
theorem dX8_findMakingUp_11 : decode cX8_findMakingUp 11 = .ok (.bipush 99, 2) := by decide +kernel
theorem dX8_findMakingUp_13 : decode cX8_findMakingUp 13 = .ok (.if_icmp .gt 71, 3) := by decide +kernel
theorem dX8_findMakingUp_16 : decode cX8_findMakingUp 16 = .ok (.aload_n 0, 1) := by decide +kernel
theorem dX8_findMakingUp_17 : decode cX8_findMakingUp 17 = .ok (.getfield 18, 3) := by decide +kernel
theorem dX8_findMakingUp_20 : decode cX8_findMakingUp 20 = .ok (.bipush 8, 2) := by decide +kernel
theorem dX8_findMakingUp_22 : decode cX8_findMakingUp 22 = .ok (.iload_n 2, 1) := by decide +kernel
theorem dX8_findMakingUp_23 : decode cX8_findMakingUp 23 = .ok (.invokevirtual 76, 3) := by decide +kernel
theorem dX8_findMakingUp_26 : decode cX8_findMakingUp 26 = .ok (.iconst 0, 1) := by decide +kernel
theorem dX8_findMakingUp_27 : decode cX8_findMakingUp 27 = .ok (.istore_n 3, 1) := by decide +kernel
theorem dX8_findMakingUp_28 : decode cX8_findMakingUp 28 = .ok (.iload_n 3, 1) := by decide +kernel
theorem dX8_findMakingUp_29 : decode cX8_findMakingUp 29 = .ok (.iload_n 1, 1) := by decide +kernel
theorem dX8_findMakingUp_30 : decode cX8_findMakingUp 30 = .ok (.if_icmp .gt 48, 3) := by decide +kernel
theorem dX8_findMakingUp_33 : decode cX8_findMakingUp 33 = .ok (.aload_n 0, 1) := by decide +kernel
theorem dX8_findMakingUp_34 : decode cX8_findMakingUp 34 = .ok (.invokevirtual 35, 3) := by decide +kernel
theorem dX8_findMakingUp_37 : decode cX8_findMakingUp 37 = .ok (.aload_n 0, 1) := by decide +kernel
theorem dX8_findMakingUp_38 : decode cX8_findMakingUp 38 = .ok (.getfield 9, 3) := by decide +kernel
theorem dX8_findMakingUp_41 : decode cX8_findMakingUp 41 = .ok (.iload_n 1, 1) := by decide +kernel
theorem dX8_findMakingUp_42 : decode cX8_findMakingUp 42 = .ok (.iload_n 3, 1) := by decide +kernel
theorem dX8_findMakingUp_43 : decode cX8_findMakingUp 43 = .ok (.bipush 8, 2) := by decide +kernel
theorem dX8_findMakingUp_45 : decode cX8_findMakingUp 45 = .ok (.invokestatic 80, 3) := by decide +kernel
theorem dX8_findMakingUp_48 : decode cX8_findMakingUp 48 = .ok (.aload_n 0, 1) := by decide +kernel
theorem dX8_findMakingUp_49 : decode cX8_findMakingUp 49 = .ok (.iload_n 3, 1) := by decide +kernel
theorem dX8_findMakingUp_50 : decode cX8_findMakingUp 50 = .ok (.putfield 84, 3) := by decide +kernel
theorem dX8_findMakingUp_53 : decode cX8_findMakingUp 53 = .ok (.aload_n 0, 1) := by decide +kernel
theorem dX8_findMakingUp_54 : decode cX8_findMakingUp 54 = .ok (.getfield 18, 3) := by decide +kernel
theorem dX8_findMakingUp_57 : decode cX8_findMakingUp 57 = .ok (.aload_n 0, 1) := by decide +kernel
theorem dX8_findMakingUp_58 : decode cX8_findMakingUp 58 = .ok (.getfield 9, 3) := by decide +kernel
theorem dX8_findMakingUp_61 : decode cX8_findMakingUp 61 = .ok (.iload_n 1, 1) := by decide +kernel
theorem dX8_findMakingUp_62 : decode cX8_findMakingUp 62 = .ok (.iconst 1, 1) := by decide +kernel
theorem dX8_findMakingUp_63 : decode cX8_findMakingUp 63 = .ok (.iadd, 1) := by decide +kernel
theorem dX8_findMakingUp_64 : decode cX8_findMakingUp 64 = .ok (.invokevirtual 42, 3) := by decide +kernel
theorem dX8_findMakingUp_67 : decode cX8_findMakingUp 67 = .ok (.ifCond .eq 5, 3) := by decide +kernel
theorem dX8_findMakingUp_70 : decode cX8_findMakingUp 70 = .ok (.iconst 1, 1) := by decide +kernel
theorem dX8_findMakingUp_71 : decode cX8_findMakingUp 71 = .ok (.ireturn, 1) := by decide +kernel
theorem dX8_findMakingUp_72 : decode cX8_findMakingUp 72 = .ok (.iinc 3 1, 3) := by decide +kernel
theorem dX8_findMakingUp_75 : decode cX8_findMakingUp 75 = .ok (.goto (-47), 3) := by decide +kernel
theorem dX8_findMakingUp_78 : decode cX8_findMakingUp 78 = .ok (.iinc 2 1, 3) := by decide +kernel
theorem dX8_findMakingUp_81 : decode cX8_findMakingUp 81 = .ok (.goto (-71), 3) := by decide +kernel
theorem dX8_findMakingUp_84 : decode cX8_findMakingUp 84 = .ok (.iconst 0, 1) := by decide +kernel
theorem dX8_findMakingUp_85 : decode cX8_findMakingUp 85 = .ok (.ireturn, 1) := by decide +kernel
theorem dX8_lawfulMixings_0 : decode cX8_lawfulMixings 0 = .ok (.iconst 0, 1) := by decide +kernel
theorem dX8_lawfulMixings_1 : decode cX8_lawfulMixings 1 = .ok (.istore 4, 2) := by decide +kernel
theorem dX8_lawfulMixings_3 : decode cX8_lawfulMixings 3 = .ok (.iload_n 1, 1) := by decide +kernel
theorem dX8_lawfulMixings_4 : decode cX8_lawfulMixings 4 = .ok (.istore 5, 2) := by decide +kernel
theorem dX8_lawfulMixings_6 : decode cX8_lawfulMixings 6 = .ok (.aload_n 0, 1) := by decide +kernel
theorem dX8_lawfulMixings_7 : decode cX8_lawfulMixings 7 = .ok (.getfield 18, 3) := by decide +kernel
theorem dX8_lawfulMixings_10 : decode cX8_lawfulMixings 10 = .ok (.getfield 27, 3) := by decide +kernel
theorem dX8_lawfulMixings_13 : decode cX8_lawfulMixings 13 = .ok (.istore 6, 2) := by decide +kernel
theorem dX8_lawfulMixings_15 : decode cX8_lawfulMixings 15 = .ok (.iconst 0, 1) := by decide +kernel
theorem dX8_lawfulMixings_16 : decode cX8_lawfulMixings 16 = .ok (.istore 7, 2) := by decide +kernel
theorem dX8_lawfulMixings_18 : decode cX8_lawfulMixings 18 = .ok (.iload 7, 2) := by decide +kernel
theorem dX8_lawfulMixings_20 : decode cX8_lawfulMixings 20 = .ok (.iload_n 2, 1) := by decide +kernel
theorem dX8_lawfulMixings_21 : decode cX8_lawfulMixings 21 = .ok (.if_icmp .ge 115, 3) := by decide +kernel
theorem dX8_lawfulMixings_24 : decode cX8_lawfulMixings 24 = .ok (.aload_n 0, 1) := by decide +kernel
theorem dX8_lawfulMixings_25 : decode cX8_lawfulMixings 25 = .ok (.invokevirtual 35, 3) := by decide +kernel
theorem dX8_lawfulMixings_28 : decode cX8_lawfulMixings 28 = .ok (.iload 6, 2) := by decide +kernel
theorem dX8_lawfulMixings_30 : decode cX8_lawfulMixings 30 = .ok (.iconst 1, 1) := by decide +kernel
theorem dX8_lawfulMixings_31 : decode cX8_lawfulMixings 31 = .ok (.isub, 1) := by decide +kernel
theorem dX8_lawfulMixings_32 : decode cX8_lawfulMixings 32 = .ok (.istore 8, 2) := by decide +kernel
theorem dX8_lawfulMixings_34 : decode cX8_lawfulMixings 34 = .ok (.iload 8, 2) := by decide +kernel
theorem dX8_lawfulMixings_36 : decode cX8_lawfulMixings 36 = .ok (.iconst 1, 1) := by decide +kernel
theorem dX8_lawfulMixings_37 : decode cX8_lawfulMixings 37 = .ok (.if_icmp .lt 39, 3) := by decide +kernel
theorem dX8_lawfulMixings_40 : decode cX8_lawfulMixings 40 = .ok (.iload 5, 2) := by decide +kernel
theorem dX8_lawfulMixings_42 : decode cX8_lawfulMixings 42 = .ok (.ldc 87, 2) := by decide +kernel
theorem dX8_lawfulMixings_44 : decode cX8_lawfulMixings 44 = .ok (.imul, 1) := by decide +kernel
theorem dX8_lawfulMixings_45 : decode cX8_lawfulMixings 45 = .ok (.sipush 12345, 3) := by decide +kernel
theorem dX8_lawfulMixings_48 : decode cX8_lawfulMixings 48 = .ok (.iadd, 1) := by decide +kernel
theorem dX8_lawfulMixings_49 : decode cX8_lawfulMixings 49 = .ok (.istore 5, 2) := by decide +kernel
theorem dX8_lawfulMixings_51 : decode cX8_lawfulMixings 51 = .ok (.aload_n 0, 1) := by decide +kernel
theorem dX8_lawfulMixings_52 : decode cX8_lawfulMixings 52 = .ok (.getfield 9, 3) := by decide +kernel
theorem dX8_lawfulMixings_55 : decode cX8_lawfulMixings 55 = .ok (.iload 8, 2) := by decide +kernel
theorem dX8_lawfulMixings_57 : decode cX8_lawfulMixings 57 = .ok (.iload 5, 2) := by decide +kernel
theorem dX8_lawfulMixings_59 : decode cX8_lawfulMixings 59 = .ok (.bipush 8, 2) := by decide +kernel
theorem dX8_lawfulMixings_61 : decode cX8_lawfulMixings 61 = .ok (.iushr, 1) := by decide +kernel
theorem dX8_lawfulMixings_62 : decode cX8_lawfulMixings 62 = .ok (.iload 8, 2) := by decide +kernel
theorem dX8_lawfulMixings_64 : decode cX8_lawfulMixings 64 = .ok (.iconst 1, 1) := by decide +kernel
theorem dX8_lawfulMixings_65 : decode cX8_lawfulMixings 65 = .ok (.iadd, 1) := by decide +kernel
theorem dX8_lawfulMixings_66 : decode cX8_lawfulMixings 66 = .ok (.irem, 1) := by decide +kernel
theorem dX8_lawfulMixings_67 : decode cX8_lawfulMixings 67 = .ok (.invokestatic 53, 3) := by decide +kernel
theorem dX8_lawfulMixings_70 : decode cX8_lawfulMixings 70 = .ok (.iinc 8 (-1), 3) := by decide +kernel
theorem dX8_lawfulMixings_73 : decode cX8_lawfulMixings 73 = .ok (.goto (-39), 3) := by decide +kernel
theorem dX8_lawfulMixings_76 : decode cX8_lawfulMixings 76 = .ok (.iload_n 3, 1) := by decide +kernel
theorem dX8_lawfulMixings_77 : decode cX8_lawfulMixings 77 = .ok (.iconst (-1), 1) := by decide +kernel
theorem dX8_lawfulMixings_78 : decode cX8_lawfulMixings 78 = .ok (.if_icmp .ne 19, 3) := by decide +kernel
theorem dX8_lawfulMixings_81 : decode cX8_lawfulMixings 81 = .ok (.aload_n 0, 1) := by decide +kernel
theorem dX8_lawfulMixings_82 : decode cX8_lawfulMixings 82 = .ok (.getfield 18, 3) := by decide +kernel
theorem dX8_lawfulMixings_85 : decode cX8_lawfulMixings 85 = .ok (.aload_n 0, 1) := by decide +kernel
theorem dX8_lawfulMixings_86 : decode cX8_lawfulMixings 86 = .ok (.getfield 9, 3) := by decide +kernel
theorem dX8_lawfulMixings_89 : decode cX8_lawfulMixings 89 = .ok (.iload 6, 2) := by decide +kernel
theorem dX8_lawfulMixings_91 : decode cX8_lawfulMixings 91 = .ok (.invokevirtual 42, 3) := by decide +kernel
theorem dX8_lawfulMixings_94 : decode cX8_lawfulMixings 94 = .ok (.goto 26, 3) := by decide +kernel
theorem dX8_lawfulMixings_97 : decode cX8_lawfulMixings 97 = .ok (.aload_n 0, 1) := by decide +kernel
theorem dX8_lawfulMixings_98 : decode cX8_lawfulMixings 98 = .ok (.getfield 18, 3) := by decide +kernel
theorem dX8_lawfulMixings_101 : decode cX8_lawfulMixings 101 = .ok (.aload_n 0, 1) := by decide +kernel
theorem dX8_lawfulMixings_102 : decode cX8_lawfulMixings 102 = .ok (.getfield 9, 3) := by decide +kernel
theorem dX8_lawfulMixings_105 : decode cX8_lawfulMixings 105 = .ok (.iload 6, 2) := by decide +kernel
theorem dX8_lawfulMixings_107 : decode cX8_lawfulMixings 107 = .ok (.aload_n 0, 1) := by decide +kernel
theorem dX8_lawfulMixings_108 : decode cX8_lawfulMixings 108 = .ok (.getfield 9, 3) := by decide +kernel
theorem dX8_lawfulMixings_111 : decode cX8_lawfulMixings 111 = .ok (.iload 6, 2) := by decide +kernel
theorem dX8_lawfulMixings_113 : decode cX8_lawfulMixings 113 = .ok (.iload_n 3, 1) := by decide +kernel
theorem dX8_lawfulMixings_114 : decode cX8_lawfulMixings 114 = .ok (.invokestatic 88, 3) := by decide +kernel
theorem dX8_lawfulMixings_117 : decode cX8_lawfulMixings 117 = .ok (.invokevirtual 92, 3) := by decide +kernel
theorem dX8_lawfulMixings_120 : decode cX8_lawfulMixings 120 = .ok (.istore 8, 2) := by decide +kernel
theorem dX8_lawfulMixings_122 : decode cX8_lawfulMixings 122 = .ok (.iload 8, 2) := by decide +kernel
theorem dX8_lawfulMixings_124 : decode cX8_lawfulMixings 124 = .ok (.ifCond .eq 6, 3) := by decide +kernel
theorem dX8_lawfulMixings_127 : decode cX8_lawfulMixings 127 = .ok (.iinc 4 1, 3) := by decide +kernel
theorem dX8_lawfulMixings_130 : decode cX8_lawfulMixings 130 = .ok (.iinc 7 1, 3) := by decide +kernel
theorem dX8_lawfulMixings_133 : decode cX8_lawfulMixings 133 = .ok (.goto (-115), 3) := by decide +kernel
theorem dX8_lawfulMixings_136 : decode cX8_lawfulMixings 136 = .ok (.iload 4, 2) := by decide +kernel
theorem dX8_lawfulMixings_138 : decode cX8_lawfulMixings 138 = .ok (.ireturn, 1) := by decide +kernel
theorem dX9_init_0 : decode cX9_init 0 = .ok (.aload_n 0, 1) := by decide +kernel
theorem dX9_init_1 : decode cX9_init 1 = .ok (.invokespecial 3, 3) := by decide +kernel
theorem dX9_init_4 : decode cX9_init 4 = .ok (.aload_n 0, 1) := by decide +kernel
theorem dX9_init_5 : decode cX9_init 5 = .ok (.bipush 6, 2) := by decide +kernel
theorem dX9_init_7 : decode cX9_init 7 = .ok (.newarray .int, 2) := by decide +kernel
theorem dX9_init_9 : decode cX9_init 9 = .ok (.putfield 11, 3) := by decide +kernel
theorem dX9_init_12 : decode cX9_init 12 = .ok (.aload_n 0, 1) := by decide +kernel
theorem dX9_init_13 : decode cX9_init 13 = .ok (.bipush 6, 2) := by decide +kernel
theorem dX9_init_15 : decode cX9_init 15 = .ok (.newarray .int, 2) := by decide +kernel
theorem dX9_init_17 : decode cX9_init 17 = .ok (.putfield 15, 3) := by decide +kernel
theorem dX9_init_20 : decode cX9_init 20 = .ok (.aload_n 0, 1) := by decide +kernel
theorem dX9_init_21 : decode cX9_init 21 = .ok (.bipush 6, 2) := by decide +kernel
theorem dX9_init_23 : decode cX9_init 23 = .ok (.newarray .int, 2) := by decide +kernel
theorem dX9_init_25 : decode cX9_init 25 = .ok (.putfield 18, 3) := by decide +kernel
theorem dX9_init_28 : decode cX9_init 28 = .ok (.aload_n 0, 1) := by decide +kernel
theorem dX9_init_29 : decode cX9_init 29 = .ok (.sipush 720, 3) := by decide +kernel
theorem dX9_init_32 : decode cX9_init 32 = .ok (.newarray .int, 2) := by decide +kernel
theorem dX9_init_34 : decode cX9_init 34 = .ok (.putfield 21, 3) := by decide +kernel
theorem dX9_init_37 : decode cX9_init 37 = .ok (.aload_n 0, 1) := by decide +kernel
theorem dX9_init_38 : decode cX9_init 38 = .ok (.sipush 720, 3) := by decide +kernel
theorem dX9_init_41 : decode cX9_init 41 = .ok (.newarray .int, 2) := by decide +kernel
theorem dX9_init_43 : decode cX9_init 43 = .ok (.putfield 24, 3) := by decide +kernel
theorem dX9_init_46 : decode cX9_init 46 = .ok (.aload_n 0, 1) := by decide +kernel
theorem dX9_init_47 : decode cX9_init 47 = .ok (.aload_n 1, 1) := by decide +kernel
theorem dX9_init_48 : decode cX9_init 48 = .ok (.putfield 27, 3) := by decide +kernel
theorem dX9_init_51 : decode cX9_init 51 = .ok (.return_, 1) := by decide +kernel
theorem dX9_isTold_0 : decode cX9_isTold 0 = .ok (.aload_n 0, 1) := by decide +kernel
theorem dX9_isTold_1 : decode cX9_isTold 1 = .ok (.getfield 27, 3) := by decide +kernel
theorem dX9_isTold_4 : decode cX9_isTold 4 = .ok (.getfield 31, 3) := by decide +kernel
theorem dX9_isTold_7 : decode cX9_isTold 7 = .ok (.istore_n 3, 1) := by decide +kernel
theorem dX9_isTold_8 : decode cX9_isTold 8 = .ok (.iload_n 3, 1) := by decide +kernel
theorem dX9_isTold_9 : decode cX9_isTold 9 = .ok (.bipush 6, 2) := by decide +kernel
theorem dX9_isTold_11 : decode cX9_isTold 11 = .ok (.if_icmp .gt 12, 3) := by decide +kernel
theorem dX9_isTold_14 : decode cX9_isTold 14 = .ok (.aload_n 1, 1) := by decide +kernel
theorem dX9_isTold_15 : decode cX9_isTold 15 = .ok (.iload_n 2, 1) := by decide +kernel
theorem dX9_isTold_16 : decode cX9_isTold 16 = .ok (.invokevirtual 37, 3) := by decide +kernel
theorem dX9_isTold_19 : decode cX9_isTold 19 = .ok (.iload_n 3, 1) := by decide +kernel
theorem dX9_isTold_20 : decode cX9_isTold 20 = .ok (.if_icmp .eq 5, 3) := by decide +kernel
theorem dX9_isTold_23 : decode cX9_isTold 23 = .ok (.iconst 0, 1) := by decide +kernel
theorem dX9_isTold_24 : decode cX9_isTold 24 = .ok (.ireturn, 1) := by decide +kernel
theorem dX9_isTold_25 : decode cX9_isTold 25 = .ok (.aload_n 0, 1) := by decide +kernel
theorem dX9_isTold_26 : decode cX9_isTold 26 = .ok (.getfield 27, 3) := by decide +kernel
theorem dX9_isTold_29 : decode cX9_isTold 29 = .ok (.invokevirtual 43, 3) := by decide +kernel
theorem dX9_isTold_32 : decode cX9_isTold 32 = .ok (.istore 4, 2) := by decide +kernel
theorem dX9_isTold_34 : decode cX9_isTold 34 = .ok (.iconst 0, 1) := by decide +kernel
theorem dX9_isTold_35 : decode cX9_isTold 35 = .ok (.istore 5, 2) := by decide +kernel
theorem dX9_isTold_37 : decode cX9_isTold 37 = .ok (.iload 5, 2) := by decide +kernel
theorem dX9_isTold_39 : decode cX9_isTold 39 = .ok (.iload_n 3, 1) := by decide +kernel
theorem dX9_isTold_40 : decode cX9_isTold 40 = .ok (.if_icmp .ge 65, 3) := by decide +kernel
theorem dX9_isTold_43 : decode cX9_isTold 43 = .ok (.aload_n 1, 1) := by decide +kernel
theorem dX9_isTold_44 : decode cX9_isTold 44 = .ok (.iload_n 2, 1) := by decide +kernel
theorem dX9_isTold_45 : decode cX9_isTold 45 = .ok (.iload 5, 2) := by decide +kernel
theorem dX9_isTold_47 : decode cX9_isTold 47 = .ok (.invokevirtual 47, 3) := by decide +kernel
theorem dX9_isTold_50 : decode cX9_isTold 50 = .ok (.l2i, 1) := by decide +kernel
theorem dX9_isTold_51 : decode cX9_isTold 51 = .ok (.istore 6, 2) := by decide +kernel
theorem dX9_isTold_53 : decode cX9_isTold 53 = .ok (.aload_n 0, 1) := by decide +kernel
theorem dX9_isTold_54 : decode cX9_isTold 54 = .ok (.getfield 27, 3) := by decide +kernel
theorem dX9_isTold_57 : decode cX9_isTold 57 = .ok (.iload 6, 2) := by decide +kernel
theorem dX9_isTold_59 : decode cX9_isTold 59 = .ok (.invokevirtual 51, 3) := by decide +kernel
theorem dX9_isTold_62 : decode cX9_isTold 62 = .ok (.ifCond .eq 13, 3) := by decide +kernel
theorem dX9_isTold_65 : decode cX9_isTold 65 = .ok (.iload 4, 2) := by decide +kernel
theorem dX9_isTold_67 : decode cX9_isTold 67 = .ok (.iload 6, 2) := by decide +kernel
theorem dX9_isTold_69 : decode cX9_isTold 69 = .ok (.ishr, 1) := by decide +kernel
theorem dX9_isTold_70 : decode cX9_isTold 70 = .ok (.iconst 1, 1) := by decide +kernel
theorem dX9_isTold_71 : decode cX9_isTold 71 = .ok (.iand, 1) := by decide +kernel
theorem dX9_isTold_72 : decode cX9_isTold 72 = .ok (.ifCond .ne 5, 3) := by decide +kernel
theorem dX9_isTold_75 : decode cX9_isTold 75 = .ok (.iconst 0, 1) := by decide +kernel
theorem dX9_isTold_76 : decode cX9_isTold 76 = .ok (.ireturn, 1) := by decide +kernel
theorem dX9_isTold_77 : decode cX9_isTold 77 = .ok (.iload 4, 2) := by decide +kernel
theorem dX9_isTold_79 : decode cX9_isTold 79 = .ok (.iconst 1, 1) := by decide +kernel
theorem dX9_isTold_80 : decode cX9_isTold 80 = .ok (.iload 6, 2) := by decide +kernel
theorem dX9_isTold_82 : decode cX9_isTold 82 = .ok (.ishl, 1) := by decide +kernel
theorem dX9_isTold_83 : decode cX9_isTold 83 = .ok (.iconst (-1), 1) := by decide +kernel
theorem dX9_isTold_84 : decode cX9_isTold 84 = .ok (.ixor, 1) := by decide +kernel
theorem dX9_isTold_85 : decode cX9_isTold 85 = .ok (.iand, 1) := by decide +kernel
theorem dX9_isTold_86 : decode cX9_isTold 86 = .ok (.istore 4, 2) := by decide +kernel
theorem dX9_isTold_88 : decode cX9_isTold 88 = .ok (.aload_n 0, 1) := by decide +kernel
theorem dX9_isTold_89 : decode cX9_isTold 89 = .ok (.getfield 11, 3) := by decide +kernel
theorem dX9_isTold_92 : decode cX9_isTold 92 = .ok (.iload 5, 2) := by decide +kernel
theorem dX9_isTold_94 : decode cX9_isTold 94 = .ok (.iload 6, 2) := by decide +kernel
theorem dX9_isTold_96 : decode cX9_isTold 96 = .ok (.invokestatic 55, 3) := by decide +kernel
theorem dX9_isTold_99 : decode cX9_isTold 99 = .ok (.iinc 5 1, 3) := by decide +kernel
theorem dX9_isTold_102 : decode cX9_isTold 102 = .ok (.goto (-65), 3) := by decide +kernel
theorem dX9_isTold_105 : decode cX9_isTold 105 = .ok (.iconst 1, 1) := by decide +kernel
theorem dX9_isTold_106 : decode cX9_isTold 106 = .ok (.ireturn, 1) := by decide +kernel
theorem dX9_fewestTurns_0 : decode cX9_fewestTurns 0 = .ok (.aload_n 0, 1) := by decide +kernel
theorem dX9_fewestTurns_1 : decode cX9_fewestTurns 1 = .ok (.getfield 27, 3) := by decide +kernel
theorem dX9_fewestTurns_4 : decode cX9_fewestTurns 4 = .ok (.getfield 31, 3) := by decide +kernel
theorem dX9_fewestTurns_7 : decode cX9_fewestTurns 7 = .ok (.istore_n 1, 1) := by decide +kernel
theorem dX9_fewestTurns_8 : decode cX9_fewestTurns 8 = .ok (.aload_n 0, 1) := by decide +kernel
theorem dX9_fewestTurns_9 : decode cX9_fewestTurns 9 = .ok (.getfield 11, 3) := by decide +kernel
theorem dX9_fewestTurns_12 : decode cX9_fewestTurns 12 = .ok (.iload_n 1, 1) := by decide +kernel
theorem dX9_fewestTurns_13 : decode cX9_fewestTurns 13 = .ok (.invokestatic 59, 3) := by decide +kernel
theorem dX9_fewestTurns_16 : decode cX9_fewestTurns 16 = .ok (.istore_n 2, 1) := by decide +kernel
theorem dX9_fewestTurns_17 : decode cX9_fewestTurns 17 = .ok (.iconst 0, 1) := by decide +kernel
theorem dX9_fewestTurns_18 : decode cX9_fewestTurns 18 = .ok (.istore_n 3, 1) := by decide +kernel
theorem dX9_fewestTurns_19 : decode cX9_fewestTurns 19 = .ok (.iload_n 3, 1) := by decide +kernel
theorem dX9_fewestTurns_20 : decode cX9_fewestTurns 20 = .ok (.sipush 720, 3) := by decide +kernel
theorem dX9_fewestTurns_23 : decode cX9_fewestTurns 23 = .ok (.if_icmp .ge 18, 3) := by decide +kernel
theorem dX9_fewestTurns_26 : decode cX9_fewestTurns 26 = .ok (.aload_n 0, 1) := by decide +kernel
theorem dX9_fewestTurns_27 : decode cX9_fewestTurns 27 = .ok (.getfield 21, 3) := by decide +kernel
theorem dX9_fewestTurns_30 : decode cX9_fewestTurns 30 = .ok (.iload_n 3, 1) := by decide +kernel
theorem dX9_fewestTurns_31 : decode cX9_fewestTurns 31 = .ok (.iconst (-1), 1) := by decide +kernel
theorem dX9_fewestTurns_32 : decode cX9_fewestTurns 32 = .ok (.invokestatic 55, 3) := by decide +kernel
theorem dX9_fewestTurns_35 : decode cX9_fewestTurns 35 = .ok (.iinc 3 1, 3) := by decide +kernel
theorem dX9_fewestTurns_38 : decode cX9_fewestTurns 38 = .ok (.goto (-19), 3) := by decide +kernel
theorem dX9_fewestTurns_41 : decode cX9_fewestTurns 41 = .ok (.aload_n 0, 1) := by decide +kernel
theorem dX9_fewestTurns_42 : decode cX9_fewestTurns 42 = .ok (.iconst 0, 1) := by decide +kernel
theorem dX9_fewestTurns_43 : decode cX9_fewestTurns 43 = .ok (.putfield 63, 3) := by decide +kernel
theorem dX9_fewestTurns_46 : decode cX9_fewestTurns 46 = .ok (.aload_n 0, 1) := by decide +kernel
theorem dX9_fewestTurns_47 : decode cX9_fewestTurns 47 = .ok (.getfield 27, 3) := by decide +kernel
theorem dX9_fewestTurns_50 : decode cX9_fewestTurns 50 = .ok (.getfield 66, 3) := by decide +kernel
theorem dX9_fewestTurns_53 : decode cX9_fewestTurns 53 = .ok (.aload_n 0, 1) := by decide +kernel
theorem dX9_fewestTurns_54 : decode cX9_fewestTurns 54 = .ok (.getfield 18, 3) := by decide +kernel
theorem dX9_fewestTurns_57 : decode cX9_fewestTurns 57 = .ok (.iload_n 1, 1) := by decide +kernel
theorem dX9_fewestTurns_58 : decode cX9_fewestTurns 58 = .ok (.invokestatic 69, 3) := by decide +kernel
theorem dX9_fewestTurns_61 : decode cX9_fewestTurns 61 = .ok (.aload_n 0, 1) := by decide +kernel
theorem dX9_fewestTurns_62 : decode cX9_fewestTurns 62 = .ok (.iload_n 1, 1) := by decide +kernel
theorem dX9_fewestTurns_63 : decode cX9_fewestTurns 63 = .ok (.iconst 0, 1) := by decide +kernel
theorem dX9_fewestTurns_64 : decode cX9_fewestTurns 64 = .ok (.invokevirtual 73, 3) := by decide +kernel
theorem dX9_fewestTurns_67 : decode cX9_fewestTurns 67 = .ok (.iconst 0, 1) := by decide +kernel
theorem dX9_fewestTurns_68 : decode cX9_fewestTurns 68 = .ok (.istore_n 3, 1) := by decide +kernel
theorem dX9_fewestTurns_69 : decode cX9_fewestTurns 69 = .ok (.iload_n 3, 1) := by decide +kernel
theorem dX9_fewestTurns_70 : decode cX9_fewestTurns 70 = .ok (.sipush 720, 3) := by decide +kernel
theorem dX9_fewestTurns_73 : decode cX9_fewestTurns 73 = .ok (.if_icmp .ge 63, 3) := by decide +kernel
theorem dX9_fewestTurns_76 : decode cX9_fewestTurns 76 = .ok (.iload_n 3, 1) := by decide +kernel
theorem dX9_fewestTurns_77 : decode cX9_fewestTurns 77 = .ok (.aload_n 0, 1) := by decide +kernel
theorem dX9_fewestTurns_78 : decode cX9_fewestTurns 78 = .ok (.getfield 63, 3) := by decide +kernel
theorem dX9_fewestTurns_81 : decode cX9_fewestTurns 81 = .ok (.if_icmp .ge 55, 3) := by decide +kernel
theorem dX9_fewestTurns_84 : decode cX9_fewestTurns 84 = .ok (.aload_n 0, 1) := by decide +kernel
theorem dX9_fewestTurns_85 : decode cX9_fewestTurns 85 = .ok (.getfield 21, 3) := by decide +kernel
theorem dX9_fewestTurns_88 : decode cX9_fewestTurns 88 = .ok (.iload_n 2, 1) := by decide +kernel
theorem dX9_fewestTurns_89 : decode cX9_fewestTurns 89 = .ok (.invokestatic 77, 3) := by decide +kernel
theorem dX9_fewestTurns_92 : decode cX9_fewestTurns 92 = .ok (.ifCond .ge 44, 3) := by decide +kernel
theorem dX9_fewestTurns_95 : decode cX9_fewestTurns 95 = .ok (.aload_n 0, 1) := by decide +kernel
theorem dX9_fewestTurns_96 : decode cX9_fewestTurns 96 = .ok (.aload_n 0, 1) := by decide +kernel
theorem dX9_fewestTurns_97 : decode cX9_fewestTurns 97 = .ok (.getfield 24, 3) := by decide +kernel
theorem dX9_fewestTurns_100 : decode cX9_fewestTurns 100 = .ok (.iload_n 3, 1) := by decide +kernel
theorem dX9_fewestTurns_101 : decode cX9_fewestTurns 101 = .ok (.invokestatic 77, 3) := by decide +kernel
theorem dX9_fewestTurns_104 : decode cX9_fewestTurns 104 = .ok (.iload_n 1, 1) := by decide +kernel
theorem dX9_fewestTurns_105 : decode cX9_fewestTurns 105 = .ok (.invokevirtual 80, 3) := by decide +kernel
theorem dX9_fewestTurns_108 : decode cX9_fewestTurns 108 = .ok (.aload_n 0, 1) := by decide +kernel
theorem dX9_fewestTurns_109 : decode cX9_fewestTurns 109 = .ok (.iload_n 1, 1) := by decide +kernel
theorem dX9_fewestTurns_110 : decode cX9_fewestTurns 110 = .ok (.aload_n 0, 1) := by decide +kernel
theorem dX9_fewestTurns_111 : decode cX9_fewestTurns 111 = .ok (.getfield 21, 3) := by decide +kernel
theorem dX9_fewestTurns_114 : decode cX9_fewestTurns 114 = .ok (.aload_n 0, 1) := by decide +kernel
theorem dX9_fewestTurns_115 : decode cX9_fewestTurns 115 = .ok (.getfield 15, 3) := by decide +kernel
theorem dX9_fewestTurns_118 : decode cX9_fewestTurns 118 = .ok (.iload_n 1, 1) := by decide +kernel
theorem dX9_fewestTurns_119 : decode cX9_fewestTurns 119 = .ok (.invokestatic 59, 3) := by decide +kernel
theorem dX9_fewestTurns_122 : decode cX9_fewestTurns 122 = .ok (.invokestatic 77, 3) := by decide +kernel
theorem dX9_fewestTurns_125 : decode cX9_fewestTurns 125 = .ok (.iconst 1, 1) := by decide +kernel
theorem dX9_fewestTurns_126 : decode cX9_fewestTurns 126 = .ok (.iadd, 1) := by decide +kernel
theorem dX9_fewestTurns_127 : decode cX9_fewestTurns 127 = .ok (.invokevirtual 83, 3) := by decide +kernel
theorem dX9_fewestTurns_130 : decode cX9_fewestTurns 130 = .ok (.iinc 3 1, 3) := by decide +kernel
theorem dX9_fewestTurns_133 : decode cX9_fewestTurns 133 = .ok (.goto (-64), 3) := by decide +kernel
theorem dX9_fewestTurns_136 : decode cX9_fewestTurns 136 = .ok (.aload_n 0, 1) := by decide +kernel
theorem dX9_fewestTurns_137 : decode cX9_fewestTurns 137 = .ok (.getfield 21, 3) := by decide +kernel
theorem dX9_fewestTurns_140 : decode cX9_fewestTurns 140 = .ok (.iload_n 2, 1) := by decide +kernel
theorem dX9_fewestTurns_141 : decode cX9_fewestTurns 141 = .ok (.invokestatic 77, 3) := by decide +kernel
theorem dX9_fewestTurns_144 : decode cX9_fewestTurns 144 = .ok (.ifCond .ge 8, 3) := by decide +kernel
theorem dX9_fewestTurns_147 : decode cX9_fewestTurns 147 = .ok (.bipush (-2), 2) := by decide +kernel
theorem dX9_fewestTurns_149 : decode cX9_fewestTurns 149 = .ok (.goto 11, 3) := by decide +kernel
theorem dX9_fewestTurns_152 : decode cX9_fewestTurns 152 = .ok (.aload_n 0, 1) := by decide +kernel
theorem dX9_fewestTurns_153 : decode cX9_fewestTurns 153 = .ok (.getfield 21, 3) := by decide +kernel
theorem dX9_fewestTurns_156 : decode cX9_fewestTurns 156 = .ok (.iload_n 2, 1) := by decide +kernel
theorem dX9_fewestTurns_157 : decode cX9_fewestTurns 157 = .ok (.invokestatic 77, 3) := by decide +kernel
theorem dX9_fewestTurns_160 : decode cX9_fewestTurns 160 = .ok (.ireturn, 1) := by decide +kernel
theorem dX9_turnEachWay_0 : decode cX9_turnEachWay 0 = .ok (.iconst 0, 1) := by decide +kernel
theorem dX9_turnEachWay_1 : decode cX9_turnEachWay 1 = .ok (.istore_n 3, 1) := by decide +kernel
theorem dX9_turnEachWay_2 : decode cX9_turnEachWay 2 = .ok (.iload_n 3, 1) := by decide +kernel
theorem dX9_turnEachWay_3 : decode cX9_turnEachWay 3 = .ok (.iload_n 1, 1) := by decide +kernel
theorem dX9_turnEachWay_4 : decode cX9_turnEachWay 4 = .ok (.if_icmp .ge 54, 3) := by decide +kernel
theorem dX9_turnEachWay_7 : decode cX9_turnEachWay 7 = .ok (.iload_n 3, 1) := by decide +kernel
theorem dX9_turnEachWay_8 : decode cX9_turnEachWay 8 = .ok (.iconst 1, 1) := by decide +kernel
theorem dX9_turnEachWay_9 : decode cX9_turnEachWay 9 = .ok (.iadd, 1) := by decide +kernel
theorem dX9_turnEachWay_10 : decode cX9_turnEachWay 10 = .ok (.istore 4, 2) := by decide +kernel
theorem dX9_turnEachWay_12 : decode cX9_turnEachWay 12 = .ok (.iload 4, 2) := by decide +kernel
theorem dX9_turnEachWay_14 : decode cX9_turnEachWay 14 = .ok (.iload_n 1, 1) := by decide +kernel
theorem dX9_turnEachWay_15 : decode cX9_turnEachWay 15 = .ok (.if_icmp .ge 37, 3) := by decide +kernel
theorem dX9_turnEachWay_18 : decode cX9_turnEachWay 18 = .ok (.aload_n 0, 1) := by decide +kernel
theorem dX9_turnEachWay_19 : decode cX9_turnEachWay 19 = .ok (.getfield 15, 3) := by decide +kernel
theorem dX9_turnEachWay_22 : decode cX9_turnEachWay 22 = .ok (.aload_n 0, 1) := by decide +kernel
theorem dX9_turnEachWay_23 : decode cX9_turnEachWay 23 = .ok (.getfield 18, 3) := by decide +kernel
theorem dX9_turnEachWay_26 : decode cX9_turnEachWay 26 = .ok (.iload_n 1, 1) := by decide +kernel
theorem dX9_turnEachWay_27 : decode cX9_turnEachWay 27 = .ok (.invokestatic 69, 3) := by decide +kernel
theorem dX9_turnEachWay_30 : decode cX9_turnEachWay 30 = .ok (.aload_n 0, 1) := by decide +kernel
theorem dX9_turnEachWay_31 : decode cX9_turnEachWay 31 = .ok (.getfield 18, 3) := by decide +kernel
theorem dX9_turnEachWay_34 : decode cX9_turnEachWay 34 = .ok (.iload_n 3, 1) := by decide +kernel
theorem dX9_turnEachWay_35 : decode cX9_turnEachWay 35 = .ok (.iload 4, 2) := by decide +kernel
theorem dX9_turnEachWay_37 : decode cX9_turnEachWay 37 = .ok (.invokestatic 86, 3) := by decide +kernel
theorem dX9_turnEachWay_40 : decode cX9_turnEachWay 40 = .ok (.aload_n 0, 1) := by decide +kernel
theorem dX9_turnEachWay_41 : decode cX9_turnEachWay 41 = .ok (.iload_n 1, 1) := by decide +kernel
theorem dX9_turnEachWay_42 : decode cX9_turnEachWay 42 = .ok (.iload_n 2, 1) := by decide +kernel
theorem dX9_turnEachWay_43 : decode cX9_turnEachWay 43 = .ok (.invokevirtual 73, 3) := by decide +kernel
theorem dX9_turnEachWay_46 : decode cX9_turnEachWay 46 = .ok (.iinc 4 1, 3) := by decide +kernel
theorem dX9_turnEachWay_49 : decode cX9_turnEachWay 49 = .ok (.goto (-37), 3) := by decide +kernel
theorem dX9_turnEachWay_52 : decode cX9_turnEachWay 52 = .ok (.iinc 3 1, 3) := by decide +kernel
theorem dX9_turnEachWay_55 : decode cX9_turnEachWay 55 = .ok (.goto (-53), 3) := by decide +kernel
theorem dX9_turnEachWay_58 : decode cX9_turnEachWay 58 = .ok (.return_, 1) := by decide +kernel
theorem dX9_reach_0 : decode cX9_reach 0 = .ok (.aload_n 0, 1) := by decide +kernel
theorem dX9_reach_1 : decode cX9_reach 1 = .ok (.getfield 18, 3) := by decide +kernel
theorem dX9_reach_4 : decode cX9_reach 4 = .ok (.iload_n 1, 1) := by decide +kernel
theorem dX9_reach_5 : decode cX9_reach 5 = .ok (.invokestatic 59, 3) := by decide +kernel
theorem dX9_reach_8 : decode cX9_reach 8 = .ok (.istore_n 3, 1) := by decide +kernel
theorem dX9_reach_9 : decode cX9_reach 9 = .ok (.aload_n 0, 1) := by decide +kernel
theorem dX9_reach_10 : decode cX9_reach 10 = .ok (.getfield 21, 3) := by decide +kernel
theorem dX9_reach_13 : decode cX9_reach 13 = .ok (.iload_n 3, 1) := by decide +kernel
theorem dX9_reach_14 : decode cX9_reach 14 = .ok (.invokestatic 77, 3) := by decide +kernel
theorem dX9_reach_17 : decode cX9_reach 17 = .ok (.iconst (-1), 1) := by decide +kernel
theorem dX9_reach_18 : decode cX9_reach 18 = .ok (.if_icmp .eq 4, 3) := by decide +kernel
theorem dX9_reach_21 : decode cX9_reach 21 = .ok (.return_, 1) := by decide +kernel
theorem dX9_reach_22 : decode cX9_reach 22 = .ok (.iload_n 2, 1) := by decide +kernel
theorem dX9_reach_23 : decode cX9_reach 23 = .ok (.ifCond .le 29, 3) := by decide +kernel
theorem dX9_reach_26 : decode cX9_reach 26 = .ok (.aload_n 0, 1) := by decide +kernel
theorem dX9_reach_27 : decode cX9_reach 27 = .ok (.getfield 27, 3) := by decide +kernel
theorem dX9_reach_30 : decode cX9_reach 30 = .ok (.aload_n 0, 1) := by decide +kernel
theorem dX9_reach_31 : decode cX9_reach 31 = .ok (.getfield 18, 3) := by decide +kernel
theorem dX9_reach_34 : decode cX9_reach 34 = .ok (.iload_n 1, 1) := by decide +kernel
theorem dX9_reach_35 : decode cX9_reach 35 = .ok (.invokevirtual 89, 3) := by decide +kernel
theorem dX9_reach_38 : decode cX9_reach 38 = .ok (.ifCond .ne 14, 3) := by decide +kernel
theorem dX9_reach_41 : decode cX9_reach 41 = .ok (.aload_n 0, 1) := by decide +kernel
theorem dX9_reach_42 : decode cX9_reach 42 = .ok (.getfield 21, 3) := by decide +kernel
theorem dX9_reach_45 : decode cX9_reach 45 = .ok (.iload_n 3, 1) := by decide +kernel
theorem dX9_reach_46 : decode cX9_reach 46 = .ok (.bipush (-2), 2) := by decide +kernel
theorem dX9_reach_48 : decode cX9_reach 48 = .ok (.invokestatic 55, 3) := by decide +kernel
theorem dX9_reach_51 : decode cX9_reach 51 = .ok (.return_, 1) := by decide +kernel
theorem dX9_reach_52 : decode cX9_reach 52 = .ok (.aload_n 0, 1) := by decide +kernel
theorem dX9_reach_53 : decode cX9_reach 53 = .ok (.getfield 21, 3) := by decide +kernel
theorem dX9_reach_56 : decode cX9_reach 56 = .ok (.iload_n 3, 1) := by decide +kernel
theorem dX9_reach_57 : decode cX9_reach 57 = .ok (.iload_n 2, 1) := by decide +kernel
theorem dX9_reach_58 : decode cX9_reach 58 = .ok (.invokestatic 55, 3) := by decide +kernel
theorem dX9_reach_61 : decode cX9_reach 61 = .ok (.aload_n 0, 1) := by decide +kernel
theorem dX9_reach_62 : decode cX9_reach 62 = .ok (.getfield 24, 3) := by decide +kernel
theorem dX9_reach_65 : decode cX9_reach 65 = .ok (.aload_n 0, 1) := by decide +kernel
theorem dX9_reach_66 : decode cX9_reach 66 = .ok (.getfield 63, 3) := by decide +kernel
theorem dX9_reach_69 : decode cX9_reach 69 = .ok (.aload_n 0, 1) := by decide +kernel
theorem dX9_reach_70 : decode cX9_reach 70 = .ok (.iload_n 1, 1) := by decide +kernel
theorem dX9_reach_71 : decode cX9_reach 71 = .ok (.invokevirtual 93, 3) := by decide +kernel
theorem dX9_reach_74 : decode cX9_reach 74 = .ok (.invokestatic 55, 3) := by decide +kernel
theorem dX9_reach_77 : decode cX9_reach 77 = .ok (.aload_n 0, 1) := by decide +kernel
theorem dX9_reach_78 : decode cX9_reach 78 = .ok (.dup, 1) := by decide +kernel
theorem dX9_reach_79 : decode cX9_reach 79 = .ok (.getfield 63, 3) := by decide +kernel
theorem dX9_reach_82 : decode cX9_reach 82 = .ok (.iconst 1, 1) := by decide +kernel
theorem dX9_reach_83 : decode cX9_reach 83 = .ok (.iadd, 1) := by decide +kernel
theorem dX9_reach_84 : decode cX9_reach 84 = .ok (.putfield 63, 3) := by decide +kernel
theorem dX9_reach_87 : decode cX9_reach 87 = .ok (.return_, 1) := by decide +kernel
theorem dX9_packed_0 : decode cX9_packed 0 = .ok (.iconst 0, 1) := by decide +kernel
theorem dX9_packed_1 : decode cX9_packed 1 = .ok (.istore_n 2, 1) := by decide +kernel
theorem dX9_packed_2 : decode cX9_packed 2 = .ok (.iconst 0, 1) := by decide +kernel
theorem dX9_packed_3 : decode cX9_packed 3 = .ok (.istore_n 3, 1) := by decide +kernel
theorem dX9_packed_4 : decode cX9_packed 4 = .ok (.iload_n 3, 1) := by decide +kernel
theorem dX9_packed_5 : decode cX9_packed 5 = .ok (.iload_n 1, 1) := by decide +kernel
theorem dX9_packed_6 : decode cX9_packed 6 = .ok (.if_icmp .ge 24, 3) := by decide +kernel
theorem dX9_packed_9 : decode cX9_packed 9 = .ok (.iload_n 2, 1) := by decide +kernel
theorem dX9_packed_10 : decode cX9_packed 10 = .ok (.aload_n 0, 1) := by decide +kernel
theorem dX9_packed_11 : decode cX9_packed 11 = .ok (.getfield 18, 3) := by decide +kernel
theorem dX9_packed_14 : decode cX9_packed 14 = .ok (.iload_n 3, 1) := by decide +kernel
theorem dX9_packed_15 : decode cX9_packed 15 = .ok (.invokestatic 77, 3) := by decide +kernel
theorem dX9_packed_18 : decode cX9_packed 18 = .ok (.iconst 3, 1) := by decide +kernel
theorem dX9_packed_19 : decode cX9_packed 19 = .ok (.iload_n 3, 1) := by decide +kernel
theorem dX9_packed_20 : decode cX9_packed 20 = .ok (.imul, 1) := by decide +kernel
theorem dX9_packed_21 : decode cX9_packed 21 = .ok (.ishl, 1) := by decide +kernel
theorem dX9_packed_22 : decode cX9_packed 22 = .ok (.ior, 1) := by decide +kernel
theorem dX9_packed_23 : decode cX9_packed 23 = .ok (.istore_n 2, 1) := by decide +kernel
theorem dX9_packed_24 : decode cX9_packed 24 = .ok (.iinc 3 1, 3) := by decide +kernel
theorem dX9_packed_27 : decode cX9_packed 27 = .ok (.goto (-23), 3) := by decide +kernel
theorem dX9_packed_30 : decode cX9_packed 30 = .ok (.iload_n 2, 1) := by decide +kernel
theorem dX9_packed_31 : decode cX9_packed 31 = .ok (.ireturn, 1) := by decide +kernel
theorem dX9_unpack_0 : decode cX9_unpack 0 = .ok (.iconst 0, 1) := by decide +kernel
theorem dX9_unpack_1 : decode cX9_unpack 1 = .ok (.istore_n 3, 1) := by decide +kernel
theorem dX9_unpack_2 : decode cX9_unpack 2 = .ok (.iload_n 3, 1) := by decide +kernel
theorem dX9_unpack_3 : decode cX9_unpack 3 = .ok (.iload_n 2, 1) := by decide +kernel
theorem dX9_unpack_4 : decode cX9_unpack 4 = .ok (.if_icmp .ge 25, 3) := by decide +kernel
theorem dX9_unpack_7 : decode cX9_unpack 7 = .ok (.aload_n 0, 1) := by decide +kernel
theorem dX9_unpack_8 : decode cX9_unpack 8 = .ok (.getfield 15, 3) := by decide +kernel
theorem dX9_unpack_11 : decode cX9_unpack 11 = .ok (.iload_n 3, 1) := by decide +kernel
theorem dX9_unpack_12 : decode cX9_unpack 12 = .ok (.iload_n 1, 1) := by decide +kernel
theorem dX9_unpack_13 : decode cX9_unpack 13 = .ok (.iconst 3, 1) := by decide +kernel
theorem dX9_unpack_14 : decode cX9_unpack 14 = .ok (.iload_n 3, 1) := by decide +kernel
theorem dX9_unpack_15 : decode cX9_unpack 15 = .ok (.imul, 1) := by decide +kernel
theorem dX9_unpack_16 : decode cX9_unpack 16 = .ok (.ishr, 1) := by decide +kernel
theorem dX9_unpack_17 : decode cX9_unpack 17 = .ok (.bipush 7, 2) := by decide +kernel
theorem dX9_unpack_19 : decode cX9_unpack 19 = .ok (.iand, 1) := by decide +kernel
theorem dX9_unpack_20 : decode cX9_unpack 20 = .ok (.invokestatic 55, 3) := by decide +kernel
theorem dX9_unpack_23 : decode cX9_unpack 23 = .ok (.iinc 3 1, 3) := by decide +kernel
theorem dX9_unpack_26 : decode cX9_unpack 26 = .ok (.goto (-24), 3) := by decide +kernel
theorem dX9_unpack_29 : decode cX9_unpack 29 = .ok (.return_, 1) := by decide +kernel
theorem dX9_rank_0 : decode cX9_rank 0 = .ok (.iconst 0, 1) := by decide +kernel
theorem dX9_rank_1 : decode cX9_rank 1 = .ok (.istore_n 2, 1) := by decide +kernel
theorem dX9_rank_2 : decode cX9_rank 2 = .ok (.iconst 0, 1) := by decide +kernel
theorem dX9_rank_3 : decode cX9_rank 3 = .ok (.istore_n 3, 1) := by decide +kernel
theorem dX9_rank_4 : decode cX9_rank 4 = .ok (.iload_n 3, 1) := by decide +kernel
theorem dX9_rank_5 : decode cX9_rank 5 = .ok (.iload_n 1, 1) := by decide +kernel
theorem dX9_rank_6 : decode cX9_rank 6 = .ok (.if_icmp .ge 55, 3) := by decide +kernel
theorem dX9_rank_9 : decode cX9_rank 9 = .ok (.iconst 0, 1) := by decide +kernel
theorem dX9_rank_10 : decode cX9_rank 10 = .ok (.istore 4, 2) := by decide +kernel
theorem dX9_rank_12 : decode cX9_rank 12 = .ok (.iload_n 3, 1) := by decide +kernel
theorem dX9_rank_13 : decode cX9_rank 13 = .ok (.iconst 1, 1) := by decide +kernel
theorem dX9_rank_14 : decode cX9_rank 14 = .ok (.iadd, 1) := by decide +kernel
theorem dX9_rank_15 : decode cX9_rank 15 = .ok (.istore 5, 2) := by decide +kernel
theorem dX9_rank_17 : decode cX9_rank 17 = .ok (.iload 5, 2) := by decide +kernel
theorem dX9_rank_19 : decode cX9_rank 19 = .ok (.iload_n 1, 1) := by decide +kernel
theorem dX9_rank_20 : decode cX9_rank 20 = .ok (.if_icmp .ge 26, 3) := by decide +kernel
theorem dX9_rank_23 : decode cX9_rank 23 = .ok (.aload_n 0, 1) := by decide +kernel
theorem dX9_rank_24 : decode cX9_rank 24 = .ok (.iload 5, 2) := by decide +kernel
theorem dX9_rank_26 : decode cX9_rank 26 = .ok (.invokestatic 77, 3) := by decide +kernel
theorem dX9_rank_29 : decode cX9_rank 29 = .ok (.aload_n 0, 1) := by decide +kernel
theorem dX9_rank_30 : decode cX9_rank 30 = .ok (.iload_n 3, 1) := by decide +kernel
theorem dX9_rank_31 : decode cX9_rank 31 = .ok (.invokestatic 77, 3) := by decide +kernel
theorem dX9_rank_34 : decode cX9_rank 34 = .ok (.if_icmp .ge 6, 3) := by decide +kernel
theorem dX9_rank_37 : decode cX9_rank 37 = .ok (.iinc 4 1, 3) := by decide +kernel
theorem dX9_rank_40 : decode cX9_rank 40 = .ok (.iinc 5 1, 3) := by decide +kernel
theorem dX9_rank_43 : decode cX9_rank 43 = .ok (.goto (-26), 3) := by decide +kernel
theorem dX9_rank_46 : decode cX9_rank 46 = .ok (.iload_n 2, 1) := by decide +kernel
theorem dX9_rank_47 : decode cX9_rank 47 = .ok (.iload_n 1, 1) := by decide +kernel
theorem dX9_rank_48 : decode cX9_rank 48 = .ok (.iload_n 3, 1) := by decide +kernel
theorem dX9_rank_49 : decode cX9_rank 49 = .ok (.isub, 1) := by decide +kernel
theorem dX9_rank_50 : decode cX9_rank 50 = .ok (.imul, 1) := by decide +kernel
theorem dX9_rank_51 : decode cX9_rank 51 = .ok (.iload 4, 2) := by decide +kernel
theorem dX9_rank_53 : decode cX9_rank 53 = .ok (.iadd, 1) := by decide +kernel
theorem dX9_rank_54 : decode cX9_rank 54 = .ok (.istore_n 2, 1) := by decide +kernel
theorem dX9_rank_55 : decode cX9_rank 55 = .ok (.iinc 3 1, 3) := by decide +kernel
theorem dX9_rank_58 : decode cX9_rank 58 = .ok (.goto (-54), 3) := by decide +kernel
theorem dX9_rank_61 : decode cX9_rank 61 = .ok (.iload_n 2, 1) := by decide +kernel
theorem dX9_rank_62 : decode cX9_rank 62 = .ok (.ireturn, 1) := by decide +kernel
theorem dX10_init_0 : decode cX10_init 0 = .ok (.aload_n 0, 1) := by decide +kernel
theorem dX10_init_1 : decode cX10_init 1 = .ok (.invokespecial 1, 3) := by decide +kernel
theorem dX10_init_4 : decode cX10_init 4 = .ok (.aload_n 0, 1) := by decide +kernel
theorem dX10_init_5 : decode cX10_init 5 = .ok (.new 7, 3) := by decide +kernel
theorem dX10_init_8 : decode cX10_init 8 = .ok (.dup, 1) := by decide +kernel
theorem dX10_init_9 : decode cX10_init 9 = .ok (.invokespecial 9, 3) := by decide +kernel
theorem dX10_init_12 : decode cX10_init 12 = .ok (.putfield 10, 3) := by decide +kernel
theorem dX10_init_15 : decode cX10_init 15 = .ok (.aload_n 0, 1) := by decide +kernel
theorem dX10_init_16 : decode cX10_init 16 = .ok (.new 16, 3) := by decide +kernel
theorem dX10_init_19 : decode cX10_init 19 = .ok (.dup, 1) := by decide +kernel
theorem dX10_init_20 : decode cX10_init 20 = .ok (.aload_n 0, 1) := by decide +kernel
theorem dX10_init_21 : decode cX10_init 21 = .ok (.getfield 10, 3) := by decide +kernel
theorem dX10_init_24 : decode cX10_init 24 = .ok (.invokespecial 18, 3) := by decide +kernel
theorem dX10_init_27 : decode cX10_init 27 = .ok (.putfield 21, 3) := by decide +kernel
theorem dX10_init_30 : decode cX10_init 30 = .ok (.aload_n 0, 1) := by decide +kernel
theorem dX10_init_31 : decode cX10_init 31 = .ok (.new 25, 3) := by decide +kernel
theorem dX10_init_34 : decode cX10_init 34 = .ok (.dup, 1) := by decide +kernel
theorem dX10_init_35 : decode cX10_init 35 = .ok (.aload_n 0, 1) := by decide +kernel
theorem dX10_init_36 : decode cX10_init 36 = .ok (.getfield 21, 3) := by decide +kernel
theorem dX10_init_39 : decode cX10_init 39 = .ok (.invokespecial 27, 3) := by decide +kernel
theorem dX10_init_42 : decode cX10_init 42 = .ok (.putfield 30, 3) := by decide +kernel
theorem dX10_init_45 : decode cX10_init 45 = .ok (.aload_n 0, 1) := by decide +kernel
theorem dX10_init_46 : decode cX10_init 46 = .ok (.new 34, 3) := by decide +kernel
theorem dX10_init_49 : decode cX10_init 49 = .ok (.dup, 1) := by decide +kernel
theorem dX10_init_50 : decode cX10_init 50 = .ok (.aload_n 0, 1) := by decide +kernel
theorem dX10_init_51 : decode cX10_init 51 = .ok (.getfield 21, 3) := by decide +kernel
theorem dX10_init_54 : decode cX10_init 54 = .ok (.invokespecial 36, 3) := by decide +kernel
theorem dX10_init_57 : decode cX10_init 57 = .ok (.putfield 37, 3) := by decide +kernel
theorem dX10_init_60 : decode cX10_init 60 = .ok (.aload_n 0, 1) := by decide +kernel
theorem dX10_init_61 : decode cX10_init 61 = .ok (.new 41, 3) := by decide +kernel
theorem dX10_init_64 : decode cX10_init 64 = .ok (.dup, 1) := by decide +kernel
theorem dX10_init_65 : decode cX10_init 65 = .ok (.aload_n 0, 1) := by decide +kernel
theorem dX10_init_66 : decode cX10_init 66 = .ok (.getfield 21, 3) := by decide +kernel
theorem dX10_init_69 : decode cX10_init 69 = .ok (.invokespecial 43, 3) := by decide +kernel
theorem dX10_init_72 : decode cX10_init 72 = .ok (.putfield 44, 3) := by decide +kernel
theorem dX10_init_75 : decode cX10_init 75 = .ok (.aload_n 0, 1) := by decide +kernel
theorem dX10_init_76 : decode cX10_init 76 = .ok (.new 48, 3) := by decide +kernel
theorem dX10_init_79 : decode cX10_init 79 = .ok (.dup, 1) := by decide +kernel
theorem dX10_init_80 : decode cX10_init 80 = .ok (.aload_n 0, 1) := by decide +kernel
theorem dX10_init_81 : decode cX10_init 81 = .ok (.getfield 21, 3) := by decide +kernel
theorem dX10_init_84 : decode cX10_init 84 = .ok (.invokespecial 50, 3) := by decide +kernel
theorem dX10_init_87 : decode cX10_init 87 = .ok (.putfield 51, 3) := by decide +kernel
theorem dX10_init_90 : decode cX10_init 90 = .ok (.aload_n 0, 1) := by decide +kernel
theorem dX10_init_91 : decode cX10_init 91 = .ok (.new 55, 3) := by decide +kernel
theorem dX10_init_94 : decode cX10_init 94 = .ok (.dup, 1) := by decide +kernel
theorem dX10_init_95 : decode cX10_init 95 = .ok (.aload_n 0, 1) := by decide +kernel
theorem dX10_init_96 : decode cX10_init 96 = .ok (.getfield 21, 3) := by decide +kernel
theorem dX10_init_99 : decode cX10_init 99 = .ok (.invokespecial 57, 3) := by decide +kernel
theorem dX10_init_102 : decode cX10_init 102 = .ok (.putfield 58, 3) := by decide +kernel
theorem dX10_init_105 : decode cX10_init 105 = .ok (.aload_n 0, 1) := by decide +kernel
theorem dX10_init_106 : decode cX10_init 106 = .ok (.new 62, 3) := by decide +kernel
theorem dX10_init_109 : decode cX10_init 109 = .ok (.dup, 1) := by decide +kernel
theorem dX10_init_110 : decode cX10_init 110 = .ok (.aload_n 0, 1) := by decide +kernel
theorem dX10_init_111 : decode cX10_init 111 = .ok (.getfield 21, 3) := by decide +kernel
theorem dX10_init_114 : decode cX10_init 114 = .ok (.invokespecial 64, 3) := by decide +kernel
theorem dX10_init_117 : decode cX10_init 117 = .ok (.putfield 65, 3) := by decide +kernel
theorem dX10_init_120 : decode cX10_init 120 = .ok (.aload_n 0, 1) := by decide +kernel
theorem dX10_init_121 : decode cX10_init 121 = .ok (.new 69, 3) := by decide +kernel
theorem dX10_init_124 : decode cX10_init 124 = .ok (.dup, 1) := by decide +kernel
theorem dX10_init_125 : decode cX10_init 125 = .ok (.invokespecial 71, 3) := by decide +kernel
theorem dX10_init_128 : decode cX10_init 128 = .ok (.putfield 72, 3) := by decide +kernel
theorem dX10_init_131 : decode cX10_init 131 = .ok (.aload_n 0, 1) := by decide +kernel
theorem dX10_init_132 : decode cX10_init 132 = .ok (.new 76, 3) := by decide +kernel
theorem dX10_init_135 : decode cX10_init 135 = .ok (.dup, 1) := by decide +kernel
theorem dX10_init_136 : decode cX10_init 136 = .ok (.invokespecial 78, 3) := by decide +kernel
theorem dX10_init_139 : decode cX10_init 139 = .ok (.putfield 79, 3) := by decide +kernel
theorem dX10_init_142 : decode cX10_init 142 = .ok (.return_, 1) := by decide +kernel
theorem dX10_stone_0 : decode cX10_stone 0 = .ok (.aload_n 0, 1) := by decide +kernel
theorem dX10_stone_1 : decode cX10_stone 1 = .ok (.getfield 21, 3) := by decide +kernel
theorem dX10_stone_4 : decode cX10_stone 4 = .ok (.iload_n 1, 1) := by decide +kernel
theorem dX10_stone_5 : decode cX10_stone 5 = .ok (.invokevirtual 83, 3) := by decide +kernel
theorem dX10_stone_8 : decode cX10_stone 8 = .ok (.ireturn, 1) := by decide +kernel
theorem dX10_stones_0 : decode cX10_stones 0 = .ok (.aload_n 0, 1) := by decide +kernel
theorem dX10_stones_1 : decode cX10_stones 1 = .ok (.getfield 79, 3) := by decide +kernel
theorem dX10_stones_4 : decode cX10_stones 4 = .ok (.iload_n 1, 1) := by decide +kernel
theorem dX10_stones_5 : decode cX10_stones 5 = .ok (.invokevirtual 87, 3) := by decide +kernel
theorem dX10_stones_8 : decode cX10_stones 8 = .ok (.ifCond .eq 14, 3) := by decide +kernel
theorem dX10_stones_11 : decode cX10_stones 11 = .ok (.iload_n 3, 1) := by decide +kernel
theorem dX10_stones_12 : decode cX10_stones 12 = .ok (.iconst 1, 1) := by decide +kernel
theorem dX10_stones_13 : decode cX10_stones 13 = .ok (.if_icmp .lt 9, 3) := by decide +kernel
theorem dX10_stones_16 : decode cX10_stones 16 = .ok (.iload_n 3, 1) := by decide +kernel
theorem dX10_stones_17 : decode cX10_stones 17 = .ok (.bipush 8, 2) := by decide +kernel
theorem dX10_stones_19 : decode cX10_stones 19 = .ok (.if_icmp .le 5, 3) := by decide +kernel
theorem dX10_stones_22 : decode cX10_stones 22 = .ok (.iconst (-1), 1) := by decide +kernel
theorem dX10_stones_23 : decode cX10_stones 23 = .ok (.ireturn, 1) := by decide +kernel
theorem dX10_stones_24 : decode cX10_stones 24 = .ok (.aload_n 0, 1) := by decide +kernel
theorem dX10_stones_25 : decode cX10_stones 25 = .ok (.getfield 79, 3) := by decide +kernel
theorem dX10_stones_28 : decode cX10_stones 28 = .ok (.iload_n 1, 1) := by decide +kernel
theorem dX10_stones_29 : decode cX10_stones 29 = .ok (.invokevirtual 91, 3) := by decide +kernel
theorem dX10_stones_32 : decode cX10_stones 32 = .ok (.bipush (-12), 2) := by decide +kernel
theorem dX10_stones_34 : decode cX10_stones 34 = .ok (.if_icmp .ne 6, 3) := by decide +kernel
theorem dX10_stones_37 : decode cX10_stones 37 = .ok (.bipush (-12), 2) := by decide +kernel
theorem dX10_stones_39 : decode cX10_stones 39 = .ok (.ireturn, 1) := by decide +kernel
theorem dX10_stones_40 : decode cX10_stones 40 = .ok (.iload_n 2, 1) := by decide +kernel
theorem dX10_stones_41 : decode cX10_stones 41 = .ok (.ifCond .ge 5, 3) := by decide +kernel
theorem dX10_stones_44 : decode cX10_stones 44 = .ok (.iconst 0, 1) := by decide +kernel
theorem dX10_stones_45 : decode cX10_stones 45 = .ok (.ireturn, 1) := by decide +kernel
theorem dX10_stones_46 : decode cX10_stones 46 = .ok (.iconst 0, 1) := by decide +kernel
theorem dX10_stones_47 : decode cX10_stones 47 = .ok (.istore 4, 2) := by decide +kernel
theorem dX10_stones_49 : decode cX10_stones 49 = .ok (.iload 4, 2) := by decide +kernel
theorem dX10_stones_51 : decode cX10_stones 51 = .ok (.iload_n 3, 1) := by decide +kernel
theorem dX10_stones_52 : decode cX10_stones 52 = .ok (.if_icmp .ge 50, 3) := by decide +kernel
theorem dX10_stones_55 : decode cX10_stones 55 = .ok (.iload_n 2, 1) := by decide +kernel
theorem dX10_stones_56 : decode cX10_stones 56 = .ok (.aload_n 0, 1) := by decide +kernel
theorem dX10_stones_57 : decode cX10_stones 57 = .ok (.getfield 79, 3) := by decide +kernel
theorem dX10_stones_60 : decode cX10_stones 60 = .ok (.iload_n 1, 1) := by decide +kernel
theorem dX10_stones_61 : decode cX10_stones 61 = .ok (.invokevirtual 94, 3) := by decide +kernel
theorem dX10_stones_64 : decode cX10_stones 64 = .ok (.iload 4, 2) := by decide +kernel
theorem dX10_stones_66 : decode cX10_stones 66 = .ok (.isub, 1) := by decide +kernel
theorem dX10_stones_67 : decode cX10_stones 67 = .ok (.if_icmp .ge 35, 3) := by decide +kernel
theorem dX10_stones_70 : decode cX10_stones 70 = .ok (.aload_n 0, 1) := by decide +kernel
theorem dX10_stones_71 : decode cX10_stones 71 = .ok (.getfield 21, 3) := by decide +kernel
theorem dX10_stones_74 : decode cX10_stones 74 = .ok (.aload_n 0, 1) := by decide +kernel
theorem dX10_stones_75 : decode cX10_stones 75 = .ok (.getfield 79, 3) := by decide +kernel
theorem dX10_stones_78 : decode cX10_stones 78 = .ok (.iload_n 1, 1) := by decide +kernel
theorem dX10_stones_79 : decode cX10_stones 79 = .ok (.iload_n 2, 1) := by decide +kernel
theorem dX10_stones_80 : decode cX10_stones 80 = .ok (.iload 4, 2) := by decide +kernel
theorem dX10_stones_82 : decode cX10_stones 82 = .ok (.iadd, 1) := by decide +kernel
theorem dX10_stones_83 : decode cX10_stones 83 = .ok (.invokevirtual 97, 3) := by decide +kernel
theorem dX10_stones_86 : decode cX10_stones 86 = .ok (.l2i, 1) := by decide +kernel
theorem dX10_stones_87 : decode cX10_stones 87 = .ok (.invokevirtual 83, 3) := by decide +kernel
theorem dX10_stones_90 : decode cX10_stones 90 = .ok (.ifCond .ge 6, 3) := by decide +kernel
theorem dX10_stones_93 : decode cX10_stones 93 = .ok (.iload 4, 2) := by decide +kernel
theorem dX10_stones_95 : decode cX10_stones 95 = .ok (.ireturn, 1) := by decide +kernel
theorem dX10_stones_96 : decode cX10_stones 96 = .ok (.iinc 4 1, 3) := by decide +kernel
theorem dX10_stones_99 : decode cX10_stones 99 = .ok (.goto (-50), 3) := by decide +kernel
theorem dX10_stones_102 : decode cX10_stones 102 = .ok (.iload 4, 2) := by decide +kernel
theorem dX10_stones_104 : decode cX10_stones 104 = .ok (.ireturn, 1) := by decide +kernel
theorem dX10_mend_0 : decode cX10_mend 0 = .ok (.iload_n 2, 1) := by decide +kernel
theorem dX10_mend_1 : decode cX10_mend 1 = .ok (.ifCond .ne 33, 3) := by decide +kernel
theorem dX10_mend_4 : decode cX10_mend 4 = .ok (.aload_n 0, 1) := by decide +kernel
theorem dX10_mend_5 : decode cX10_mend 5 = .ok (.getfield 21, 3) := by decide +kernel
theorem dX10_mend_8 : decode cX10_mend 8 = .ok (.iload_n 1, 1) := by decide +kernel
theorem dX10_mend_9 : decode cX10_mend 9 = .ok (.invokevirtual 101, 3) := by decide +kernel
theorem dX10_mend_12 : decode cX10_mend 12 = .ok (.ifCond .eq 10, 3) := by decide +kernel
theorem dX10_mend_15 : decode cX10_mend 15 = .ok (.iload_n 3, 1) := by decide +kernel
theorem dX10_mend_16 : decode cX10_mend 16 = .ok (.invokestatic 102, 3) := by decide +kernel
theorem dX10_mend_19 : decode cX10_mend 19 = .ok (.ifCond .ne 5, 3) := by decide +kernel
theorem dX10_mend_22 : decode cX10_mend 22 = .ok (.iconst (-1), 1) := by decide +kernel
theorem dX10_mend_23 : decode cX10_mend 23 = .ok (.ireturn, 1) := by decide +kernel
theorem dX10_mend_24 : decode cX10_mend 24 = .ok (.aload_n 0, 1) := by decide +kernel
theorem dX10_mend_25 : decode cX10_mend 25 = .ok (.getfield 30, 3) := by decide +kernel
theorem dX10_mend_28 : decode cX10_mend 28 = .ok (.iload_n 1, 1) := by decide +kernel
theorem dX10_mend_29 : decode cX10_mend 29 = .ok (.iload_n 3, 1) := by decide +kernel
theorem dX10_mend_30 : decode cX10_mend 30 = .ok (.invokevirtual 105, 3) := by decide +kernel
theorem dX10_mend_33 : decode cX10_mend 33 = .ok (.ireturn, 1) := by decide +kernel
theorem dX10_mend_34 : decode cX10_mend 34 = .ok (.iload_n 2, 1) := by decide +kernel
theorem dX10_mend_35 : decode cX10_mend 35 = .ok (.iconst 1, 1) := by decide +kernel
theorem dX10_mend_36 : decode cX10_mend 36 = .ok (.if_icmp .ne 16, 3) := by decide +kernel
theorem dX10_mend_39 : decode cX10_mend 39 = .ok (.iload_n 1, 1) := by decide +kernel
theorem dX10_mend_40 : decode cX10_mend 40 = .ok (.ifCond .ne 12, 3) := by decide +kernel
theorem dX10_mend_43 : decode cX10_mend 43 = .ok (.iload_n 3, 1) := by decide +kernel
theorem dX10_mend_44 : decode cX10_mend 44 = .ok (.ifCond .lt 8, 3) := by decide +kernel
theorem dX10_mend_47 : decode cX10_mend 47 = .ok (.iload_n 3, 1) := by decide +kernel
theorem dX10_mend_48 : decode cX10_mend 48 = .ok (.iconst 1, 1) := by decide +kernel
theorem dX10_mend_49 : decode cX10_mend 49 = .ok (.if_icmp .le 5, 3) := by decide +kernel
theorem dX10_mend_52 : decode cX10_mend 52 = .ok (.iconst (-1), 1) := by decide +kernel
theorem dX10_mend_53 : decode cX10_mend 53 = .ok (.ireturn, 1) := by decide +kernel
theorem dX10_mend_54 : decode cX10_mend 54 = .ok (.aload_n 0, 1) := by decide +kernel
theorem dX10_mend_55 : decode cX10_mend 55 = .ok (.getfield 30, 3) := by decide +kernel
theorem dX10_mend_58 : decode cX10_mend 58 = .ok (.iconst (-1), 1) := by decide +kernel
theorem dX10_mend_59 : decode cX10_mend 59 = .ok (.iload_n 3, 1) := by decide +kernel
theorem dX10_mend_60 : decode cX10_mend 60 = .ok (.invokevirtual 105, 3) := by decide +kernel
theorem dX10_mend_63 : decode cX10_mend 63 = .ok (.ireturn, 1) := by decide +kernel
theorem dX10_of_0 : decode cX10_of 0 = .ok (.iload_n 2, 1) := by decide +kernel
theorem dX10_of_1 : decode cX10_of 1 = .ok (.lookupswitch 142 #[(0, 43), (1, 67), (2, 91), (10, 115)], 43) := by decide +kernel
theorem dX10_of_44 : decode cX10_of 44 = .ok (.aload_n 0, 1) := by decide +kernel
theorem dX10_of_45 : decode cX10_of 45 = .ok (.getfield 21, 3) := by decide +kernel
theorem dX10_of_48 : decode cX10_of 48 = .ok (.iload_n 1, 1) := by decide +kernel
theorem dX10_of_49 : decode cX10_of 49 = .ok (.invokevirtual 101, 3) := by decide +kernel
theorem dX10_of_52 : decode cX10_of 52 = .ok (.ifCond .eq 14, 3) := by decide +kernel
theorem dX10_of_55 : decode cX10_of 55 = .ok (.aload_n 0, 1) := by decide +kernel
theorem dX10_of_56 : decode cX10_of 56 = .ok (.getfield 21, 3) := by decide +kernel
theorem dX10_of_59 : decode cX10_of 59 = .ok (.iload_n 1, 1) := by decide +kernel
theorem dX10_of_60 : decode cX10_of 60 = .ok (.invokevirtual 109, 3) := by decide +kernel
theorem dX10_of_63 : decode cX10_of 63 = .ok (.goto 4, 3) := by decide +kernel
theorem dX10_of_66 : decode cX10_of 66 = .ok (.iconst (-1), 1) := by decide +kernel
theorem dX10_of_67 : decode cX10_of 67 = .ok (.ireturn, 1) := by decide +kernel
theorem dX10_of_68 : decode cX10_of 68 = .ok (.aload_n 0, 1) := by decide +kernel
theorem dX10_of_69 : decode cX10_of 69 = .ok (.getfield 21, 3) := by decide +kernel
theorem dX10_of_72 : decode cX10_of 72 = .ok (.iload_n 1, 1) := by decide +kernel
theorem dX10_of_73 : decode cX10_of 73 = .ok (.invokevirtual 101, 3) := by decide +kernel
theorem dX10_of_76 : decode cX10_of 76 = .ok (.ifCond .eq 14, 3) := by decide +kernel
theorem dX10_of_79 : decode cX10_of 79 = .ok (.aload_n 0, 1) := by decide +kernel
theorem dX10_of_80 : decode cX10_of 80 = .ok (.getfield 21, 3) := by decide +kernel
theorem dX10_of_83 : decode cX10_of 83 = .ok (.iload_n 1, 1) := by decide +kernel
theorem dX10_of_84 : decode cX10_of 84 = .ok (.invokevirtual 112, 3) := by decide +kernel
theorem dX10_of_87 : decode cX10_of 87 = .ok (.goto 4, 3) := by decide +kernel
theorem dX10_of_90 : decode cX10_of 90 = .ok (.iconst (-1), 1) := by decide +kernel
theorem dX10_of_91 : decode cX10_of 91 = .ok (.ireturn, 1) := by decide +kernel
theorem dX10_of_92 : decode cX10_of 92 = .ok (.aload_n 0, 1) := by decide +kernel
theorem dX10_of_93 : decode cX10_of 93 = .ok (.getfield 21, 3) := by decide +kernel
theorem dX10_of_96 : decode cX10_of 96 = .ok (.iload_n 1, 1) := by decide +kernel
theorem dX10_of_97 : decode cX10_of 97 = .ok (.invokevirtual 101, 3) := by decide +kernel
theorem dX10_of_100 : decode cX10_of 100 = .ok (.ifCond .eq 14, 3) := by decide +kernel
theorem dX10_of_103 : decode cX10_of 103 = .ok (.aload_n 0, 1) := by decide +kernel
theorem dX10_of_104 : decode cX10_of 104 = .ok (.getfield 21, 3) := by decide +kernel
theorem dX10_of_107 : decode cX10_of 107 = .ok (.iload_n 1, 1) := by decide +kernel
theorem dX10_of_108 : decode cX10_of 108 = .ok (.invokevirtual 115, 3) := by decide +kernel
theorem dX10_of_111 : decode cX10_of 111 = .ok (.goto 4, 3) := by decide +kernel
theorem dX10_of_114 : decode cX10_of 114 = .ok (.iconst (-1), 1) := by decide +kernel
theorem dX10_of_115 : decode cX10_of 115 = .ok (.ireturn, 1) := by decide +kernel
theorem dX10_of_116 : decode cX10_of 116 = .ok (.aload_n 0, 1) := by decide +kernel
theorem dX10_of_117 : decode cX10_of 117 = .ok (.getfield 21, 3) := by decide +kernel
theorem dX10_of_120 : decode cX10_of 120 = .ok (.iload_n 1, 1) := by decide +kernel
theorem dX10_of_121 : decode cX10_of 121 = .ok (.invokevirtual 118, 3) := by decide +kernel
theorem dX10_of_124 : decode cX10_of 124 = .ok (.ifCond .eq 17, 3) := by decide +kernel
theorem dX10_of_127 : decode cX10_of 127 = .ok (.aload_n 0, 1) := by decide +kernel
theorem dX10_of_128 : decode cX10_of 128 = .ok (.getfield 21, 3) := by decide +kernel
theorem dX10_of_131 : decode cX10_of 131 = .ok (.getfield 121, 3) := by decide +kernel
theorem dX10_of_134 : decode cX10_of 134 = .ok (.iload_n 1, 1) := by decide +kernel
theorem dX10_of_135 : decode cX10_of 135 = .ok (.invokestatic 125, 3) := by decide +kernel
theorem dX10_of_138 : decode cX10_of 138 = .ok (.goto 4, 3) := by decide +kernel
theorem dX10_of_141 : decode cX10_of 141 = .ok (.iconst (-1), 1) := by decide +kernel
theorem dX10_of_142 : decode cX10_of 142 = .ok (.ireturn, 1) := by decide +kernel
theorem dX10_of_143 : decode cX10_of 143 = .ok (.iload_n 1, 1) := by decide +kernel
theorem dX10_of_144 : decode cX10_of 144 = .ok (.ifCond .ne 11, 3) := by decide +kernel
theorem dX10_of_147 : decode cX10_of 147 = .ok (.aload_n 0, 1) := by decide +kernel
theorem dX10_of_148 : decode cX10_of 148 = .ok (.iload_n 2, 1) := by decide +kernel
theorem dX10_of_149 : decode cX10_of 149 = .ok (.invokevirtual 129, 3) := by decide +kernel
theorem dX10_of_152 : decode cX10_of 152 = .ok (.goto 4, 3) := by decide +kernel
theorem dX10_of_155 : decode cX10_of 155 = .ok (.iconst (-1), 1) := by decide +kernel
theorem dX10_of_156 : decode cX10_of 156 = .ok (.ireturn, 1) := by decide +kernel
theorem dX10_ofAll_0 : decode cX10_ofAll 0 = .ok (.iload_n 1, 1) := by decide +kernel
theorem dX10_ofAll_1 : decode cX10_ofAll 1 = .ok (.tableswitch 85 20 23 #[31, 39, 69, 77], 31) := by decide +kernel
theorem dX10_ofAll_32 : decode cX10_ofAll 32 = .ok (.aload_n 0, 1) := by decide +kernel
theorem dX10_ofAll_33 : decode cX10_ofAll 33 = .ok (.getfield 21, 3) := by decide +kernel
theorem dX10_ofAll_36 : decode cX10_ofAll 36 = .ok (.getfield 132, 3) := by decide +kernel
theorem dX10_ofAll_39 : decode cX10_ofAll 39 = .ok (.ireturn, 1) := by decide +kernel
theorem dX10_ofAll_40 : decode cX10_ofAll 40 = .ok (.aload_n 0, 1) := by decide +kernel
theorem dX10_ofAll_41 : decode cX10_ofAll 41 = .ok (.getfield 21, 3) := by decide +kernel
theorem dX10_ofAll_44 : decode cX10_ofAll 44 = .ok (.aload_n 0, 1) := by decide +kernel
theorem dX10_ofAll_45 : decode cX10_ofAll 45 = .ok (.getfield 21, 3) := by decide +kernel
theorem dX10_ofAll_48 : decode cX10_ofAll 48 = .ok (.getfield 121, 3) := by decide +kernel
theorem dX10_ofAll_51 : decode cX10_ofAll 51 = .ok (.aload_n 0, 1) := by decide +kernel
theorem dX10_ofAll_52 : decode cX10_ofAll 52 = .ok (.getfield 21, 3) := by decide +kernel
theorem dX10_ofAll_55 : decode cX10_ofAll 55 = .ok (.getfield 136, 3) := by decide +kernel
theorem dX10_ofAll_58 : decode cX10_ofAll 58 = .ok (.invokevirtual 139, 3) := by decide +kernel
theorem dX10_ofAll_61 : decode cX10_ofAll 61 = .ok (.ifCond .eq 7, 3) := by decide +kernel
theorem dX10_ofAll_64 : decode cX10_ofAll 64 = .ok (.iconst 1, 1) := by decide +kernel
theorem dX10_ofAll_65 : decode cX10_ofAll 65 = .ok (.goto 4, 3) := by decide +kernel
theorem dX10_ofAll_68 : decode cX10_ofAll 68 = .ok (.iconst 0, 1) := by decide +kernel
theorem dX10_ofAll_69 : decode cX10_ofAll 69 = .ok (.ireturn, 1) := by decide +kernel
theorem dX10_ofAll_70 : decode cX10_ofAll 70 = .ok (.aload_n 0, 1) := by decide +kernel
theorem dX10_ofAll_71 : decode cX10_ofAll 71 = .ok (.getfield 21, 3) := by decide +kernel
theorem dX10_ofAll_74 : decode cX10_ofAll 74 = .ok (.getfield 143, 3) := by decide +kernel
theorem dX10_ofAll_77 : decode cX10_ofAll 77 = .ok (.ireturn, 1) := by decide +kernel
theorem dX10_ofAll_78 : decode cX10_ofAll 78 = .ok (.aload_n 0, 1) := by decide +kernel
theorem dX10_ofAll_79 : decode cX10_ofAll 79 = .ok (.getfield 21, 3) := by decide +kernel
theorem dX10_ofAll_82 : decode cX10_ofAll 82 = .ok (.getfield 146, 3) := by decide +kernel
theorem dX10_ofAll_85 : decode cX10_ofAll 85 = .ok (.ireturn, 1) := by decide +kernel
theorem dX10_ofAll_86 : decode cX10_ofAll 86 = .ok (.iconst (-1), 1) := by decide +kernel
theorem dX10_ofAll_87 : decode cX10_ofAll 87 = .ok (.ireturn, 1) := by decide +kernel
theorem dX10_feed_0 : decode cX10_feed 0 = .ok (.aload_n 0, 1) := by decide +kernel
theorem dX10_feed_1 : decode cX10_feed 1 = .ok (.getfield 10, 3) := by decide +kernel
theorem dX10_feed_4 : decode cX10_feed 4 = .ok (.iload_n 1, 1) := by decide +kernel
theorem dX10_feed_5 : decode cX10_feed 5 = .ok (.invokevirtual 149, 3) := by decide +kernel
theorem dX10_feed_8 : decode cX10_feed 8 = .ok (.ireturn, 1) := by decide +kernel
theorem dX10_law_0 : decode cX10_law 0 = .ok (.aload_n 0, 1) := by decide +kernel
theorem dX10_law_1 : decode cX10_law 1 = .ok (.getfield 10, 3) := by decide +kernel
theorem dX10_law_4 : decode cX10_law 4 = .ok (.invokevirtual 152, 3) := by decide +kernel
theorem dX10_law_7 : decode cX10_law 7 = .ok (.istore_n 1, 1) := by decide +kernel
theorem dX10_law_8 : decode cX10_law 8 = .ok (.iload_n 1, 1) := by decide +kernel
theorem dX10_law_9 : decode cX10_law 9 = .ok (.iconst (-1), 1) := by decide +kernel
theorem dX10_law_10 : decode cX10_law 10 = .ok (.if_icmp .eq 8, 3) := by decide +kernel
theorem dX10_law_13 : decode cX10_law 13 = .ok (.bipush (-100), 2) := by decide +kernel
theorem dX10_law_15 : decode cX10_law 15 = .ok (.iload_n 1, 1) := by decide +kernel
theorem dX10_law_16 : decode cX10_law 16 = .ok (.isub, 1) := by decide +kernel
theorem dX10_law_17 : decode cX10_law 17 = .ok (.ireturn, 1) := by decide +kernel
theorem dX10_law_18 : decode cX10_law 18 = .ok (.aload_n 0, 1) := by decide +kernel
theorem dX10_law_19 : decode cX10_law 19 = .ok (.getfield 21, 3) := by decide +kernel
theorem dX10_law_22 : decode cX10_law 22 = .ok (.invokevirtual 156, 3) := by decide +kernel
theorem dX10_law_25 : decode cX10_law 25 = .ok (.iconst 1, 1) := by decide +kernel
theorem dX10_law_26 : decode cX10_law 26 = .ok (.ireturn, 1) := by decide +kernel
theorem dX10_set_0 : decode cX10_set 0 = .ok (.aload_n 0, 1) := by decide +kernel
theorem dX10_set_1 : decode cX10_set 1 = .ok (.getfield 21, 3) := by decide +kernel
theorem dX10_set_4 : decode cX10_set 4 = .ok (.iload_n 1, 1) := by decide +kernel
theorem dX10_set_5 : decode cX10_set 5 = .ok (.invokevirtual 101, 3) := by decide +kernel
theorem dX10_set_8 : decode cX10_set 8 = .ok (.ifCond .eq 18, 3) := by decide +kernel
theorem dX10_set_11 : decode cX10_set 11 = .ok (.iload_n 2, 1) := by decide +kernel
theorem dX10_set_12 : decode cX10_set 12 = .ok (.ifCond .lt 14, 3) := by decide +kernel
theorem dX10_set_15 : decode cX10_set 15 = .ok (.iload_n 2, 1) := by decide +kernel
theorem dX10_set_16 : decode cX10_set 16 = .ok (.aload_n 0, 1) := by decide +kernel
theorem dX10_set_17 : decode cX10_set 17 = .ok (.getfield 21, 3) := by decide +kernel
theorem dX10_set_20 : decode cX10_set 20 = .ok (.getfield 136, 3) := by decide +kernel
theorem dX10_set_23 : decode cX10_set 23 = .ok (.if_icmp .le 5, 3) := by decide +kernel
theorem dX10_set_26 : decode cX10_set 26 = .ok (.iconst (-1), 1) := by decide +kernel
theorem dX10_set_27 : decode cX10_set 27 = .ok (.ireturn, 1) := by decide +kernel
theorem dX10_set_28 : decode cX10_set 28 = .ok (.aload_n 0, 1) := by decide +kernel
theorem dX10_set_29 : decode cX10_set 29 = .ok (.getfield 21, 3) := by decide +kernel
theorem dX10_set_32 : decode cX10_set 32 = .ok (.iload_n 1, 1) := by decide +kernel
theorem dX10_set_33 : decode cX10_set 33 = .ok (.invokevirtual 112, 3) := by decide +kernel
theorem dX10_set_36 : decode cX10_set 36 = .ok (.bipush (-2), 2) := by decide +kernel
theorem dX10_set_38 : decode cX10_set 38 = .ok (.if_icmp .eq 6, 3) := by decide +kernel
theorem dX10_set_41 : decode cX10_set 41 = .ok (.bipush (-5), 2) := by decide +kernel
theorem dX10_set_43 : decode cX10_set 43 = .ok (.ireturn, 1) := by decide +kernel
theorem dX10_set_44 : decode cX10_set 44 = .ok (.aload_n 0, 1) := by decide +kernel
theorem dX10_set_45 : decode cX10_set 45 = .ok (.getfield 21, 3) := by decide +kernel
theorem dX10_set_48 : decode cX10_set 48 = .ok (.getfield 121, 3) := by decide +kernel
theorem dX10_set_51 : decode cX10_set 51 = .ok (.aload_n 0, 1) := by decide +kernel
theorem dX10_set_52 : decode cX10_set 52 = .ok (.getfield 21, 3) := by decide +kernel
theorem dX10_set_55 : decode cX10_set 55 = .ok (.getfield 136, 3) := by decide +kernel
theorem dX10_set_58 : decode cX10_set 58 = .ok (.iload_n 2, 1) := by decide +kernel
theorem dX10_set_59 : decode cX10_set 59 = .ok (.iload_n 1, 1) := by decide +kernel
theorem dX10_set_60 : decode cX10_set 60 = .ok (.invokestatic 159, 3) := by decide +kernel
theorem dX10_set_63 : decode cX10_set 63 = .ok (.aload_n 0, 1) := by decide +kernel
theorem dX10_set_64 : decode cX10_set 64 = .ok (.getfield 21, 3) := by decide +kernel
theorem dX10_set_67 : decode cX10_set 67 = .ok (.dup, 1) := by decide +kernel
theorem dX10_set_68 : decode cX10_set 68 = .ok (.getfield 136, 3) := by decide +kernel
theorem dX10_set_71 : decode cX10_set 71 = .ok (.iconst 1, 1) := by decide +kernel
theorem dX10_set_72 : decode cX10_set 72 = .ok (.iadd, 1) := by decide +kernel
theorem dX10_set_73 : decode cX10_set 73 = .ok (.putfield 136, 3) := by decide +kernel
theorem dX10_set_76 : decode cX10_set 76 = .ok (.aload_n 0, 1) := by decide +kernel
theorem dX10_set_77 : decode cX10_set 77 = .ok (.getfield 21, 3) := by decide +kernel
theorem dX10_set_80 : decode cX10_set 80 = .ok (.invokevirtual 163, 3) := by decide +kernel
theorem dX10_set_83 : decode cX10_set 83 = .ok (.aload_n 0, 1) := by decide +kernel
theorem dX10_set_84 : decode cX10_set 84 = .ok (.getfield 21, 3) := by decide +kernel
theorem dX10_set_87 : decode cX10_set 87 = .ok (.getfield 136, 3) := by decide +kernel
theorem dX10_set_90 : decode cX10_set 90 = .ok (.ireturn, 1) := by decide +kernel
theorem dX10_take_0 : decode cX10_take 0 = .ok (.aload_n 0, 1) := by decide +kernel
theorem dX10_take_1 : decode cX10_take 1 = .ok (.getfield 21, 3) := by decide +kernel
theorem dX10_take_4 : decode cX10_take 4 = .ok (.iload_n 1, 1) := by decide +kernel
theorem dX10_take_5 : decode cX10_take 5 = .ok (.invokevirtual 118, 3) := by decide +kernel
theorem dX10_take_8 : decode cX10_take 8 = .ok (.ifCond .ne 5, 3) := by decide +kernel
theorem dX10_take_11 : decode cX10_take 11 = .ok (.iconst (-1), 1) := by decide +kernel
theorem dX10_take_12 : decode cX10_take 12 = .ok (.ireturn, 1) := by decide +kernel
theorem dX10_take_13 : decode cX10_take 13 = .ok (.aload_n 0, 1) := by decide +kernel
theorem dX10_take_14 : decode cX10_take 14 = .ok (.getfield 21, 3) := by decide +kernel
theorem dX10_take_17 : decode cX10_take 17 = .ok (.getfield 121, 3) := by decide +kernel
theorem dX10_take_20 : decode cX10_take 20 = .ok (.iload_n 1, 1) := by decide +kernel
theorem dX10_take_21 : decode cX10_take 21 = .ok (.invokestatic 125, 3) := by decide +kernel
theorem dX10_take_24 : decode cX10_take 24 = .ok (.istore_n 2, 1) := by decide +kernel
theorem dX10_take_25 : decode cX10_take 25 = .ok (.aload_n 0, 1) := by decide +kernel
theorem dX10_take_26 : decode cX10_take 26 = .ok (.getfield 21, 3) := by decide +kernel
theorem dX10_take_29 : decode cX10_take 29 = .ok (.getfield 121, 3) := by decide +kernel
theorem dX10_take_32 : decode cX10_take 32 = .ok (.aload_n 0, 1) := by decide +kernel
theorem dX10_take_33 : decode cX10_take 33 = .ok (.getfield 21, 3) := by decide +kernel
theorem dX10_take_36 : decode cX10_take 36 = .ok (.getfield 136, 3) := by decide +kernel
theorem dX10_take_39 : decode cX10_take 39 = .ok (.iload_n 1, 1) := by decide +kernel
theorem dX10_take_40 : decode cX10_take 40 = .ok (.invokestatic 166, 3) := by decide +kernel
theorem dX10_take_43 : decode cX10_take 43 = .ok (.aload_n 0, 1) := by decide +kernel
theorem dX10_take_44 : decode cX10_take 44 = .ok (.getfield 21, 3) := by decide +kernel
theorem dX10_take_47 : decode cX10_take 47 = .ok (.dup, 1) := by decide +kernel
theorem dX10_take_48 : decode cX10_take 48 = .ok (.getfield 136, 3) := by decide +kernel
theorem dX10_take_51 : decode cX10_take 51 = .ok (.iconst 1, 1) := by decide +kernel
theorem dX10_take_52 : decode cX10_take 52 = .ok (.isub, 1) := by decide +kernel
theorem dX10_take_53 : decode cX10_take 53 = .ok (.putfield 136, 3) := by decide +kernel
theorem dX10_take_56 : decode cX10_take 56 = .ok (.aload_n 0, 1) := by decide +kernel
theorem dX10_take_57 : decode cX10_take 57 = .ok (.getfield 21, 3) := by decide +kernel
theorem dX10_take_60 : decode cX10_take 60 = .ok (.invokevirtual 163, 3) := by decide +kernel
theorem dX10_take_63 : decode cX10_take 63 = .ok (.iload_n 2, 1) := by decide +kernel
theorem dX10_take_64 : decode cX10_take 64 = .ok (.ireturn, 1) := by decide +kernel
theorem dX10_turn_0 : decode cX10_turn 0 = .ok (.iload_n 1, 1) := by decide +kernel
theorem dX10_turn_1 : decode cX10_turn 1 = .ok (.ifCond .ge 5, 3) := by decide +kernel
theorem dX10_turn_4 : decode cX10_turn 4 = .ok (.iconst (-1), 1) := by decide +kernel
theorem dX10_turn_5 : decode cX10_turn 5 = .ok (.ireturn, 1) := by decide +kernel
theorem dX10_turn_6 : decode cX10_turn 6 = .ok (.iload_n 1, 1) := by decide +kernel
theorem dX10_turn_7 : decode cX10_turn 7 = .ok (.bipush 10, 2) := by decide +kernel
theorem dX10_turn_9 : decode cX10_turn 9 = .ok (.idiv, 1) := by decide +kernel
theorem dX10_turn_10 : decode cX10_turn 10 = .ok (.istore_n 2, 1) := by decide +kernel
theorem dX10_turn_11 : decode cX10_turn 11 = .ok (.iload_n 1, 1) := by decide +kernel
theorem dX10_turn_12 : decode cX10_turn 12 = .ok (.bipush 10, 2) := by decide +kernel
theorem dX10_turn_14 : decode cX10_turn 14 = .ok (.irem, 1) := by decide +kernel
theorem dX10_turn_15 : decode cX10_turn 15 = .ok (.istore_n 3, 1) := by decide +kernel
theorem dX10_turn_16 : decode cX10_turn 16 = .ok (.iload_n 2, 1) := by decide +kernel
theorem dX10_turn_17 : decode cX10_turn 17 = .ok (.iload_n 3, 1) := by decide +kernel
theorem dX10_turn_18 : decode cX10_turn 18 = .ok (.if_icmp .ge 14, 3) := by decide +kernel
theorem dX10_turn_21 : decode cX10_turn 21 = .ok (.aload_n 0, 1) := by decide +kernel
theorem dX10_turn_22 : decode cX10_turn 22 = .ok (.getfield 21, 3) := by decide +kernel
theorem dX10_turn_25 : decode cX10_turn 25 = .ok (.iload_n 3, 1) := by decide +kernel
theorem dX10_turn_26 : decode cX10_turn 26 = .ok (.invokevirtual 118, 3) := by decide +kernel
theorem dX10_turn_29 : decode cX10_turn 29 = .ok (.ifCond .ne 5, 3) := by decide +kernel
theorem dX10_turn_32 : decode cX10_turn 32 = .ok (.iconst (-1), 1) := by decide +kernel
theorem dX10_turn_33 : decode cX10_turn 33 = .ok (.ireturn, 1) := by decide +kernel
theorem dX10_turn_34 : decode cX10_turn 34 = .ok (.aload_n 0, 1) := by decide +kernel
theorem dX10_turn_35 : decode cX10_turn 35 = .ok (.getfield 21, 3) := by decide +kernel
theorem dX10_turn_38 : decode cX10_turn 38 = .ok (.getfield 121, 3) := by decide +kernel
theorem dX10_turn_41 : decode cX10_turn 41 = .ok (.iload_n 2, 1) := by decide +kernel
theorem dX10_turn_42 : decode cX10_turn 42 = .ok (.iload_n 3, 1) := by decide +kernel
theorem dX10_turn_43 : decode cX10_turn 43 = .ok (.invokestatic 170, 3) := by decide +kernel
theorem dX10_turn_46 : decode cX10_turn 46 = .ok (.aload_n 0, 1) := by decide +kernel
theorem dX10_turn_47 : decode cX10_turn 47 = .ok (.getfield 21, 3) := by decide +kernel
theorem dX10_turn_50 : decode cX10_turn 50 = .ok (.invokevirtual 163, 3) := by decide +kernel
theorem dX10_turn_53 : decode cX10_turn 53 = .ok (.iload_n 3, 1) := by decide +kernel
theorem dX10_turn_54 : decode cX10_turn 54 = .ok (.iload_n 2, 1) := by decide +kernel
theorem dX10_turn_55 : decode cX10_turn 55 = .ok (.isub, 1) := by decide +kernel
theorem dX10_turn_56 : decode cX10_turn 56 = .ok (.iconst 1, 1) := by decide +kernel
theorem dX10_turn_57 : decode cX10_turn 57 = .ok (.iadd, 1) := by decide +kernel
theorem dX10_turn_58 : decode cX10_turn 58 = .ok (.ireturn, 1) := by decide +kernel
theorem dX10_broken_0 : decode cX10_broken 0 = .ok (.aload_n 0, 1) := by decide +kernel
theorem dX10_broken_1 : decode cX10_broken 1 = .ok (.getfield 21, 3) := by decide +kernel
theorem dX10_broken_4 : decode cX10_broken 4 = .ok (.aload_n 0, 1) := by decide +kernel
theorem dX10_broken_5 : decode cX10_broken 5 = .ok (.getfield 21, 3) := by decide +kernel
theorem dX10_broken_8 : decode cX10_broken 8 = .ok (.getfield 121, 3) := by decide +kernel
theorem dX10_broken_11 : decode cX10_broken 11 = .ok (.aload_n 0, 1) := by decide +kernel
theorem dX10_broken_12 : decode cX10_broken 12 = .ok (.getfield 21, 3) := by decide +kernel
theorem dX10_broken_15 : decode cX10_broken 15 = .ok (.getfield 136, 3) := by decide +kernel
theorem dX10_broken_18 : decode cX10_broken 18 = .ok (.invokevirtual 173, 3) := by decide +kernel
theorem dX10_broken_21 : decode cX10_broken 21 = .ok (.ireturn, 1) := by decide +kernel
theorem dX10_maySell_0 : decode cX10_maySell 0 = .ok (.aload_n 0, 1) := by decide +kernel
theorem dX10_maySell_1 : decode cX10_maySell 1 = .ok (.getfield 37, 3) := by decide +kernel
theorem dX10_maySell_4 : decode cX10_maySell 4 = .ok (.invokevirtual 176, 3) := by decide +kernel
theorem dX10_maySell_7 : decode cX10_maySell 7 = .ok (.ireturn, 1) := by decide +kernel
theorem dX10_ways_0 : decode cX10_ways 0 = .ok (.iload_n 1, 1) := by decide +kernel
theorem dX10_ways_1 : decode cX10_ways 1 = .ok (.ifCond .eq 8, 3) := by decide +kernel
theorem dX10_ways_4 : decode cX10_ways 4 = .ok (.iload_n 1, 1) := by decide +kernel
theorem dX10_ways_5 : decode cX10_ways 5 = .ok (.iconst 1, 1) := by decide +kernel
theorem dX10_ways_6 : decode cX10_ways 6 = .ok (.if_icmp .ne 23, 3) := by decide +kernel
theorem dX10_ways_9 : decode cX10_ways 9 = .ok (.aload_n 0, 1) := by decide +kernel
theorem dX10_ways_10 : decode cX10_ways 10 = .ok (.getfield 37, 3) := by decide +kernel
theorem dX10_ways_13 : decode cX10_ways 13 = .ok (.iload_n 1, 1) := by decide +kernel
theorem dX10_ways_14 : decode cX10_ways 14 = .ok (.iconst 1, 1) := by decide +kernel
theorem dX10_ways_15 : decode cX10_ways 15 = .ok (.if_icmp .ne 7, 3) := by decide +kernel
theorem dX10_ways_18 : decode cX10_ways 18 = .ok (.iconst 1, 1) := by decide +kernel
theorem dX10_ways_19 : decode cX10_ways 19 = .ok (.goto 4, 3) := by decide +kernel
theorem dX10_ways_22 : decode cX10_ways 22 = .ok (.iconst 0, 1) := by decide +kernel
theorem dX10_ways_23 : decode cX10_ways 23 = .ok (.invokevirtual 179, 3) := by decide +kernel
theorem dX10_ways_26 : decode cX10_ways 26 = .ok (.goto 4, 3) := by decide +kernel
theorem dX10_ways_29 : decode cX10_ways 29 = .ok (.iconst (-1), 1) := by decide +kernel
theorem dX10_ways_30 : decode cX10_ways 30 = .ok (.ireturn, 1) := by decide +kernel
theorem dX10_rows_0 : decode cX10_rows 0 = .ok (.aload_n 0, 1) := by decide +kernel
theorem dX10_rows_1 : decode cX10_rows 1 = .ok (.getfield 21, 3) := by decide +kernel
theorem dX10_rows_4 : decode cX10_rows 4 = .ok (.iload_n 1, 1) := by decide +kernel
theorem dX10_rows_5 : decode cX10_rows 5 = .ok (.invokevirtual 183, 3) := by decide +kernel
theorem dX10_rows_8 : decode cX10_rows 8 = .ok (.ifCond .eq 16, 3) := by decide +kernel
theorem dX10_rows_11 : decode cX10_rows 11 = .ok (.iload_n 2, 1) := by decide +kernel
theorem dX10_rows_12 : decode cX10_rows 12 = .ok (.iconst (-1), 1) := by decide +kernel
theorem dX10_rows_13 : decode cX10_rows 13 = .ok (.if_icmp .lt 11, 3) := by decide +kernel
theorem dX10_rows_16 : decode cX10_rows 16 = .ok (.iload_n 2, 1) := by decide +kernel
theorem dX10_rows_17 : decode cX10_rows 17 = .ok (.iload_n 1, 1) := by decide +kernel
theorem dX10_rows_18 : decode cX10_rows 18 = .ok (.invokestatic 186, 3) := by decide +kernel
theorem dX10_rows_21 : decode cX10_rows 21 = .ok (.if_icmp .lt 5, 3) := by decide +kernel
theorem dX10_rows_24 : decode cX10_rows 24 = .ok (.iconst (-1), 1) := by decide +kernel
theorem dX10_rows_25 : decode cX10_rows 25 = .ok (.ireturn, 1) := by decide +kernel
theorem dX10_rows_26 : decode cX10_rows 26 = .ok (.aload_n 0, 1) := by decide +kernel
theorem dX10_rows_27 : decode cX10_rows 27 = .ok (.getfield 44, 3) := by decide +kernel
theorem dX10_rows_30 : decode cX10_rows 30 = .ok (.invokevirtual 191, 3) := by decide +kernel
theorem dX10_rows_33 : decode cX10_rows 33 = .ok (.aload_n 0, 1) := by decide +kernel
theorem dX10_rows_34 : decode cX10_rows 34 = .ok (.getfield 44, 3) := by decide +kernel
theorem dX10_rows_37 : decode cX10_rows 37 = .ok (.iload_n 1, 1) := by decide +kernel
theorem dX10_rows_38 : decode cX10_rows 38 = .ok (.iload_n 2, 1) := by decide +kernel
theorem dX10_rows_39 : decode cX10_rows 39 = .ok (.invokevirtual 194, 3) := by decide +kernel
theorem dX10_rows_42 : decode cX10_rows 42 = .ok (.ireturn, 1) := by decide +kernel
theorem dX10_ounces_0 : decode cX10_ounces 0 = .ok (.iload_n 1, 1) := by decide +kernel
theorem dX10_ounces_1 : decode cX10_ounces 1 = .ok (.iconst (-1), 1) := by decide +kernel
theorem dX10_ounces_2 : decode cX10_ounces 2 = .ok (.if_icmp .lt 14, 3) := by decide +kernel
theorem dX10_ounces_5 : decode cX10_ounces 5 = .ok (.iload_n 1, 1) := by decide +kernel
theorem dX10_ounces_6 : decode cX10_ounces 6 = .ok (.aload_n 0, 1) := by decide +kernel
theorem dX10_ounces_7 : decode cX10_ounces 7 = .ok (.getfield 21, 3) := by decide +kernel
theorem dX10_ounces_10 : decode cX10_ounces 10 = .ok (.getfield 136, 3) := by decide +kernel
theorem dX10_ounces_13 : decode cX10_ounces 13 = .ok (.if_icmp .lt 5, 3) := by decide +kernel
theorem dX10_ounces_16 : decode cX10_ounces 16 = .ok (.iconst (-1), 1) := by decide +kernel
theorem dX10_ounces_17 : decode cX10_ounces 17 = .ok (.ireturn, 1) := by decide +kernel
theorem dX10_ounces_18 : decode cX10_ounces 18 = .ok (.aload_n 0, 1) := by decide +kernel
theorem dX10_ounces_19 : decode cX10_ounces 19 = .ok (.getfield 37, 3) := by decide +kernel
theorem dX10_ounces_22 : decode cX10_ounces 22 = .ok (.invokevirtual 197, 3) := by decide +kernel
theorem dX10_ounces_25 : decode cX10_ounces 25 = .ok (.ifCond .ne 6, 3) := by decide +kernel
theorem dX10_ounces_28 : decode cX10_ounces 28 = .ok (.bipush (-2), 2) := by decide +kernel
theorem dX10_ounces_30 : decode cX10_ounces 30 = .ok (.ireturn, 1) := by decide +kernel
theorem dX10_ounces_31 : decode cX10_ounces 31 = .ok (.iload_n 1, 1) := by decide +kernel
theorem dX10_ounces_32 : decode cX10_ounces 32 = .ok (.iconst (-1), 1) := by decide +kernel
theorem dX10_ounces_33 : decode cX10_ounces 33 = .ok (.if_icmp .ne 13, 3) := by decide +kernel
theorem dX10_ounces_36 : decode cX10_ounces 36 = .ok (.aload_n 0, 1) := by decide +kernel
theorem dX10_ounces_37 : decode cX10_ounces 37 = .ok (.getfield 37, 3) := by decide +kernel
theorem dX10_ounces_40 : decode cX10_ounces 40 = .ok (.invokevirtual 201, 3) := by decide +kernel
theorem dX10_ounces_43 : decode cX10_ounces 43 = .ok (.goto 14, 3) := by decide +kernel
theorem dX10_ounces_46 : decode cX10_ounces 46 = .ok (.aload_n 0, 1) := by decide +kernel
theorem dX10_ounces_47 : decode cX10_ounces 47 = .ok (.getfield 37, 3) := by decide +kernel
theorem dX10_ounces_50 : decode cX10_ounces 50 = .ok (.getfield 204, 3) := by decide +kernel
theorem dX10_ounces_53 : decode cX10_ounces 53 = .ok (.iload_n 1, 1) := by decide +kernel
theorem dX10_ounces_54 : decode cX10_ounces 54 = .ok (.invokestatic 125, 3) := by decide +kernel
theorem dX10_ounces_57 : decode cX10_ounces 57 = .ok (.ireturn, 1) := by decide +kernel
theorem dX10_makeUp_0 : decode cX10_makeUp 0 = .ok (.iload_n 1, 1) := by decide +kernel
theorem dX10_makeUp_1 : decode cX10_makeUp 1 = .ok (.ifCond .eq 10, 3) := by decide +kernel
theorem dX10_makeUp_4 : decode cX10_makeUp 4 = .ok (.iload_n 1, 1) := by decide +kernel
theorem dX10_makeUp_5 : decode cX10_makeUp 5 = .ok (.iconst 1, 1) := by decide +kernel
theorem dX10_makeUp_6 : decode cX10_makeUp 6 = .ok (.if_icmp .eq 5, 3) := by decide +kernel
theorem dX10_makeUp_9 : decode cX10_makeUp 9 = .ok (.iconst (-1), 1) := by decide +kernel
theorem dX10_makeUp_10 : decode cX10_makeUp 10 = .ok (.ireturn, 1) := by decide +kernel
theorem dX10_makeUp_11 : decode cX10_makeUp 11 = .ok (.aload_n 0, 1) := by decide +kernel
theorem dX10_makeUp_12 : decode cX10_makeUp 12 = .ok (.getfield 37, 3) := by decide +kernel
theorem dX10_makeUp_15 : decode cX10_makeUp 15 = .ok (.invokevirtual 207, 3) := by decide +kernel
theorem dX10_makeUp_18 : decode cX10_makeUp 18 = .ok (.ifCond .ne 6, 3) := by decide +kernel
theorem dX10_makeUp_21 : decode cX10_makeUp 21 = .ok (.bipush (-2), 2) := by decide +kernel
theorem dX10_makeUp_23 : decode cX10_makeUp 23 = .ok (.ireturn, 1) := by decide +kernel
theorem dX10_makeUp_24 : decode cX10_makeUp 24 = .ok (.iload_n 1, 1) := by decide +kernel
theorem dX10_makeUp_25 : decode cX10_makeUp 25 = .ok (.ifCond .ne 15, 3) := by decide +kernel
theorem dX10_makeUp_28 : decode cX10_makeUp 28 = .ok (.aload_n 0, 1) := by decide +kernel
theorem dX10_makeUp_29 : decode cX10_makeUp 29 = .ok (.getfield 21, 3) := by decide +kernel
theorem dX10_makeUp_32 : decode cX10_makeUp 32 = .ok (.bipush 8, 2) := by decide +kernel
theorem dX10_makeUp_34 : decode cX10_makeUp 34 = .ok (.invokevirtual 109, 3) := by decide +kernel
theorem dX10_makeUp_37 : decode cX10_makeUp 37 = .ok (.goto 10, 3) := by decide +kernel
theorem dX10_makeUp_40 : decode cX10_makeUp 40 = .ok (.aload_n 0, 1) := by decide +kernel
theorem dX10_makeUp_41 : decode cX10_makeUp 41 = .ok (.getfield 37, 3) := by decide +kernel
theorem dX10_makeUp_44 : decode cX10_makeUp 44 = .ok (.getfield 210, 3) := by decide +kernel
theorem dX10_makeUp_47 : decode cX10_makeUp 47 = .ok (.ireturn, 1) := by decide +kernel
theorem dX10_ends_0 : decode cX10_ends 0 = .ok (.aload_n 0, 1) := by decide +kernel
theorem dX10_ends_1 : decode cX10_ends 1 = .ok (.getfield 21, 3) := by decide +kernel
theorem dX10_ends_4 : decode cX10_ends 4 = .ok (.iload_n 1, 1) := by decide +kernel
theorem dX10_ends_5 : decode cX10_ends 5 = .ok (.invokevirtual 183, 3) := by decide +kernel
theorem dX10_ends_8 : decode cX10_ends 8 = .ok (.ifCond .eq 18, 3) := by decide +kernel
theorem dX10_ends_11 : decode cX10_ends 11 = .ok (.iload_n 1, 1) := by decide +kernel
theorem dX10_ends_12 : decode cX10_ends 12 = .ok (.ifCond .eq 14, 3) := by decide +kernel
theorem dX10_ends_15 : decode cX10_ends 15 = .ok (.aload_n 0, 1) := by decide +kernel
theorem dX10_ends_16 : decode cX10_ends 16 = .ok (.getfield 51, 3) := by decide +kernel
theorem dX10_ends_19 : decode cX10_ends 19 = .ok (.iload_n 1, 1) := by decide +kernel
theorem dX10_ends_20 : decode cX10_ends 20 = .ok (.invokevirtual 213, 3) := by decide +kernel
theorem dX10_ends_23 : decode cX10_ends 23 = .ok (.goto 4, 3) := by decide +kernel
theorem dX10_ends_26 : decode cX10_ends 26 = .ok (.iconst (-1), 1) := by decide +kernel
theorem dX10_ends_27 : decode cX10_ends 27 = .ok (.ireturn, 1) := by decide +kernel
theorem dX10_aside_0 : decode cX10_aside 0 = .ok (.aload_n 0, 1) := by decide +kernel
theorem dX10_aside_1 : decode cX10_aside 1 = .ok (.getfield 21, 3) := by decide +kernel
theorem dX10_aside_4 : decode cX10_aside 4 = .ok (.iload_n 1, 1) := by decide +kernel
theorem dX10_aside_5 : decode cX10_aside 5 = .ok (.invokevirtual 183, 3) := by decide +kernel
theorem dX10_aside_8 : decode cX10_aside 8 = .ok (.ifCond .eq 18, 3) := by decide +kernel
theorem dX10_aside_11 : decode cX10_aside 11 = .ok (.iload_n 1, 1) := by decide +kernel
theorem dX10_aside_12 : decode cX10_aside 12 = .ok (.ifCond .eq 14, 3) := by decide +kernel
theorem dX10_aside_15 : decode cX10_aside 15 = .ok (.aload_n 0, 1) := by decide +kernel
theorem dX10_aside_16 : decode cX10_aside 16 = .ok (.getfield 51, 3) := by decide +kernel
theorem dX10_aside_19 : decode cX10_aside 19 = .ok (.iload_n 1, 1) := by decide +kernel
theorem dX10_aside_20 : decode cX10_aside 20 = .ok (.invokevirtual 216, 3) := by decide +kernel
theorem dX10_aside_23 : decode cX10_aside 23 = .ok (.goto 4, 3) := by decide +kernel
theorem dX10_aside_26 : decode cX10_aside 26 = .ok (.iconst (-1), 1) := by decide +kernel
theorem dX10_aside_27 : decode cX10_aside 27 = .ok (.ireturn, 1) := by decide +kernel
theorem dX10_soldOn_0 : decode cX10_soldOn 0 = .ok (.iload_n 1, 1) := by decide +kernel
theorem dX10_soldOn_1 : decode cX10_soldOn 1 = .ok (.iconst (-1), 1) := by decide +kernel
theorem dX10_soldOn_2 : decode cX10_soldOn 2 = .ok (.if_icmp .ge 5, 3) := by decide +kernel
theorem dX10_soldOn_5 : decode cX10_soldOn 5 = .ok (.iconst (-1), 1) := by decide +kernel
theorem dX10_soldOn_6 : decode cX10_soldOn 6 = .ok (.ireturn, 1) := by decide +kernel
theorem dX10_soldOn_7 : decode cX10_soldOn 7 = .ok (.aload_n 0, 1) := by decide +kernel
theorem dX10_soldOn_8 : decode cX10_soldOn 8 = .ok (.getfield 58, 3) := by decide +kernel
theorem dX10_soldOn_11 : decode cX10_soldOn 11 = .ok (.invokevirtual 219, 3) := by decide +kernel
theorem dX10_soldOn_14 : decode cX10_soldOn 14 = .ok (.istore_n 2, 1) := by decide +kernel
theorem dX10_soldOn_15 : decode cX10_soldOn 15 = .ok (.iload_n 1, 1) := by decide +kernel
theorem dX10_soldOn_16 : decode cX10_soldOn 16 = .ok (.iconst (-1), 1) := by decide +kernel
theorem dX10_soldOn_17 : decode cX10_soldOn 17 = .ok (.if_icmp .ne 5, 3) := by decide +kernel
theorem dX10_soldOn_20 : decode cX10_soldOn 20 = .ok (.iload_n 2, 1) := by decide +kernel
theorem dX10_soldOn_21 : decode cX10_soldOn 21 = .ok (.ireturn, 1) := by decide +kernel
theorem dX10_soldOn_22 : decode cX10_soldOn 22 = .ok (.iload_n 1, 1) := by decide +kernel
theorem dX10_soldOn_23 : decode cX10_soldOn 23 = .ok (.iload_n 2, 1) := by decide +kernel
theorem dX10_soldOn_24 : decode cX10_soldOn 24 = .ok (.if_icmp .ge 14, 3) := by decide +kernel
theorem dX10_soldOn_27 : decode cX10_soldOn 27 = .ok (.aload_n 0, 1) := by decide +kernel
theorem dX10_soldOn_28 : decode cX10_soldOn 28 = .ok (.getfield 58, 3) := by decide +kernel
theorem dX10_soldOn_31 : decode cX10_soldOn 31 = .ok (.iload_n 1, 1) := by decide +kernel
theorem dX10_soldOn_32 : decode cX10_soldOn 32 = .ok (.invokevirtual 222, 3) := by decide +kernel
theorem dX10_soldOn_35 : decode cX10_soldOn 35 = .ok (.goto 5, 3) := by decide +kernel
theorem dX10_soldOn_38 : decode cX10_soldOn 38 = .ok (.bipush (-2), 2) := by decide +kernel
theorem dX10_soldOn_40 : decode cX10_soldOn 40 = .ok (.ireturn, 1) := by decide +kernel
theorem dX10_worth_0 : decode cX10_worth 0 = .ok (.aload_n 0, 1) := by decide +kernel
theorem dX10_worth_1 : decode cX10_worth 1 = .ok (.getfield 21, 3) := by decide +kernel
theorem dX10_worth_4 : decode cX10_worth 4 = .ok (.iload_n 1, 1) := by decide +kernel
theorem dX10_worth_5 : decode cX10_worth 5 = .ok (.invokevirtual 183, 3) := by decide +kernel
theorem dX10_worth_8 : decode cX10_worth 8 = .ok (.ifCond .eq 22, 3) := by decide +kernel
theorem dX10_worth_11 : decode cX10_worth 11 = .ok (.aload_n 0, 1) := by decide +kernel
theorem dX10_worth_12 : decode cX10_worth 12 = .ok (.getfield 21, 3) := by decide +kernel
theorem dX10_worth_15 : decode cX10_worth 15 = .ok (.iload_n 2, 1) := by decide +kernel
theorem dX10_worth_16 : decode cX10_worth 16 = .ok (.invokevirtual 101, 3) := by decide +kernel
theorem dX10_worth_19 : decode cX10_worth 19 = .ok (.ifCond .eq 11, 3) := by decide +kernel
theorem dX10_worth_22 : decode cX10_worth 22 = .ok (.iload_n 1, 1) := by decide +kernel
theorem dX10_worth_23 : decode cX10_worth 23 = .ok (.iload_n 2, 1) := by decide +kernel
theorem dX10_worth_24 : decode cX10_worth 24 = .ok (.ishr, 1) := by decide +kernel
theorem dX10_worth_25 : decode cX10_worth 25 = .ok (.iconst 1, 1) := by decide +kernel
theorem dX10_worth_26 : decode cX10_worth 26 = .ok (.iand, 1) := by decide +kernel
theorem dX10_worth_27 : decode cX10_worth 27 = .ok (.ifCond .ne 6, 3) := by decide +kernel
theorem dX10_worth_30 : decode cX10_worth 30 = .ok (.ldc 225, 2) := by decide +kernel
theorem dX10_worth_32 : decode cX10_worth 32 = .ok (.ireturn, 1) := by decide +kernel
theorem dX10_worth_33 : decode cX10_worth 33 = .ok (.aload_n 0, 1) := by decide +kernel
theorem dX10_worth_34 : decode cX10_worth 34 = .ok (.getfield 44, 3) := by decide +kernel
theorem dX10_worth_37 : decode cX10_worth 37 = .ok (.invokevirtual 191, 3) := by decide +kernel
theorem dX10_worth_40 : decode cX10_worth 40 = .ok (.aload_n 0, 1) := by decide +kernel
theorem dX10_worth_41 : decode cX10_worth 41 = .ok (.getfield 44, 3) := by decide +kernel
theorem dX10_worth_44 : decode cX10_worth 44 = .ok (.iload_n 1, 1) := by decide +kernel
theorem dX10_worth_45 : decode cX10_worth 45 = .ok (.iconst (-1), 1) := by decide +kernel
theorem dX10_worth_46 : decode cX10_worth 46 = .ok (.invokevirtual 194, 3) := by decide +kernel
theorem dX10_worth_49 : decode cX10_worth 49 = .ok (.istore_n 3, 1) := by decide +kernel
theorem dX10_worth_50 : decode cX10_worth 50 = .ok (.iload_n 3, 1) := by decide +kernel
theorem dX10_worth_51 : decode cX10_worth 51 = .ok (.aload_n 0, 1) := by decide +kernel
theorem dX10_worth_52 : decode cX10_worth 52 = .ok (.getfield 44, 3) := by decide +kernel
theorem dX10_worth_55 : decode cX10_worth 55 = .ok (.iload_n 1, 1) := by decide +kernel
theorem dX10_worth_56 : decode cX10_worth 56 = .ok (.iconst 1, 1) := by decide +kernel
theorem dX10_worth_57 : decode cX10_worth 57 = .ok (.iload_n 2, 1) := by decide +kernel
theorem dX10_worth_58 : decode cX10_worth 58 = .ok (.ishl, 1) := by decide +kernel
theorem dX10_worth_59 : decode cX10_worth 59 = .ok (.iconst (-1), 1) := by decide +kernel
theorem dX10_worth_60 : decode cX10_worth 60 = .ok (.ixor, 1) := by decide +kernel
theorem dX10_worth_61 : decode cX10_worth 61 = .ok (.iand, 1) := by decide +kernel
theorem dX10_worth_62 : decode cX10_worth 62 = .ok (.iconst (-1), 1) := by decide +kernel
theorem dX10_worth_63 : decode cX10_worth 63 = .ok (.invokevirtual 194, 3) := by decide +kernel
theorem dX10_worth_66 : decode cX10_worth 66 = .ok (.isub, 1) := by decide +kernel
theorem dX10_worth_67 : decode cX10_worth 67 = .ok (.ireturn, 1) := by decide +kernel
theorem dX10_fewest_0 : decode cX10_fewest 0 = .ok (.aload_n 0, 1) := by decide +kernel
theorem dX10_fewest_1 : decode cX10_fewest 1 = .ok (.getfield 79, 3) := by decide +kernel
theorem dX10_fewest_4 : decode cX10_fewest 4 = .ok (.iload_n 1, 1) := by decide +kernel
theorem dX10_fewest_5 : decode cX10_fewest 5 = .ok (.invokevirtual 91, 3) := by decide +kernel
theorem dX10_fewest_8 : decode cX10_fewest 8 = .ok (.istore_n 2, 1) := by decide +kernel
theorem dX10_fewest_9 : decode cX10_fewest 9 = .ok (.iload_n 2, 1) := by decide +kernel
theorem dX10_fewest_10 : decode cX10_fewest 10 = .ok (.ifCond .eq 5, 3) := by decide +kernel
theorem dX10_fewest_13 : decode cX10_fewest 13 = .ok (.iload_n 2, 1) := by decide +kernel
theorem dX10_fewest_14 : decode cX10_fewest 14 = .ok (.ireturn, 1) := by decide +kernel
theorem dX10_fewest_15 : decode cX10_fewest 15 = .ok (.aload_n 0, 1) := by decide +kernel
theorem dX10_fewest_16 : decode cX10_fewest 16 = .ok (.getfield 65, 3) := by decide +kernel
theorem dX10_fewest_19 : decode cX10_fewest 19 = .ok (.aload_n 0, 1) := by decide +kernel
theorem dX10_fewest_20 : decode cX10_fewest 20 = .ok (.getfield 79, 3) := by decide +kernel
theorem dX10_fewest_23 : decode cX10_fewest 23 = .ok (.iload_n 1, 1) := by decide +kernel
theorem dX10_fewest_24 : decode cX10_fewest 24 = .ok (.invokevirtual 226, 3) := by decide +kernel
theorem dX10_fewest_27 : decode cX10_fewest 27 = .ok (.ifCond .eq 13, 3) := by decide +kernel
theorem dX10_fewest_30 : decode cX10_fewest 30 = .ok (.aload_n 0, 1) := by decide +kernel
theorem dX10_fewest_31 : decode cX10_fewest 31 = .ok (.getfield 65, 3) := by decide +kernel
theorem dX10_fewest_34 : decode cX10_fewest 34 = .ok (.invokevirtual 230, 3) := by decide +kernel
theorem dX10_fewest_37 : decode cX10_fewest 37 = .ok (.goto 5, 3) := by decide +kernel
theorem dX10_fewest_40 : decode cX10_fewest 40 = .ok (.bipush (-5), 2) := by decide +kernel
theorem dX10_fewest_42 : decode cX10_fewest 42 = .ok (.ireturn, 1) := by decide +kernel
theorem dX10_book_0 : decode cX10_book 0 = .ok (.iload_n 2, 1) := by decide +kernel
theorem dX10_book_1 : decode cX10_book 1 = .ok (.iconst (-1), 1) := by decide +kernel
theorem dX10_book_2 : decode cX10_book 2 = .ok (.if_icmp .lt 14, 3) := by decide +kernel
theorem dX10_book_5 : decode cX10_book 5 = .ok (.iload_n 2, 1) := by decide +kernel
theorem dX10_book_6 : decode cX10_book 6 = .ok (.aload_n 0, 1) := by decide +kernel
theorem dX10_book_7 : decode cX10_book 7 = .ok (.getfield 21, 3) := by decide +kernel
theorem dX10_book_10 : decode cX10_book 10 = .ok (.getfield 136, 3) := by decide +kernel
theorem dX10_book_13 : decode cX10_book 13 = .ok (.if_icmp .lt 5, 3) := by decide +kernel
theorem dX10_book_16 : decode cX10_book 16 = .ok (.iconst (-1), 1) := by decide +kernel
theorem dX10_book_17 : decode cX10_book 17 = .ok (.ireturn, 1) := by decide +kernel
theorem dX10_book_18 : decode cX10_book 18 = .ok (.aload_n 0, 1) := by decide +kernel
theorem dX10_book_19 : decode cX10_book 19 = .ok (.getfield 79, 3) := by decide +kernel
theorem dX10_book_22 : decode cX10_book 22 = .ok (.iload_n 1, 1) := by decide +kernel
theorem dX10_book_23 : decode cX10_book 23 = .ok (.invokevirtual 91, 3) := by decide +kernel
theorem dX10_book_26 : decode cX10_book 26 = .ok (.istore_n 3, 1) := by decide +kernel
theorem dX10_book_27 : decode cX10_book 27 = .ok (.iload_n 3, 1) := by decide +kernel
theorem dX10_book_28 : decode cX10_book 28 = .ok (.ifCond .eq 5, 3) := by decide +kernel
theorem dX10_book_31 : decode cX10_book 31 = .ok (.iload_n 3, 1) := by decide +kernel
theorem dX10_book_32 : decode cX10_book 32 = .ok (.ireturn, 1) := by decide +kernel
theorem dX10_book_33 : decode cX10_book 33 = .ok (.aload_n 0, 1) := by decide +kernel
theorem dX10_book_34 : decode cX10_book 34 = .ok (.getfield 44, 3) := by decide +kernel
theorem dX10_book_37 : decode cX10_book 37 = .ok (.aload_n 0, 1) := by decide +kernel
theorem dX10_book_38 : decode cX10_book 38 = .ok (.getfield 79, 3) := by decide +kernel
theorem dX10_book_41 : decode cX10_book 41 = .ok (.iload_n 1, 1) := by decide +kernel
theorem dX10_book_42 : decode cX10_book 42 = .ok (.invokevirtual 233, 3) := by decide +kernel
theorem dX10_book_45 : decode cX10_book 45 = .ok (.aload_n 0, 1) := by decide +kernel
theorem dX10_book_46 : decode cX10_book 46 = .ok (.getfield 44, 3) := by decide +kernel
theorem dX10_book_49 : decode cX10_book 49 = .ok (.aload_n 0, 1) := by decide +kernel
theorem dX10_book_50 : decode cX10_book 50 = .ok (.getfield 21, 3) := by decide +kernel
theorem dX10_book_53 : decode cX10_book 53 = .ok (.invokevirtual 237, 3) := by decide +kernel
theorem dX10_book_56 : decode cX10_book 56 = .ok (.iload_n 2, 1) := by decide +kernel
theorem dX10_book_57 : decode cX10_book 57 = .ok (.invokevirtual 194, 3) := by decide +kernel
theorem dX10_book_60 : decode cX10_book 60 = .ok (.ireturn, 1) := by decide +kernel
theorem dX10_mixed_0 : decode cX10_mixed 0 = .ok (.iload_n 2, 1) := by decide +kernel
theorem dX10_mixed_1 : decode cX10_mixed 1 = .ok (.iconst 1, 1) := by decide +kernel
theorem dX10_mixed_2 : decode cX10_mixed 2 = .ok (.if_icmp .lt 9, 3) := by decide +kernel
theorem dX10_mixed_5 : decode cX10_mixed 5 = .ok (.iload_n 2, 1) := by decide +kernel
theorem dX10_mixed_6 : decode cX10_mixed 6 = .ok (.bipush 50, 2) := by decide +kernel
theorem dX10_mixed_8 : decode cX10_mixed 8 = .ok (.if_icmp .le 5, 3) := by decide +kernel
theorem dX10_mixed_11 : decode cX10_mixed 11 = .ok (.iconst (-1), 1) := by decide +kernel
theorem dX10_mixed_12 : decode cX10_mixed 12 = .ok (.ireturn, 1) := by decide +kernel
theorem dX10_mixed_13 : decode cX10_mixed 13 = .ok (.iload_n 3, 1) := by decide +kernel
theorem dX10_mixed_14 : decode cX10_mixed 14 = .ok (.iconst (-1), 1) := by decide +kernel
theorem dX10_mixed_15 : decode cX10_mixed 15 = .ok (.if_icmp .eq 29, 3) := by decide +kernel
theorem dX10_mixed_18 : decode cX10_mixed 18 = .ok (.aload_n 0, 1) := by decide +kernel
theorem dX10_mixed_19 : decode cX10_mixed 19 = .ok (.getfield 21, 3) := by decide +kernel
theorem dX10_mixed_22 : decode cX10_mixed 22 = .ok (.iload_n 3, 1) := by decide +kernel
theorem dX10_mixed_23 : decode cX10_mixed 23 = .ok (.invokevirtual 101, 3) := by decide +kernel
theorem dX10_mixed_26 : decode cX10_mixed 26 = .ok (.ifCond .eq 16, 3) := by decide +kernel
theorem dX10_mixed_29 : decode cX10_mixed 29 = .ok (.aload_n 0, 1) := by decide +kernel
theorem dX10_mixed_30 : decode cX10_mixed 30 = .ok (.getfield 21, 3) := by decide +kernel
theorem dX10_mixed_33 : decode cX10_mixed 33 = .ok (.iload_n 3, 1) := by decide +kernel
theorem dX10_mixed_34 : decode cX10_mixed 34 = .ok (.invokevirtual 112, 3) := by decide +kernel
theorem dX10_mixed_37 : decode cX10_mixed 37 = .ok (.bipush (-2), 2) := by decide +kernel
theorem dX10_mixed_39 : decode cX10_mixed 39 = .ok (.if_icmp .ne 5, 3) := by decide +kernel
theorem dX10_mixed_42 : decode cX10_mixed 42 = .ok (.iconst (-1), 1) := by decide +kernel
theorem dX10_mixed_43 : decode cX10_mixed 43 = .ok (.ireturn, 1) := by decide +kernel
theorem dX10_mixed_44 : decode cX10_mixed 44 = .ok (.aload_n 0, 1) := by decide +kernel
theorem dX10_mixed_45 : decode cX10_mixed 45 = .ok (.getfield 37, 3) := by decide +kernel
theorem dX10_mixed_48 : decode cX10_mixed 48 = .ok (.iload_n 1, 1) := by decide +kernel
theorem dX10_mixed_49 : decode cX10_mixed 49 = .ok (.iload_n 2, 1) := by decide +kernel
theorem dX10_mixed_50 : decode cX10_mixed 50 = .ok (.iload_n 3, 1) := by decide +kernel
theorem dX10_mixed_51 : decode cX10_mixed 51 = .ok (.invokevirtual 240, 3) := by decide +kernel
theorem dX10_mixed_54 : decode cX10_mixed 54 = .ok (.ireturn, 1) := by decide +kernel
theorem dX10_image_0 : decode cX10_image 0 = .ok (.aload_n 0, 1) := by decide +kernel
theorem dX10_image_1 : decode cX10_image 1 = .ok (.getfield 21, 3) := by decide +kernel
theorem dX10_image_4 : decode cX10_image 4 = .ok (.invokevirtual 244, 3) := by decide +kernel
theorem dX10_image_7 : decode cX10_image 7 = .ok (.ireturn, 1) := by decide +kernel
theorem dX10_back_0 : decode cX10_back 0 = .ok (.aload_n 0, 1) := by decide +kernel
theorem dX10_back_1 : decode cX10_back 1 = .ok (.getfield 21, 3) := by decide +kernel
theorem dX10_back_4 : decode cX10_back 4 = .ok (.invokevirtual 247, 3) := by decide +kernel
theorem dX10_back_7 : decode cX10_back 7 = .ok (.ireturn, 1) := by decide +kernel
theorem dX10_undo_0 : decode cX10_undo 0 = .ok (.aload_n 0, 1) := by decide +kernel
theorem dX10_undo_1 : decode cX10_undo 1 = .ok (.getfield 30, 3) := by decide +kernel
theorem dX10_undo_4 : decode cX10_undo 4 = .ok (.invokevirtual 250, 3) := by decide +kernel
theorem dX10_undo_7 : decode cX10_undo 7 = .ok (.ireturn, 1) := by decide +kernel
theorem dX10_redo_0 : decode cX10_redo 0 = .ok (.aload_n 0, 1) := by decide +kernel
theorem dX10_redo_1 : decode cX10_redo 1 = .ok (.getfield 30, 3) := by decide +kernel
theorem dX10_redo_4 : decode cX10_redo 4 = .ok (.invokevirtual 253, 3) := by decide +kernel
theorem dX10_redo_7 : decode cX10_redo 7 = .ok (.ireturn, 1) := by decide +kernel
theorem dX10_body_0 : decode cX10_body 0 = .ok (.aload_n 0, 1) := by decide +kernel
theorem dX10_body_1 : decode cX10_body 1 = .ok (.getfield 72, 3) := by decide +kernel
theorem dX10_body_4 : decode cX10_body 4 = .ok (.iload_n 1, 1) := by decide +kernel
theorem dX10_body_5 : decode cX10_body 5 = .ok (.invokevirtual 256, 3) := by decide +kernel
theorem dX10_body_8 : decode cX10_body 8 = .ok (.ireturn, 1) := by decide +kernel
theorem dX10_act_0 : decode cX10_act 0 = .ok (.aload_n 0, 1) := by decide +kernel
theorem dX10_act_1 : decode cX10_act 1 = .ok (.getfield 72, 3) := by decide +kernel
theorem dX10_act_4 : decode cX10_act 4 = .ok (.iload_n 1, 1) := by decide +kernel
theorem dX10_act_5 : decode cX10_act 5 = .ok (.iload_n 2, 1) := by decide +kernel
theorem dX10_act_6 : decode cX10_act 6 = .ok (.iload_n 3, 1) := by decide +kernel
theorem dX10_act_7 : decode cX10_act 7 = .ok (.invokevirtual 259, 3) := by decide +kernel
theorem dX10_act_10 : decode cX10_act 10 = .ok (.ireturn, 1) := by decide +kernel
theorem dX10_trace_0 : decode cX10_trace 0 = .ok (.aload_n 0, 1) := by decide +kernel
theorem dX10_trace_1 : decode cX10_trace 1 = .ok (.getfield 72, 3) := by decide +kernel
theorem dX10_trace_4 : decode cX10_trace 4 = .ok (.iload_n 1, 1) := by decide +kernel
theorem dX10_trace_5 : decode cX10_trace 5 = .ok (.invokevirtual 262, 3) := by decide +kernel
theorem dX10_trace_8 : decode cX10_trace 8 = .ok (.ireturn, 1) := by decide +kernel
theorem dX10_keep_0 : decode cX10_keep 0 = .ok (.aload_n 0, 1) := by decide +kernel
theorem dX10_keep_1 : decode cX10_keep 1 = .ok (.getfield 79, 3) := by decide +kernel
theorem dX10_keep_4 : decode cX10_keep 4 = .ok (.iload_n 1, 1) := by decide +kernel
theorem dX10_keep_5 : decode cX10_keep 5 = .ok (.invokevirtual 87, 3) := by decide +kernel
theorem dX10_keep_8 : decode cX10_keep 8 = .ok (.ifCond .eq 19, 3) := by decide +kernel
theorem dX10_keep_11 : decode cX10_keep 11 = .ok (.iload_n 2, 1) := by decide +kernel
theorem dX10_keep_12 : decode cX10_keep 12 = .ok (.iconst (-1), 1) := by decide +kernel
theorem dX10_keep_13 : decode cX10_keep 13 = .ok (.if_icmp .eq 16, 3) := by decide +kernel
theorem dX10_keep_16 : decode cX10_keep 16 = .ok (.aload_n 0, 1) := by decide +kernel
theorem dX10_keep_17 : decode cX10_keep 17 = .ok (.getfield 72, 3) := by decide +kernel
theorem dX10_keep_20 : decode cX10_keep 20 = .ok (.iload_n 2, 1) := by decide +kernel
theorem dX10_keep_21 : decode cX10_keep 21 = .ok (.invokevirtual 265, 3) := by decide +kernel
theorem dX10_keep_24 : decode cX10_keep 24 = .ok (.ifCond .ne 5, 3) := by decide +kernel
theorem dX10_keep_27 : decode cX10_keep 27 = .ok (.iconst (-1), 1) := by decide +kernel
theorem dX10_keep_28 : decode cX10_keep 28 = .ok (.ireturn, 1) := by decide +kernel
theorem dX10_keep_29 : decode cX10_keep 29 = .ok (.aload_n 0, 1) := by decide +kernel
theorem dX10_keep_30 : decode cX10_keep 30 = .ok (.getfield 79, 3) := by decide +kernel
theorem dX10_keep_33 : decode cX10_keep 33 = .ok (.iload_n 1, 1) := by decide +kernel
theorem dX10_keep_34 : decode cX10_keep 34 = .ok (.iload_n 2, 1) := by decide +kernel
theorem dX10_keep_35 : decode cX10_keep 35 = .ok (.iconst (-1), 1) := by decide +kernel
theorem dX10_keep_36 : decode cX10_keep 36 = .ok (.if_icmp .ne 8, 3) := by decide +kernel
theorem dX10_keep_39 : decode cX10_keep 39 = .ok (.bipush (-2), 2) := by decide +kernel
theorem dX10_keep_41 : decode cX10_keep 41 = .ok (.goto 4, 3) := by decide +kernel
theorem dX10_keep_44 : decode cX10_keep 44 = .ok (.iconst (-1), 1) := by decide +kernel
theorem dX10_keep_45 : decode cX10_keep 45 = .ok (.iload_n 2, 1) := by decide +kernel
theorem dX10_keep_46 : decode cX10_keep 46 = .ok (.invokevirtual 266, 3) := by decide +kernel
theorem dX10_keep_49 : decode cX10_keep 49 = .ok (.iconst 1, 1) := by decide +kernel
theorem dX10_keep_50 : decode cX10_keep 50 = .ok (.ireturn, 1) := by decide +kernel
theorem dX10_row_0 : decode cX10_row 0 = .ok (.aload_n 0, 1) := by decide +kernel
theorem dX10_row_1 : decode cX10_row 1 = .ok (.getfield 79, 3) := by decide +kernel
theorem dX10_row_4 : decode cX10_row 4 = .ok (.iload_n 1, 1) := by decide +kernel
theorem dX10_row_5 : decode cX10_row 5 = .ok (.invokevirtual 87, 3) := by decide +kernel
theorem dX10_row_8 : decode cX10_row 8 = .ok (.ifCond .eq 18, 3) := by decide +kernel
theorem dX10_row_11 : decode cX10_row 11 = .ok (.iload_n 2, 1) := by decide +kernel
theorem dX10_row_12 : decode cX10_row 12 = .ok (.ifCond .lt 14, 3) := by decide +kernel
theorem dX10_row_15 : decode cX10_row 15 = .ok (.iload_n 2, 1) := by decide +kernel
theorem dX10_row_16 : decode cX10_row 16 = .ok (.iconst 5, 1) := by decide +kernel
theorem dX10_row_17 : decode cX10_row 17 = .ok (.if_icmp .ge 9, 3) := by decide +kernel
theorem dX10_row_20 : decode cX10_row 20 = .ok (.iload_n 3, 1) := by decide +kernel
theorem dX10_row_21 : decode cX10_row 21 = .ok (.bipush 60, 2) := by decide +kernel
theorem dX10_row_23 : decode cX10_row 23 = .ok (.if_icmp .le 5, 3) := by decide +kernel
theorem dX10_row_26 : decode cX10_row 26 = .ok (.iconst (-1), 1) := by decide +kernel
theorem dX10_row_27 : decode cX10_row 27 = .ok (.ireturn, 1) := by decide +kernel
theorem dX10_row_28 : decode cX10_row 28 = .ok (.iload_n 3, 1) := by decide +kernel
theorem dX10_row_29 : decode cX10_row 29 = .ok (.ifCond .ge 6, 3) := by decide +kernel
theorem dX10_row_32 : decode cX10_row 32 = .ok (.bipush (-14), 2) := by decide +kernel
theorem dX10_row_34 : decode cX10_row 34 = .ok (.ireturn, 1) := by decide +kernel
theorem dX10_row_35 : decode cX10_row 35 = .ok (.aload_n 0, 1) := by decide +kernel
theorem dX10_row_36 : decode cX10_row 36 = .ok (.getfield 79, 3) := by decide +kernel
theorem dX10_row_39 : decode cX10_row 39 = .ok (.iload_n 1, 1) := by decide +kernel
theorem dX10_row_40 : decode cX10_row 40 = .ok (.iload_n 2, 1) := by decide +kernel
theorem dX10_row_41 : decode cX10_row 41 = .ok (.iload_n 3, 1) := by decide +kernel
theorem dX10_row_42 : decode cX10_row 42 = .ok (.invokevirtual 266, 3) := by decide +kernel
theorem dX10_row_45 : decode cX10_row 45 = .ok (.iconst 1, 1) := by decide +kernel
theorem dX10_row_46 : decode cX10_row 46 = .ok (.ireturn, 1) := by decide +kernel
theorem dX10_put_0 : decode cX10_put 0 = .ok (.aload_n 0, 1) := by decide +kernel
theorem dX10_put_1 : decode cX10_put 1 = .ok (.getfield 79, 3) := by decide +kernel
theorem dX10_put_4 : decode cX10_put 4 = .ok (.iload_n 1, 1) := by decide +kernel
theorem dX10_put_5 : decode cX10_put 5 = .ok (.iload_n 2, 1) := by decide +kernel
theorem dX10_put_6 : decode cX10_put 6 = .ok (.invokevirtual 270, 3) := by decide +kernel
theorem dX10_put_9 : decode cX10_put 9 = .ok (.istore 5, 2) := by decide +kernel
theorem dX10_put_11 : decode cX10_put 11 = .ok (.iload 5, 2) := by decide +kernel
theorem dX10_put_13 : decode cX10_put 13 = .ok (.ifCond .eq 6, 3) := by decide +kernel
theorem dX10_put_16 : decode cX10_put 16 = .ok (.iload 5, 2) := by decide +kernel
theorem dX10_put_18 : decode cX10_put 18 = .ok (.ireturn, 1) := by decide +kernel
theorem dX10_put_19 : decode cX10_put 19 = .ok (.aload_n 0, 1) := by decide +kernel
theorem dX10_put_20 : decode cX10_put 20 = .ok (.getfield 79, 3) := by decide +kernel
theorem dX10_put_23 : decode cX10_put 23 = .ok (.iload_n 1, 1) := by decide +kernel
theorem dX10_put_24 : decode cX10_put 24 = .ok (.iload_n 2, 1) := by decide +kernel
theorem dX10_put_25 : decode cX10_put 25 = .ok (.lload_n 3, 1) := by decide +kernel
theorem dX10_put_26 : decode cX10_put 26 = .ok (.invokevirtual 273, 3) := by decide +kernel
theorem dX10_put_29 : decode cX10_put 29 = .ok (.iconst 1, 1) := by decide +kernel
theorem dX10_put_30 : decode cX10_put 30 = .ok (.ireturn, 1) := by decide +kernel
theorem dX10_element_0 : decode cX10_element 0 = .ok (.aload_n 0, 1) := by decide +kernel
theorem dX10_element_1 : decode cX10_element 1 = .ok (.getfield 79, 3) := by decide +kernel
theorem dX10_element_4 : decode cX10_element 4 = .ok (.iload_n 1, 1) := by decide +kernel
theorem dX10_element_5 : decode cX10_element 5 = .ok (.iload_n 2, 1) := by decide +kernel
theorem dX10_element_6 : decode cX10_element 6 = .ok (.invokevirtual 270, 3) := by decide +kernel
theorem dX10_element_9 : decode cX10_element 9 = .ok (.ifCond .ne 15, 3) := by decide +kernel
theorem dX10_element_12 : decode cX10_element 12 = .ok (.aload_n 0, 1) := by decide +kernel
theorem dX10_element_13 : decode cX10_element 13 = .ok (.getfield 79, 3) := by decide +kernel
theorem dX10_element_16 : decode cX10_element 16 = .ok (.iload_n 1, 1) := by decide +kernel
theorem dX10_element_17 : decode cX10_element 17 = .ok (.iload_n 2, 1) := by decide +kernel
theorem dX10_element_18 : decode cX10_element 18 = .ok (.invokevirtual 97, 3) := by decide +kernel
theorem dX10_element_21 : decode cX10_element 21 = .ok (.goto 6, 3) := by decide +kernel
theorem dX10_element_24 : decode cX10_element 24 = .ok (.ldc2_w 277, 3) := by decide +kernel
theorem dX10_element_27 : decode cX10_element 27 = .ok (.lreturn, 1) := by decide +kernel
theorem dX10_shift_0 : decode cX10_shift 0 = .ok (.aload_n 0, 1) := by decide +kernel
theorem dX10_shift_1 : decode cX10_shift 1 = .ok (.getfield 79, 3) := by decide +kernel
theorem dX10_shift_4 : decode cX10_shift 4 = .ok (.iload_n 1, 1) := by decide +kernel
theorem dX10_shift_5 : decode cX10_shift 5 = .ok (.iload_n 3, 1) := by decide +kernel
theorem dX10_shift_6 : decode cX10_shift 6 = .ok (.invokevirtual 279, 3) := by decide +kernel
theorem dX10_shift_9 : decode cX10_shift 9 = .ok (.istore 6, 2) := by decide +kernel
theorem dX10_shift_11 : decode cX10_shift 11 = .ok (.iload 6, 2) := by decide +kernel
theorem dX10_shift_13 : decode cX10_shift 13 = .ok (.ifCond .eq 6, 3) := by decide +kernel
theorem dX10_shift_16 : decode cX10_shift 16 = .ok (.iload 6, 2) := by decide +kernel
theorem dX10_shift_18 : decode cX10_shift 18 = .ok (.ireturn, 1) := by decide +kernel
theorem dX10_shift_19 : decode cX10_shift 19 = .ok (.aload_n 0, 1) := by decide +kernel
theorem dX10_shift_20 : decode cX10_shift 20 = .ok (.getfield 79, 3) := by decide +kernel
theorem dX10_shift_23 : decode cX10_shift 23 = .ok (.iload_n 1, 1) := by decide +kernel
theorem dX10_shift_24 : decode cX10_shift 24 = .ok (.iload_n 2, 1) := by decide +kernel
theorem dX10_shift_25 : decode cX10_shift 25 = .ok (.iload_n 3, 1) := by decide +kernel
theorem dX10_shift_26 : decode cX10_shift 26 = .ok (.iload 4, 2) := by decide +kernel
theorem dX10_shift_28 : decode cX10_shift 28 = .ok (.iload 5, 2) := by decide +kernel
theorem dX10_shift_30 : decode cX10_shift 30 = .ok (.invokevirtual 282, 3) := by decide +kernel
theorem dX10_shift_33 : decode cX10_shift 33 = .ok (.ifCond .eq 8, 3) := by decide +kernel
theorem dX10_shift_36 : decode cX10_shift 36 = .ok (.iload 5, 2) := by decide +kernel
theorem dX10_shift_38 : decode cX10_shift 38 = .ok (.goto 5, 3) := by decide +kernel
theorem dX10_shift_41 : decode cX10_shift 41 = .ok (.bipush (-13), 2) := by decide +kernel
theorem dX10_shift_43 : decode cX10_shift 43 = .ok (.ireturn, 1) := by decide +kernel
theorem dX10_taken_0 : decode cX10_taken 0 = .ok (.aload_n 0, 1) := by decide +kernel
theorem dX10_taken_1 : decode cX10_taken 1 = .ok (.getfield 79, 3) := by decide +kernel
theorem dX10_taken_4 : decode cX10_taken 4 = .ok (.iload_n 1, 1) := by decide +kernel
theorem dX10_taken_5 : decode cX10_taken 5 = .ok (.invokevirtual 87, 3) := by decide +kernel
theorem dX10_taken_8 : decode cX10_taken 8 = .ok (.ifCond .eq 13, 3) := by decide +kernel
theorem dX10_taken_11 : decode cX10_taken 11 = .ok (.iload_n 2, 1) := by decide +kernel
theorem dX10_taken_12 : decode cX10_taken 12 = .ok (.ifCond .lt 9, 3) := by decide +kernel
theorem dX10_taken_15 : decode cX10_taken 15 = .ok (.iload_n 2, 1) := by decide +kernel
theorem dX10_taken_16 : decode cX10_taken 16 = .ok (.bipush 8, 2) := by decide +kernel
theorem dX10_taken_18 : decode cX10_taken 18 = .ok (.if_icmp .lt 5, 3) := by decide +kernel
theorem dX10_taken_21 : decode cX10_taken 21 = .ok (.iconst (-1), 1) := by decide +kernel
theorem dX10_taken_22 : decode cX10_taken 22 = .ok (.ireturn, 1) := by decide +kernel
theorem dX10_taken_23 : decode cX10_taken 23 = .ok (.aload_n 0, 1) := by decide +kernel
theorem dX10_taken_24 : decode cX10_taken 24 = .ok (.getfield 79, 3) := by decide +kernel
theorem dX10_taken_27 : decode cX10_taken 27 = .ok (.iload_n 1, 1) := by decide +kernel
theorem dX10_taken_28 : decode cX10_taken 28 = .ok (.invokevirtual 286, 3) := by decide +kernel
theorem dX10_taken_31 : decode cX10_taken 31 = .ok (.ifCond .eq 6, 3) := by decide +kernel
theorem dX10_taken_34 : decode cX10_taken 34 = .ok (.bipush (-11), 2) := by decide +kernel
theorem dX10_taken_36 : decode cX10_taken 36 = .ok (.ireturn, 1) := by decide +kernel
theorem dX10_taken_37 : decode cX10_taken 37 = .ok (.aload_n 0, 1) := by decide +kernel
theorem dX10_taken_38 : decode cX10_taken 38 = .ok (.getfield 79, 3) := by decide +kernel
theorem dX10_taken_41 : decode cX10_taken 41 = .ok (.iload_n 1, 1) := by decide +kernel
theorem dX10_taken_42 : decode cX10_taken 42 = .ok (.invokevirtual 289, 3) := by decide +kernel
theorem dX10_taken_45 : decode cX10_taken 45 = .ok (.ifCond .eq 21, 3) := by decide +kernel
theorem dX10_taken_48 : decode cX10_taken 48 = .ok (.aload_n 0, 1) := by decide +kernel
theorem dX10_taken_49 : decode cX10_taken 49 = .ok (.getfield 72, 3) := by decide +kernel
theorem dX10_taken_52 : decode cX10_taken 52 = .ok (.aload_n 0, 1) := by decide +kernel
theorem dX10_taken_53 : decode cX10_taken 53 = .ok (.getfield 79, 3) := by decide +kernel
theorem dX10_taken_56 : decode cX10_taken 56 = .ok (.iload_n 1, 1) := by decide +kernel
theorem dX10_taken_57 : decode cX10_taken 57 = .ok (.invokevirtual 292, 3) := by decide +kernel
theorem dX10_taken_60 : decode cX10_taken 60 = .ok (.invokevirtual 295, 3) := by decide +kernel
theorem dX10_taken_63 : decode cX10_taken 63 = .ok (.goto 4, 3) := by decide +kernel
theorem dX10_taken_66 : decode cX10_taken 66 = .ok (.iconst (-1), 1) := by decide +kernel
theorem dX10_taken_67 : decode cX10_taken 67 = .ok (.istore_n 3, 1) := by decide +kernel
theorem dX10_taken_68 : decode cX10_taken 68 = .ok (.aload_n 0, 1) := by decide +kernel
theorem dX10_taken_69 : decode cX10_taken 69 = .ok (.getfield 72, 3) := by decide +kernel
theorem dX10_taken_72 : decode cX10_taken 72 = .ok (.iload_n 3, 1) := by decide +kernel
theorem dX10_taken_73 : decode cX10_taken 73 = .ok (.iload_n 2, 1) := by decide +kernel
theorem dX10_taken_74 : decode cX10_taken 74 = .ok (.invokevirtual 298, 3) := by decide +kernel
theorem dX10_taken_77 : decode cX10_taken 77 = .ok (.ifCond .eq 7, 3) := by decide +kernel
theorem dX10_taken_80 : decode cX10_taken 80 = .ok (.iload_n 3, 1) := by decide +kernel
theorem dX10_taken_81 : decode cX10_taken 81 = .ok (.goto 5, 3) := by decide +kernel
theorem dX10_taken_84 : decode cX10_taken 84 = .ok (.bipush (-12), 2) := by decide +kernel
theorem dX10_taken_86 : decode cX10_taken 86 = .ok (.ireturn, 1) := by decide +kernel
theorem dX10_count_0 : decode cX10_count 0 = .ok (.iload_n 1, 1) := by decide +kernel
theorem dX10_count_1 : decode cX10_count 1 = .ok (.tableswitch 87 0 5 #[39, 47, 55, 63, 71, 79], 39) := by decide +kernel
theorem dX10_count_40 : decode cX10_count 40 = .ok (.aload_n 0, 1) := by decide +kernel
theorem dX10_count_41 : decode cX10_count 41 = .ok (.getfield 21, 3) := by decide +kernel
theorem dX10_count_44 : decode cX10_count 44 = .ok (.getfield 302, 3) := by decide +kernel
theorem dX10_count_47 : decode cX10_count 47 = .ok (.ireturn, 1) := by decide +kernel
theorem dX10_count_48 : decode cX10_count 48 = .ok (.aload_n 0, 1) := by decide +kernel
theorem dX10_count_49 : decode cX10_count 49 = .ok (.getfield 21, 3) := by decide +kernel
theorem dX10_count_52 : decode cX10_count 52 = .ok (.getfield 136, 3) := by decide +kernel
theorem dX10_count_55 : decode cX10_count 55 = .ok (.ireturn, 1) := by decide +kernel
theorem dX10_count_56 : decode cX10_count 56 = .ok (.aload_n 0, 1) := by decide +kernel
theorem dX10_count_57 : decode cX10_count 57 = .ok (.getfield 10, 3) := by decide +kernel
theorem dX10_count_60 : decode cX10_count 60 = .ok (.getfield 305, 3) := by decide +kernel
theorem dX10_count_63 : decode cX10_count 63 = .ok (.ireturn, 1) := by decide +kernel
theorem dX10_count_64 : decode cX10_count 64 = .ok (.aload_n 0, 1) := by decide +kernel
theorem dX10_count_65 : decode cX10_count 65 = .ok (.getfield 30, 3) := by decide +kernel
theorem dX10_count_68 : decode cX10_count 68 = .ok (.getfield 307, 3) := by decide +kernel
theorem dX10_count_71 : decode cX10_count 71 = .ok (.ireturn, 1) := by decide +kernel
theorem dX10_count_72 : decode cX10_count 72 = .ok (.aload_n 0, 1) := by decide +kernel
theorem dX10_count_73 : decode cX10_count 73 = .ok (.getfield 72, 3) := by decide +kernel
theorem dX10_count_76 : decode cX10_count 76 = .ok (.getfield 310, 3) := by decide +kernel
theorem dX10_count_79 : decode cX10_count 79 = .ok (.ireturn, 1) := by decide +kernel
theorem dX10_count_80 : decode cX10_count 80 = .ok (.aload_n 0, 1) := by decide +kernel
theorem dX10_count_81 : decode cX10_count 81 = .ok (.getfield 72, 3) := by decide +kernel
theorem dX10_count_84 : decode cX10_count 84 = .ok (.getfield 313, 3) := by decide +kernel
theorem dX10_count_87 : decode cX10_count 87 = .ok (.ireturn, 1) := by decide +kernel
theorem dX10_count_88 : decode cX10_count 88 = .ok (.iconst (-1), 1) := by decide +kernel
theorem dX10_count_89 : decode cX10_count 89 = .ok (.ireturn, 1) := by decide +kernel
theorem dX10_at_0 : decode cX10_at 0 = .ok (.iload_n 1, 1) := by decide +kernel
theorem dX10_at_1 : decode cX10_at 1 = .ok (.ifCond .lt 15, 3) := by decide +kernel
theorem dX10_at_4 : decode cX10_at 4 = .ok (.iload_n 1, 1) := by decide +kernel
theorem dX10_at_5 : decode cX10_at 5 = .ok (.aload_n 0, 1) := by decide +kernel
theorem dX10_at_6 : decode cX10_at 6 = .ok (.arraylength, 1) := by decide +kernel
theorem dX10_at_7 : decode cX10_at 7 = .ok (.if_icmp .ge 9, 3) := by decide +kernel
theorem dX10_at_10 : decode cX10_at 10 = .ok (.aload_n 0, 1) := by decide +kernel
theorem dX10_at_11 : decode cX10_at 11 = .ok (.iload_n 1, 1) := by decide +kernel
theorem dX10_at_12 : decode cX10_at 12 = .ok (.iaload, 1) := by decide +kernel
theorem dX10_at_13 : decode cX10_at 13 = .ok (.goto 4, 3) := by decide +kernel
theorem dX10_at_16 : decode cX10_at 16 = .ok (.iconst 0, 1) := by decide +kernel
theorem dX10_at_17 : decode cX10_at 17 = .ok (.ireturn, 1) := by decide +kernel
theorem dX10_lay_0 : decode cX10_lay 0 = .ok (.iload_n 1, 1) := by decide +kernel
theorem dX10_lay_1 : decode cX10_lay 1 = .ok (.ifCond .lt 13, 3) := by decide +kernel
theorem dX10_lay_4 : decode cX10_lay 4 = .ok (.iload_n 1, 1) := by decide +kernel
theorem dX10_lay_5 : decode cX10_lay 5 = .ok (.aload_n 0, 1) := by decide +kernel
theorem dX10_lay_6 : decode cX10_lay 6 = .ok (.arraylength, 1) := by decide +kernel
theorem dX10_lay_7 : decode cX10_lay 7 = .ok (.if_icmp .ge 7, 3) := by decide +kernel
theorem dX10_lay_10 : decode cX10_lay 10 = .ok (.aload_n 0, 1) := by decide +kernel
theorem dX10_lay_11 : decode cX10_lay 11 = .ok (.iload_n 1, 1) := by decide +kernel
theorem dX10_lay_12 : decode cX10_lay 12 = .ok (.iload_n 2, 1) := by decide +kernel
theorem dX10_lay_13 : decode cX10_lay 13 = .ok (.iastore, 1) := by decide +kernel
theorem dX10_lay_14 : decode cX10_lay 14 = .ok (.return_, 1) := by decide +kernel
theorem dX10_copy_0 : decode cX10_copy 0 = .ok (.iconst 0, 1) := by decide +kernel
theorem dX10_copy_1 : decode cX10_copy 1 = .ok (.istore_n 3, 1) := by decide +kernel
theorem dX10_copy_2 : decode cX10_copy 2 = .ok (.iload_n 3, 1) := by decide +kernel
theorem dX10_copy_3 : decode cX10_copy 3 = .ok (.iload_n 2, 1) := by decide +kernel
theorem dX10_copy_4 : decode cX10_copy 4 = .ok (.if_icmp .ge 19, 3) := by decide +kernel
theorem dX10_copy_7 : decode cX10_copy 7 = .ok (.aload_n 1, 1) := by decide +kernel
theorem dX10_copy_8 : decode cX10_copy 8 = .ok (.iload_n 3, 1) := by decide +kernel
theorem dX10_copy_9 : decode cX10_copy 9 = .ok (.aload_n 0, 1) := by decide +kernel
theorem dX10_copy_10 : decode cX10_copy 10 = .ok (.iload_n 3, 1) := by decide +kernel
theorem dX10_copy_11 : decode cX10_copy 11 = .ok (.invokestatic 125, 3) := by decide +kernel
theorem dX10_copy_14 : decode cX10_copy 14 = .ok (.invokestatic 316, 3) := by decide +kernel
theorem dX10_copy_17 : decode cX10_copy 17 = .ok (.iinc 3 1, 3) := by decide +kernel
theorem dX10_copy_20 : decode cX10_copy 20 = .ok (.goto (-18), 3) := by decide +kernel
theorem dX10_copy_23 : decode cX10_copy 23 = .ok (.return_, 1) := by decide +kernel
theorem dX10_insert_0 : decode cX10_insert 0 = .ok (.iload_n 1, 1) := by decide +kernel
theorem dX10_insert_1 : decode cX10_insert 1 = .ok (.istore 4, 2) := by decide +kernel
theorem dX10_insert_3 : decode cX10_insert 3 = .ok (.iload 4, 2) := by decide +kernel
theorem dX10_insert_5 : decode cX10_insert 5 = .ok (.iload_n 2, 1) := by decide +kernel
theorem dX10_insert_6 : decode cX10_insert 6 = .ok (.if_icmp .le 23, 3) := by decide +kernel
theorem dX10_insert_9 : decode cX10_insert 9 = .ok (.aload_n 0, 1) := by decide +kernel
theorem dX10_insert_10 : decode cX10_insert 10 = .ok (.iload 4, 2) := by decide +kernel
theorem dX10_insert_12 : decode cX10_insert 12 = .ok (.aload_n 0, 1) := by decide +kernel
theorem dX10_insert_13 : decode cX10_insert 13 = .ok (.iload 4, 2) := by decide +kernel
theorem dX10_insert_15 : decode cX10_insert 15 = .ok (.iconst 1, 1) := by decide +kernel
theorem dX10_insert_16 : decode cX10_insert 16 = .ok (.isub, 1) := by decide +kernel
theorem dX10_insert_17 : decode cX10_insert 17 = .ok (.invokestatic 125, 3) := by decide +kernel
theorem dX10_insert_20 : decode cX10_insert 20 = .ok (.invokestatic 316, 3) := by decide +kernel
theorem dX10_insert_23 : decode cX10_insert 23 = .ok (.iinc 4 (-1), 3) := by decide +kernel
theorem dX10_insert_26 : decode cX10_insert 26 = .ok (.goto (-23), 3) := by decide +kernel
theorem dX10_insert_29 : decode cX10_insert 29 = .ok (.aload_n 0, 1) := by decide +kernel
theorem dX10_insert_30 : decode cX10_insert 30 = .ok (.iload_n 2, 1) := by decide +kernel
theorem dX10_insert_31 : decode cX10_insert 31 = .ok (.iload_n 3, 1) := by decide +kernel
theorem dX10_insert_32 : decode cX10_insert 32 = .ok (.invokestatic 316, 3) := by decide +kernel
theorem dX10_insert_35 : decode cX10_insert 35 = .ok (.return_, 1) := by decide +kernel
theorem dX10_remove_0 : decode cX10_remove 0 = .ok (.iload_n 2, 1) := by decide +kernel
theorem dX10_remove_1 : decode cX10_remove 1 = .ok (.istore_n 3, 1) := by decide +kernel
theorem dX10_remove_2 : decode cX10_remove 2 = .ok (.iload_n 3, 1) := by decide +kernel
theorem dX10_remove_3 : decode cX10_remove 3 = .ok (.iload_n 1, 1) := by decide +kernel
theorem dX10_remove_4 : decode cX10_remove 4 = .ok (.iconst 1, 1) := by decide +kernel
theorem dX10_remove_5 : decode cX10_remove 5 = .ok (.isub, 1) := by decide +kernel
theorem dX10_remove_6 : decode cX10_remove 6 = .ok (.if_icmp .ge 21, 3) := by decide +kernel
theorem dX10_remove_9 : decode cX10_remove 9 = .ok (.aload_n 0, 1) := by decide +kernel
theorem dX10_remove_10 : decode cX10_remove 10 = .ok (.iload_n 3, 1) := by decide +kernel
theorem dX10_remove_11 : decode cX10_remove 11 = .ok (.aload_n 0, 1) := by decide +kernel
theorem dX10_remove_12 : decode cX10_remove 12 = .ok (.iload_n 3, 1) := by decide +kernel
theorem dX10_remove_13 : decode cX10_remove 13 = .ok (.iconst 1, 1) := by decide +kernel
theorem dX10_remove_14 : decode cX10_remove 14 = .ok (.iadd, 1) := by decide +kernel
theorem dX10_remove_15 : decode cX10_remove 15 = .ok (.invokestatic 125, 3) := by decide +kernel
theorem dX10_remove_18 : decode cX10_remove 18 = .ok (.invokestatic 316, 3) := by decide +kernel
theorem dX10_remove_21 : decode cX10_remove 21 = .ok (.iinc 3 1, 3) := by decide +kernel
theorem dX10_remove_24 : decode cX10_remove 24 = .ok (.goto (-22), 3) := by decide +kernel
theorem dX10_remove_27 : decode cX10_remove 27 = .ok (.return_, 1) := by decide +kernel
theorem dX10_exchange_0 : decode cX10_exchange 0 = .ok (.aload_n 0, 1) := by decide +kernel
theorem dX10_exchange_1 : decode cX10_exchange 1 = .ok (.iload_n 1, 1) := by decide +kernel
theorem dX10_exchange_2 : decode cX10_exchange 2 = .ok (.invokestatic 125, 3) := by decide +kernel
theorem dX10_exchange_5 : decode cX10_exchange 5 = .ok (.istore_n 3, 1) := by decide +kernel
theorem dX10_exchange_6 : decode cX10_exchange 6 = .ok (.aload_n 0, 1) := by decide +kernel
theorem dX10_exchange_7 : decode cX10_exchange 7 = .ok (.iload_n 1, 1) := by decide +kernel
theorem dX10_exchange_8 : decode cX10_exchange 8 = .ok (.aload_n 0, 1) := by decide +kernel
theorem dX10_exchange_9 : decode cX10_exchange 9 = .ok (.iload_n 2, 1) := by decide +kernel
theorem dX10_exchange_10 : decode cX10_exchange 10 = .ok (.invokestatic 125, 3) := by decide +kernel
theorem dX10_exchange_13 : decode cX10_exchange 13 = .ok (.invokestatic 316, 3) := by decide +kernel
theorem dX10_exchange_16 : decode cX10_exchange 16 = .ok (.aload_n 0, 1) := by decide +kernel
theorem dX10_exchange_17 : decode cX10_exchange 17 = .ok (.iload_n 2, 1) := by decide +kernel
theorem dX10_exchange_18 : decode cX10_exchange 18 = .ok (.iload_n 3, 1) := by decide +kernel
theorem dX10_exchange_19 : decode cX10_exchange 19 = .ok (.invokestatic 316, 3) := by decide +kernel
theorem dX10_exchange_22 : decode cX10_exchange 22 = .ok (.return_, 1) := by decide +kernel
theorem dX10_reverse_0 : decode cX10_reverse 0 = .ok (.iconst 0, 1) := by decide +kernel
theorem dX10_reverse_1 : decode cX10_reverse 1 = .ok (.istore_n 3, 1) := by decide +kernel
theorem dX10_reverse_2 : decode cX10_reverse 2 = .ok (.iload_n 1, 1) := by decide +kernel
theorem dX10_reverse_3 : decode cX10_reverse 3 = .ok (.iload_n 3, 1) := by decide +kernel
theorem dX10_reverse_4 : decode cX10_reverse 4 = .ok (.iadd, 1) := by decide +kernel
theorem dX10_reverse_5 : decode cX10_reverse 5 = .ok (.iload_n 2, 1) := by decide +kernel
theorem dX10_reverse_6 : decode cX10_reverse 6 = .ok (.iload_n 3, 1) := by decide +kernel
theorem dX10_reverse_7 : decode cX10_reverse 7 = .ok (.isub, 1) := by decide +kernel
theorem dX10_reverse_8 : decode cX10_reverse 8 = .ok (.if_icmp .ge 19, 3) := by decide +kernel
theorem dX10_reverse_11 : decode cX10_reverse 11 = .ok (.aload_n 0, 1) := by decide +kernel
theorem dX10_reverse_12 : decode cX10_reverse 12 = .ok (.iload_n 1, 1) := by decide +kernel
theorem dX10_reverse_13 : decode cX10_reverse 13 = .ok (.iload_n 3, 1) := by decide +kernel
theorem dX10_reverse_14 : decode cX10_reverse 14 = .ok (.iadd, 1) := by decide +kernel
theorem dX10_reverse_15 : decode cX10_reverse 15 = .ok (.iload_n 2, 1) := by decide +kernel
theorem dX10_reverse_16 : decode cX10_reverse 16 = .ok (.iload_n 3, 1) := by decide +kernel
theorem dX10_reverse_17 : decode cX10_reverse 17 = .ok (.isub, 1) := by decide +kernel
theorem dX10_reverse_18 : decode cX10_reverse 18 = .ok (.invokestatic 319, 3) := by decide +kernel
theorem dX10_reverse_21 : decode cX10_reverse 21 = .ok (.iinc 3 1, 3) := by decide +kernel
theorem dX10_reverse_24 : decode cX10_reverse 24 = .ok (.goto (-22), 3) := by decide +kernel
theorem dX10_reverse_27 : decode cX10_reverse 27 = .ok (.return_, 1) := by decide +kernel
theorem dX10_isWeight_0 : decode cX10_isWeight 0 = .ok (.iload_n 0, 1) := by decide +kernel
theorem dX10_isWeight_1 : decode cX10_isWeight 1 = .ok (.iconst 1, 1) := by decide +kernel
theorem dX10_isWeight_2 : decode cX10_isWeight 2 = .ok (.if_icmp .lt 13, 3) := by decide +kernel
theorem dX10_isWeight_5 : decode cX10_isWeight 5 = .ok (.iload_n 0, 1) := by decide +kernel
theorem dX10_isWeight_6 : decode cX10_isWeight 6 = .ok (.bipush 99, 2) := by decide +kernel
theorem dX10_isWeight_8 : decode cX10_isWeight 8 = .ok (.if_icmp .gt 7, 3) := by decide +kernel
theorem dX10_isWeight_11 : decode cX10_isWeight 11 = .ok (.iconst 1, 1) := by decide +kernel
theorem dX10_isWeight_12 : decode cX10_isWeight 12 = .ok (.goto 4, 3) := by decide +kernel
theorem dX10_isWeight_15 : decode cX10_isWeight 15 = .ok (.iconst 0, 1) := by decide +kernel
theorem dX10_isWeight_16 : decode cX10_isWeight 16 = .ok (.ireturn, 1) := by decide +kernel
theorem dX11_init_0 : decode cX11_init 0 = .ok (.aload_n 0, 1) := by decide +kernel
theorem dX11_init_1 : decode cX11_init 1 = .ok (.invokespecial 1, 3) := by decide +kernel
theorem dX11_init_4 : decode cX11_init 4 = .ok (.aload_n 0, 1) := by decide +kernel
theorem dX11_init_5 : decode cX11_init 5 = .ok (.bipush 9, 2) := by decide +kernel
theorem dX11_init_7 : decode cX11_init 7 = .ok (.newarray .int, 2) := by decide +kernel
theorem dX11_init_9 : decode cX11_init 9 = .ok (.putfield 7, 3) := by decide +kernel
theorem dX11_init_12 : decode cX11_init 12 = .ok (.aload_n 0, 1) := by decide +kernel
theorem dX11_init_13 : decode cX11_init 13 = .ok (.bipush 8, 2) := by decide +kernel
theorem dX11_init_15 : decode cX11_init 15 = .ok (.newarray .int, 2) := by decide +kernel
theorem dX11_init_17 : decode cX11_init 17 = .ok (.putfield 13, 3) := by decide +kernel
theorem dX11_init_20 : decode cX11_init 20 = .ok (.aload_n 0, 1) := by decide +kernel
theorem dX11_init_21 : decode cX11_init 21 = .ok (.bipush 40, 2) := by decide +kernel
theorem dX11_init_23 : decode cX11_init 23 = .ok (.newarray .int, 2) := by decide +kernel
theorem dX11_init_25 : decode cX11_init 25 = .ok (.putfield 16, 3) := by decide +kernel
theorem dX11_init_28 : decode cX11_init 28 = .ok (.aload_n 0, 1) := by decide +kernel
theorem dX11_init_29 : decode cX11_init 29 = .ok (.bipush 40, 2) := by decide +kernel
theorem dX11_init_31 : decode cX11_init 31 = .ok (.newarray .int, 2) := by decide +kernel
theorem dX11_init_33 : decode cX11_init 33 = .ok (.putfield 19, 3) := by decide +kernel
theorem dX11_init_36 : decode cX11_init 36 = .ok (.aload_n 0, 1) := by decide +kernel
theorem dX11_init_37 : decode cX11_init 37 = .ok (.bipush 40, 2) := by decide +kernel
theorem dX11_init_39 : decode cX11_init 39 = .ok (.newarray .int, 2) := by decide +kernel
theorem dX11_init_41 : decode cX11_init 41 = .ok (.putfield 22, 3) := by decide +kernel
theorem dX11_init_44 : decode cX11_init 44 = .ok (.aload_n 0, 1) := by decide +kernel
theorem dX11_init_45 : decode cX11_init 45 = .ok (.bipush 40, 2) := by decide +kernel
theorem dX11_init_47 : decode cX11_init 47 = .ok (.newarray .int, 2) := by decide +kernel
theorem dX11_init_49 : decode cX11_init 49 = .ok (.putfield 25, 3) := by decide +kernel
theorem dX11_init_52 : decode cX11_init 52 = .ok (.aload_n 0, 1) := by decide +kernel
theorem dX11_init_53 : decode cX11_init 53 = .ok (.bipush 120, 2) := by decide +kernel
theorem dX11_init_55 : decode cX11_init 55 = .ok (.newarray .byte, 2) := by decide +kernel
theorem dX11_init_57 : decode cX11_init 57 = .ok (.putfield 28, 3) := by decide +kernel
theorem dX11_init_60 : decode cX11_init 60 = .ok (.aload_n 0, 1) := by decide +kernel
theorem dX11_init_61 : decode cX11_init 61 = .ok (.sipush 260, 3) := by decide +kernel
theorem dX11_init_64 : decode cX11_init 64 = .ok (.newarray .byte, 2) := by decide +kernel
theorem dX11_init_66 : decode cX11_init 66 = .ok (.putfield 32, 3) := by decide +kernel
theorem dX11_init_69 : decode cX11_init 69 = .ok (.aload_n 0, 1) := by decide +kernel
theorem dX11_init_70 : decode cX11_init 70 = .ok (.sipush 260, 3) := by decide +kernel
theorem dX11_init_73 : decode cX11_init 73 = .ok (.newarray .int, 2) := by decide +kernel
theorem dX11_init_75 : decode cX11_init 75 = .ok (.putfield 35, 3) := by decide +kernel
theorem dX11_init_78 : decode cX11_init 78 = .ok (.aload_n 0, 1) := by decide +kernel
theorem dX11_init_79 : decode cX11_init 79 = .ok (.iconst 2, 1) := by decide +kernel
theorem dX11_init_80 : decode cX11_init 80 = .ok (.newarray .int, 2) := by decide +kernel
theorem dX11_init_82 : decode cX11_init 82 = .ok (.putfield 38, 3) := by decide +kernel
theorem dX11_init_85 : decode cX11_init 85 = .ok (.aload_n 0, 1) := by decide +kernel
theorem dX11_init_86 : decode cX11_init 86 = .ok (.bipush 122, 2) := by decide +kernel
theorem dX11_init_88 : decode cX11_init 88 = .ok (.newarray .short, 2) := by decide +kernel
theorem dX11_init_90 : decode cX11_init 90 = .ok (.putfield 41, 3) := by decide +kernel
theorem dX11_init_93 : decode cX11_init 93 = .ok (.aload_n 0, 1) := by decide +kernel
theorem dX11_init_94 : decode cX11_init 94 = .ok (.bipush 122, 2) := by decide +kernel
theorem dX11_init_96 : decode cX11_init 96 = .ok (.newarray .short, 2) := by decide +kernel
theorem dX11_init_98 : decode cX11_init 98 = .ok (.putfield 45, 3) := by decide +kernel
theorem dX11_init_101 : decode cX11_init 101 = .ok (.aload_n 0, 1) := by decide +kernel
theorem dX11_init_102 : decode cX11_init 102 = .ok (.bipush 6, 2) := by decide +kernel
theorem dX11_init_104 : decode cX11_init 104 = .ok (.newarray .int, 2) := by decide +kernel
theorem dX11_init_106 : decode cX11_init 106 = .ok (.putfield 48, 3) := by decide +kernel
theorem dX11_init_109 : decode cX11_init 109 = .ok (.aload_n 0, 1) := by decide +kernel
theorem dX11_init_110 : decode cX11_init 110 = .ok (.sipush 130, 3) := by decide +kernel
theorem dX11_init_113 : decode cX11_init 113 = .ok (.newarray .int, 2) := by decide +kernel
theorem dX11_init_115 : decode cX11_init 115 = .ok (.putfield 51, 3) := by decide +kernel
theorem dX11_init_118 : decode cX11_init 118 = .ok (.aload_n 0, 1) := by decide +kernel
theorem dX11_init_119 : decode cX11_init 119 = .ok (.bipush 9, 2) := by decide +kernel
theorem dX11_init_121 : decode cX11_init 121 = .ok (.newarray .int, 2) := by decide +kernel
theorem dX11_init_123 : decode cX11_init 123 = .ok (.putfield 54, 3) := by decide +kernel
theorem dX11_init_126 : decode cX11_init 126 = .ok (.aload_n 0, 1) := by decide +kernel
theorem dX11_init_127 : decode cX11_init 127 = .ok (.bipush 9, 2) := by decide +kernel
theorem dX11_init_129 : decode cX11_init 129 = .ok (.newarray .int, 2) := by decide +kernel
theorem dX11_init_131 : decode cX11_init 131 = .ok (.putfield 57, 3) := by decide +kernel
theorem dX11_init_134 : decode cX11_init 134 = .ok (.aload_n 0, 1) := by decide +kernel
theorem dX11_init_135 : decode cX11_init 135 = .ok (.bipush 8, 2) := by decide +kernel
theorem dX11_init_137 : decode cX11_init 137 = .ok (.newarray .int, 2) := by decide +kernel
theorem dX11_init_139 : decode cX11_init 139 = .ok (.putfield 60, 3) := by decide +kernel
theorem dX11_init_142 : decode cX11_init 142 = .ok (.aload_n 0, 1) := by decide +kernel
theorem dX11_init_143 : decode cX11_init 143 = .ok (.sipush 256, 3) := by decide +kernel
theorem dX11_init_146 : decode cX11_init 146 = .ok (.newarray .int, 2) := by decide +kernel
theorem dX11_init_148 : decode cX11_init 148 = .ok (.putfield 63, 3) := by decide +kernel
theorem dX11_init_151 : decode cX11_init 151 = .ok (.aload_n 0, 1) := by decide +kernel
theorem dX11_init_152 : decode cX11_init 152 = .ok (.sipush 720, 3) := by decide +kernel
theorem dX11_init_155 : decode cX11_init 155 = .ok (.newarray .short, 2) := by decide +kernel
theorem dX11_init_157 : decode cX11_init 157 = .ok (.putfield 66, 3) := by decide +kernel
theorem dX11_init_160 : decode cX11_init 160 = .ok (.aload_n 0, 1) := by decide +kernel
theorem dX11_init_161 : decode cX11_init 161 = .ok (.sipush 720, 3) := by decide +kernel
theorem dX11_init_164 : decode cX11_init 164 = .ok (.newarray .short, 2) := by decide +kernel
theorem dX11_init_166 : decode cX11_init 166 = .ok (.putfield 69, 3) := by decide +kernel
theorem dX11_init_169 : decode cX11_init 169 = .ok (.aload_n 0, 1) := by decide +kernel
theorem dX11_init_170 : decode cX11_init 170 = .ok (.bipush 8, 2) := by decide +kernel
theorem dX11_init_172 : decode cX11_init 172 = .ok (.newarray .int, 2) := by decide +kernel
theorem dX11_init_174 : decode cX11_init 174 = .ok (.putfield 72, 3) := by decide +kernel
theorem dX11_init_177 : decode cX11_init 177 = .ok (.aload_n 0, 1) := by decide +kernel
theorem dX11_init_178 : decode cX11_init 178 = .ok (.bipush 8, 2) := by decide +kernel
theorem dX11_init_180 : decode cX11_init 180 = .ok (.newarray .int, 2) := by decide +kernel
theorem dX11_init_182 : decode cX11_init 182 = .ok (.putfield 75, 3) := by decide +kernel
theorem dX11_init_185 : decode cX11_init 185 = .ok (.aload_n 0, 1) := by decide +kernel
theorem dX11_init_186 : decode cX11_init 186 = .ok (.bipush 50, 2) := by decide +kernel
theorem dX11_init_188 : decode cX11_init 188 = .ok (.newarray .int, 2) := by decide +kernel
theorem dX11_init_190 : decode cX11_init 190 = .ok (.putfield 78, 3) := by decide +kernel
theorem dX11_init_193 : decode cX11_init 193 = .ok (.aload_n 0, 1) := by decide +kernel
theorem dX11_init_194 : decode cX11_init 194 = .ok (.bipush 24, 2) := by decide +kernel
theorem dX11_init_196 : decode cX11_init 196 = .ok (.newarray .int, 2) := by decide +kernel
theorem dX11_init_198 : decode cX11_init 198 = .ok (.putfield 81, 3) := by decide +kernel
theorem dX11_init_201 : decode cX11_init 201 = .ok (.aload_n 0, 1) := by decide +kernel
theorem dX11_init_202 : decode cX11_init 202 = .ok (.bipush 6, 2) := by decide +kernel
theorem dX11_init_204 : decode cX11_init 204 = .ok (.newarray .int, 2) := by decide +kernel
theorem dX11_init_206 : decode cX11_init 206 = .ok (.dup, 1) := by decide +kernel
theorem dX11_init_207 : decode cX11_init 207 = .ok (.iconst 0, 1) := by decide +kernel
theorem dX11_init_208 : decode cX11_init 208 = .ok (.iconst (-1), 1) := by decide +kernel
theorem dX11_init_209 : decode cX11_init 209 = .ok (.iastore, 1) := by decide +kernel
theorem dX11_init_210 : decode cX11_init 210 = .ok (.dup, 1) := by decide +kernel
theorem dX11_init_211 : decode cX11_init 211 = .ok (.iconst 1, 1) := by decide +kernel
theorem dX11_init_212 : decode cX11_init 212 = .ok (.iconst (-1), 1) := by decide +kernel
theorem dX11_init_213 : decode cX11_init 213 = .ok (.iastore, 1) := by decide +kernel
theorem dX11_init_214 : decode cX11_init 214 = .ok (.dup, 1) := by decide +kernel
theorem dX11_init_215 : decode cX11_init 215 = .ok (.iconst 2, 1) := by decide +kernel
theorem dX11_init_216 : decode cX11_init 216 = .ok (.iconst (-1), 1) := by decide +kernel
theorem dX11_init_217 : decode cX11_init 217 = .ok (.iastore, 1) := by decide +kernel
theorem dX11_init_218 : decode cX11_init 218 = .ok (.dup, 1) := by decide +kernel
theorem dX11_init_219 : decode cX11_init 219 = .ok (.iconst 3, 1) := by decide +kernel
theorem dX11_init_220 : decode cX11_init 220 = .ok (.iconst (-1), 1) := by decide +kernel
theorem dX11_init_221 : decode cX11_init 221 = .ok (.iastore, 1) := by decide +kernel
theorem dX11_init_222 : decode cX11_init 222 = .ok (.dup, 1) := by decide +kernel
theorem dX11_init_223 : decode cX11_init 223 = .ok (.iconst 4, 1) := by decide +kernel
theorem dX11_init_224 : decode cX11_init 224 = .ok (.iconst (-1), 1) := by decide +kernel
theorem dX11_init_225 : decode cX11_init 225 = .ok (.iastore, 1) := by decide +kernel
theorem dX11_init_226 : decode cX11_init 226 = .ok (.dup, 1) := by decide +kernel
theorem dX11_init_227 : decode cX11_init 227 = .ok (.iconst 5, 1) := by decide +kernel
theorem dX11_init_228 : decode cX11_init 228 = .ok (.iconst (-1), 1) := by decide +kernel
theorem dX11_init_229 : decode cX11_init 229 = .ok (.iastore, 1) := by decide +kernel
theorem dX11_init_230 : decode cX11_init 230 = .ok (.putfield 84, 3) := by decide +kernel
theorem dX11_init_233 : decode cX11_init 233 = .ok (.aload_n 0, 1) := by decide +kernel
theorem dX11_init_234 : decode cX11_init 234 = .ok (.bipush 6, 2) := by decide +kernel
theorem dX11_init_236 : decode cX11_init 236 = .ok (.newarray .int, 2) := by decide +kernel
theorem dX11_init_238 : decode cX11_init 238 = .ok (.putfield 87, 3) := by decide +kernel
theorem dX11_init_241 : decode cX11_init 241 = .ok (.aload_n 0, 1) := by decide +kernel
theorem dX11_init_242 : decode cX11_init 242 = .ok (.sipush 360, 3) := by decide +kernel
theorem dX11_init_245 : decode cX11_init 245 = .ok (.newarray .long, 2) := by decide +kernel
theorem dX11_init_247 : decode cX11_init 247 = .ok (.putfield 90, 3) := by decide +kernel
theorem dX11_init_250 : decode cX11_init 250 = .ok (.aload_n 0, 1) := by decide +kernel
theorem dX11_init_251 : decode cX11_init 251 = .ok (.bipush 60, 2) := by decide +kernel
theorem dX11_init_253 : decode cX11_init 253 = .ok (.newarray .long, 2) := by decide +kernel
theorem dX11_init_255 : decode cX11_init 255 = .ok (.putfield 94, 3) := by decide +kernel
theorem dX11_init_258 : decode cX11_init 258 = .ok (.return_, 1) := by decide +kernel
theorem dX11_in_0 : decode cX11_in 0 = .ok (.iload_n 0, 1) := by decide +kernel
theorem dX11_in_1 : decode cX11_in 1 = .ok (.iload_n 1, 1) := by decide +kernel
theorem dX11_in_2 : decode cX11_in 2 = .ok (.if_icmp .lt 12, 3) := by decide +kernel
theorem dX11_in_5 : decode cX11_in 5 = .ok (.iload_n 0, 1) := by decide +kernel
theorem dX11_in_6 : decode cX11_in 6 = .ok (.iload_n 2, 1) := by decide +kernel
theorem dX11_in_7 : decode cX11_in 7 = .ok (.if_icmp .gt 7, 3) := by decide +kernel
theorem dX11_in_10 : decode cX11_in 10 = .ok (.iconst 1, 1) := by decide +kernel
theorem dX11_in_11 : decode cX11_in 11 = .ok (.goto 4, 3) := by decide +kernel
theorem dX11_in_14 : decode cX11_in 14 = .ok (.iconst 0, 1) := by decide +kernel
theorem dX11_in_15 : decode cX11_in 15 = .ok (.ireturn, 1) := by decide +kernel
theorem dX11_bitsOf_0 : decode cX11_bitsOf 0 = .ok (.iconst 0, 1) := by decide +kernel
theorem dX11_bitsOf_1 : decode cX11_bitsOf 1 = .ok (.istore_n 1, 1) := by decide +kernel
theorem dX11_bitsOf_2 : decode cX11_bitsOf 2 = .ok (.iload_n 0, 1) := by decide +kernel
theorem dX11_bitsOf_3 : decode cX11_bitsOf 3 = .ok (.istore_n 2, 1) := by decide +kernel
theorem dX11_bitsOf_4 : decode cX11_bitsOf 4 = .ok (.iload_n 2, 1) := by decide +kernel
theorem dX11_bitsOf_5 : decode cX11_bitsOf 5 = .ok (.ifCond .eq 15, 3) := by decide +kernel
theorem dX11_bitsOf_8 : decode cX11_bitsOf 8 = .ok (.iinc 1 1, 3) := by decide +kernel
theorem dX11_bitsOf_11 : decode cX11_bitsOf 11 = .ok (.iload_n 2, 1) := by decide +kernel
theorem dX11_bitsOf_12 : decode cX11_bitsOf 12 = .ok (.iload_n 2, 1) := by decide +kernel
theorem dX11_bitsOf_13 : decode cX11_bitsOf 13 = .ok (.iconst 1, 1) := by decide +kernel
theorem dX11_bitsOf_14 : decode cX11_bitsOf 14 = .ok (.isub, 1) := by decide +kernel
theorem dX11_bitsOf_15 : decode cX11_bitsOf 15 = .ok (.iand, 1) := by decide +kernel
theorem dX11_bitsOf_16 : decode cX11_bitsOf 16 = .ok (.istore_n 2, 1) := by decide +kernel
theorem dX11_bitsOf_17 : decode cX11_bitsOf 17 = .ok (.goto (-13), 3) := by decide +kernel
theorem dX11_bitsOf_20 : decode cX11_bitsOf 20 = .ok (.iload_n 1, 1) := by decide +kernel
theorem dX11_bitsOf_21 : decode cX11_bitsOf 21 = .ok (.ireturn, 1) := by decide +kernel
theorem dX11_isStone_0 : decode cX11_isStone 0 = .ok (.iload_n 1, 1) := by decide +kernel
theorem dX11_isStone_1 : decode cX11_isStone 1 = .ok (.iconst 0, 1) := by decide +kernel
theorem dX11_isStone_2 : decode cX11_isStone 2 = .ok (.aload_n 0, 1) := by decide +kernel
theorem dX11_isStone_3 : decode cX11_isStone 3 = .ok (.getfield 101, 3) := by decide +kernel
theorem dX11_isStone_6 : decode cX11_isStone 6 = .ok (.iconst 1, 1) := by decide +kernel
theorem dX11_isStone_7 : decode cX11_isStone 7 = .ok (.isub, 1) := by decide +kernel
theorem dX11_isStone_8 : decode cX11_isStone 8 = .ok (.invokestatic 104, 3) := by decide +kernel
theorem dX11_isStone_11 : decode cX11_isStone 11 = .ok (.ireturn, 1) := by decide +kernel
theorem dX11_isPlace_0 : decode cX11_isPlace 0 = .ok (.iload_n 1, 1) := by decide +kernel
theorem dX11_isPlace_1 : decode cX11_isPlace 1 = .ok (.iconst 0, 1) := by decide +kernel
theorem dX11_isPlace_2 : decode cX11_isPlace 2 = .ok (.aload_n 0, 1) := by decide +kernel
theorem dX11_isPlace_3 : decode cX11_isPlace 3 = .ok (.getfield 108, 3) := by decide +kernel
theorem dX11_isPlace_6 : decode cX11_isPlace 6 = .ok (.iconst 1, 1) := by decide +kernel
theorem dX11_isPlace_7 : decode cX11_isPlace 7 = .ok (.isub, 1) := by decide +kernel
theorem dX11_isPlace_8 : decode cX11_isPlace 8 = .ok (.invokestatic 104, 3) := by decide +kernel
theorem dX11_isPlace_11 : decode cX11_isPlace 11 = .ok (.ireturn, 1) := by decide +kernel
theorem dX11_isSet_0 : decode cX11_isSet 0 = .ok (.iload_n 1, 1) := by decide +kernel
theorem dX11_isSet_1 : decode cX11_isSet 1 = .ok (.iconst 0, 1) := by decide +kernel
theorem dX11_isSet_2 : decode cX11_isSet 2 = .ok (.iconst 1, 1) := by decide +kernel
theorem dX11_isSet_3 : decode cX11_isSet 3 = .ok (.aload_n 0, 1) := by decide +kernel
theorem dX11_isSet_4 : decode cX11_isSet 4 = .ok (.getfield 101, 3) := by decide +kernel
theorem dX11_isSet_7 : decode cX11_isSet 7 = .ok (.ishl, 1) := by decide +kernel
theorem dX11_isSet_8 : decode cX11_isSet 8 = .ok (.iconst 1, 1) := by decide +kernel
theorem dX11_isSet_9 : decode cX11_isSet 9 = .ok (.isub, 1) := by decide +kernel
theorem dX11_isSet_10 : decode cX11_isSet 10 = .ok (.invokestatic 104, 3) := by decide +kernel
theorem dX11_isSet_13 : decode cX11_isSet 13 = .ok (.ireturn, 1) := by decide +kernel
theorem dX11_placeOf_0 : decode cX11_placeOf 0 = .ok (.iconst 0, 1) := by decide +kernel
theorem dX11_placeOf_1 : decode cX11_placeOf 1 = .ok (.istore_n 2, 1) := by decide +kernel
theorem dX11_placeOf_2 : decode cX11_placeOf 2 = .ok (.iload_n 2, 1) := by decide +kernel
theorem dX11_placeOf_3 : decode cX11_placeOf 3 = .ok (.aload_n 0, 1) := by decide +kernel
theorem dX11_placeOf_4 : decode cX11_placeOf 4 = .ok (.getfield 108, 3) := by decide +kernel
theorem dX11_placeOf_7 : decode cX11_placeOf 7 = .ok (.if_icmp .ge 21, 3) := by decide +kernel
theorem dX11_placeOf_10 : decode cX11_placeOf 10 = .ok (.aload_n 0, 1) := by decide +kernel
theorem dX11_placeOf_11 : decode cX11_placeOf 11 = .ok (.getfield 13, 3) := by decide +kernel
theorem dX11_placeOf_14 : decode cX11_placeOf 14 = .ok (.iload_n 2, 1) := by decide +kernel
theorem dX11_placeOf_15 : decode cX11_placeOf 15 = .ok (.iaload, 1) := by decide +kernel
theorem dX11_placeOf_16 : decode cX11_placeOf 16 = .ok (.iload_n 1, 1) := by decide +kernel
theorem dX11_placeOf_17 : decode cX11_placeOf 17 = .ok (.if_icmp .ne 5, 3) := by decide +kernel
theorem dX11_placeOf_20 : decode cX11_placeOf 20 = .ok (.iload_n 2, 1) := by decide +kernel
theorem dX11_placeOf_21 : decode cX11_placeOf 21 = .ok (.ireturn, 1) := by decide +kernel
theorem dX11_placeOf_22 : decode cX11_placeOf 22 = .ok (.iinc 2 1, 3) := by decide +kernel
theorem dX11_placeOf_25 : decode cX11_placeOf 25 = .ok (.goto (-23), 3) := by decide +kernel
theorem dX11_placeOf_28 : decode cX11_placeOf 28 = .ok (.bipush (-2), 2) := by decide +kernel
theorem dX11_placeOf_30 : decode cX11_placeOf 30 = .ok (.ireturn, 1) := by decide +kernel
theorem dX11_addStone_0 : decode cX11_addStone 0 = .ok (.aload_n 0, 1) := by decide +kernel
theorem dX11_addStone_1 : decode cX11_addStone 1 = .ok (.getfield 7, 3) := by decide +kernel
theorem dX11_addStone_4 : decode cX11_addStone 4 = .ok (.aload_n 0, 1) := by decide +kernel
theorem dX11_addStone_5 : decode cX11_addStone 5 = .ok (.getfield 101, 3) := by decide +kernel
theorem dX11_addStone_8 : decode cX11_addStone 8 = .ok (.iload_n 1, 1) := by decide +kernel
theorem dX11_addStone_9 : decode cX11_addStone 9 = .ok (.iastore, 1) := by decide +kernel
theorem dX11_addStone_10 : decode cX11_addStone 10 = .ok (.aload_n 0, 1) := by decide +kernel
theorem dX11_addStone_11 : decode cX11_addStone 11 = .ok (.dup, 1) := by decide +kernel
theorem dX11_addStone_12 : decode cX11_addStone 12 = .ok (.getfield 101, 3) := by decide +kernel
theorem dX11_addStone_15 : decode cX11_addStone 15 = .ok (.iconst 1, 1) := by decide +kernel
theorem dX11_addStone_16 : decode cX11_addStone 16 = .ok (.iadd, 1) := by decide +kernel
theorem dX11_addStone_17 : decode cX11_addStone 17 = .ok (.putfield 101, 3) := by decide +kernel
theorem dX11_addStone_20 : decode cX11_addStone 20 = .ok (.aload_n 0, 1) := by decide +kernel
theorem dX11_addStone_21 : decode cX11_addStone 21 = .ok (.getfield 101, 3) := by decide +kernel
theorem dX11_addStone_24 : decode cX11_addStone 24 = .ok (.iconst 1, 1) := by decide +kernel
theorem dX11_addStone_25 : decode cX11_addStone 25 = .ok (.isub, 1) := by decide +kernel
theorem dX11_addStone_26 : decode cX11_addStone 26 = .ok (.ireturn, 1) := by decide +kernel
theorem dX11_stone_0 : decode cX11_stone 0 = .ok (.iload_n 1, 1) := by decide +kernel
theorem dX11_stone_1 : decode cX11_stone 1 = .ok (.iconst 1, 1) := by decide +kernel
theorem dX11_stone_2 : decode cX11_stone 2 = .ok (.bipush 99, 2) := by decide +kernel
theorem dX11_stone_4 : decode cX11_stone 4 = .ok (.invokestatic 104, 3) := by decide +kernel
theorem dX11_stone_7 : decode cX11_stone 7 = .ok (.ifCond .ne 5, 3) := by decide +kernel
theorem dX11_stone_10 : decode cX11_stone 10 = .ok (.iconst (-1), 1) := by decide +kernel
theorem dX11_stone_11 : decode cX11_stone 11 = .ok (.ireturn, 1) := by decide +kernel
theorem dX11_stone_12 : decode cX11_stone 12 = .ok (.aload_n 0, 1) := by decide +kernel
theorem dX11_stone_13 : decode cX11_stone 13 = .ok (.getfield 101, 3) := by decide +kernel
theorem dX11_stone_16 : decode cX11_stone 16 = .ok (.bipush 8, 2) := by decide +kernel
theorem dX11_stone_18 : decode cX11_stone 18 = .ok (.if_icmp .ne 8, 3) := by decide +kernel
theorem dX11_stone_21 : decode cX11_stone 21 = .ok (.bipush (-3), 2) := by decide +kernel
theorem dX11_stone_23 : decode cX11_stone 23 = .ok (.goto 8, 3) := by decide +kernel
theorem dX11_stone_26 : decode cX11_stone 26 = .ok (.aload_n 0, 1) := by decide +kernel
theorem dX11_stone_27 : decode cX11_stone 27 = .ok (.iload_n 1, 1) := by decide +kernel
theorem dX11_stone_28 : decode cX11_stone 28 = .ok (.invokevirtual 111, 3) := by decide +kernel
theorem dX11_stone_31 : decode cX11_stone 31 = .ok (.ireturn, 1) := by decide +kernel
theorem dX11_stones_0 : decode cX11_stones 0 = .ok (.iload_n 1, 1) := by decide +kernel
theorem dX11_stones_1 : decode cX11_stones 1 = .ok (.invokestatic 115, 3) := by decide +kernel
theorem dX11_stones_4 : decode cX11_stones 4 = .ok (.ifCond .eq 13, 3) := by decide +kernel
theorem dX11_stones_7 : decode cX11_stones 7 = .ok (.iload_n 3, 1) := by decide +kernel
theorem dX11_stones_8 : decode cX11_stones 8 = .ok (.iconst 1, 1) := by decide +kernel
theorem dX11_stones_9 : decode cX11_stones 9 = .ok (.bipush 8, 2) := by decide +kernel
theorem dX11_stones_11 : decode cX11_stones 11 = .ok (.invokestatic 104, 3) := by decide +kernel
theorem dX11_stones_14 : decode cX11_stones 14 = .ok (.ifCond .ne 5, 3) := by decide +kernel
theorem dX11_stones_17 : decode cX11_stones 17 = .ok (.iconst (-1), 1) := by decide +kernel
theorem dX11_stones_18 : decode cX11_stones 18 = .ok (.ireturn, 1) := by decide +kernel
theorem dX11_stones_19 : decode cX11_stones 19 = .ok (.aload_n 0, 1) := by decide +kernel
theorem dX11_stones_20 : decode cX11_stones 20 = .ok (.getfield 84, 3) := by decide +kernel
theorem dX11_stones_23 : decode cX11_stones 23 = .ok (.iload_n 1, 1) := by decide +kernel
theorem dX11_stones_24 : decode cX11_stones 24 = .ok (.iaload, 1) := by decide +kernel
theorem dX11_stones_25 : decode cX11_stones 25 = .ok (.iconst (-1), 1) := by decide +kernel
theorem dX11_stones_26 : decode cX11_stones 26 = .ok (.if_icmp .eq 17, 3) := by decide +kernel
theorem dX11_stones_29 : decode cX11_stones 29 = .ok (.aload_n 0, 1) := by decide +kernel
theorem dX11_stones_30 : decode cX11_stones 30 = .ok (.getfield 84, 3) := by decide +kernel
theorem dX11_stones_33 : decode cX11_stones 33 = .ok (.iload_n 1, 1) := by decide +kernel
theorem dX11_stones_34 : decode cX11_stones 34 = .ok (.iaload, 1) := by decide +kernel
theorem dX11_stones_35 : decode cX11_stones 35 = .ok (.bipush (-2), 2) := by decide +kernel
theorem dX11_stones_37 : decode cX11_stones 37 = .ok (.if_icmp .eq 6, 3) := by decide +kernel
theorem dX11_stones_40 : decode cX11_stones 40 = .ok (.bipush (-12), 2) := by decide +kernel
theorem dX11_stones_42 : decode cX11_stones 42 = .ok (.ireturn, 1) := by decide +kernel
theorem dX11_stones_43 : decode cX11_stones 43 = .ok (.aload_n 0, 1) := by decide +kernel
theorem dX11_stones_44 : decode cX11_stones 44 = .ok (.getfield 84, 3) := by decide +kernel
theorem dX11_stones_47 : decode cX11_stones 47 = .ok (.iload_n 1, 1) := by decide +kernel
theorem dX11_stones_48 : decode cX11_stones 48 = .ok (.iaload, 1) := by decide +kernel
theorem dX11_stones_49 : decode cX11_stones 49 = .ok (.iconst (-1), 1) := by decide +kernel
theorem dX11_stones_50 : decode cX11_stones 50 = .ok (.if_icmp .ne 5, 3) := by decide +kernel
theorem dX11_stones_53 : decode cX11_stones 53 = .ok (.iconst 0, 1) := by decide +kernel
theorem dX11_stones_54 : decode cX11_stones 54 = .ok (.ireturn, 1) := by decide +kernel
theorem dX11_stones_55 : decode cX11_stones 55 = .ok (.iconst 0, 1) := by decide +kernel
theorem dX11_stones_56 : decode cX11_stones 56 = .ok (.istore 4, 2) := by decide +kernel
theorem dX11_stones_58 : decode cX11_stones 58 = .ok (.iload 4, 2) := by decide +kernel
theorem dX11_stones_60 : decode cX11_stones 60 = .ok (.iload_n 3, 1) := by decide +kernel
theorem dX11_stones_61 : decode cX11_stones 61 = .ok (.if_icmp .ge 86, 3) := by decide +kernel
theorem dX11_stones_64 : decode cX11_stones 64 = .ok (.iload_n 2, 1) := by decide +kernel
theorem dX11_stones_65 : decode cX11_stones 65 = .ok (.i2l, 1) := by decide +kernel
theorem dX11_stones_66 : decode cX11_stones 66 = .ok (.iload 4, 2) := by decide +kernel
theorem dX11_stones_68 : decode cX11_stones 68 = .ok (.i2l, 1) := by decide +kernel
theorem dX11_stones_69 : decode cX11_stones 69 = .ok (.ladd, 1) := by decide +kernel
theorem dX11_stones_70 : decode cX11_stones 70 = .ok (.lstore 5, 2) := by decide +kernel
theorem dX11_stones_72 : decode cX11_stones 72 = .ok (.lload 5, 2) := by decide +kernel
theorem dX11_stones_74 : decode cX11_stones 74 = .ok (.lconst 0, 1) := by decide +kernel
theorem dX11_stones_75 : decode cX11_stones 75 = .ok (.lcmp, 1) := by decide +kernel
theorem dX11_stones_76 : decode cX11_stones 76 = .ok (.ifCond .lt 25, 3) := by decide +kernel
theorem dX11_stones_79 : decode cX11_stones 79 = .ok (.lload 5, 2) := by decide +kernel
theorem dX11_stones_81 : decode cX11_stones 81 = .ok (.aload_n 0, 1) := by decide +kernel
theorem dX11_stones_82 : decode cX11_stones 82 = .ok (.getfield 87, 3) := by decide +kernel
theorem dX11_stones_85 : decode cX11_stones 85 = .ok (.iload_n 1, 1) := by decide +kernel
theorem dX11_stones_86 : decode cX11_stones 86 = .ok (.iaload, 1) := by decide +kernel
theorem dX11_stones_87 : decode cX11_stones 87 = .ok (.i2l, 1) := by decide +kernel
theorem dX11_stones_88 : decode cX11_stones 88 = .ok (.lcmp, 1) := by decide +kernel
theorem dX11_stones_89 : decode cX11_stones 89 = .ok (.ifCond .ge 12, 3) := by decide +kernel
theorem dX11_stones_92 : decode cX11_stones 92 = .ok (.aload_n 0, 1) := by decide +kernel
theorem dX11_stones_93 : decode cX11_stones 93 = .ok (.getfield 101, 3) := by decide +kernel
theorem dX11_stones_96 : decode cX11_stones 96 = .ok (.bipush 8, 2) := by decide +kernel
theorem dX11_stones_98 : decode cX11_stones 98 = .ok (.if_icmp .ne 6, 3) := by decide +kernel
theorem dX11_stones_101 : decode cX11_stones 101 = .ok (.iload 4, 2) := by decide +kernel
theorem dX11_stones_103 : decode cX11_stones 103 = .ok (.ireturn, 1) := by decide +kernel
theorem dX11_stones_104 : decode cX11_stones 104 = .ok (.aload_n 0, 1) := by decide +kernel
theorem dX11_stones_105 : decode cX11_stones 105 = .ok (.getfield 90, 3) := by decide +kernel
theorem dX11_stones_108 : decode cX11_stones 108 = .ok (.bipush 60, 2) := by decide +kernel
theorem dX11_stones_110 : decode cX11_stones 110 = .ok (.iload_n 1, 1) := by decide +kernel
theorem dX11_stones_111 : decode cX11_stones 111 = .ok (.imul, 1) := by decide +kernel
theorem dX11_stones_112 : decode cX11_stones 112 = .ok (.lload 5, 2) := by decide +kernel
theorem dX11_stones_114 : decode cX11_stones 114 = .ok (.l2i, 1) := by decide +kernel
theorem dX11_stones_115 : decode cX11_stones 115 = .ok (.iadd, 1) := by decide +kernel
theorem dX11_stones_116 : decode cX11_stones 116 = .ok (.laload, 1) := by decide +kernel
theorem dX11_stones_117 : decode cX11_stones 117 = .ok (.l2i, 1) := by decide +kernel
theorem dX11_stones_118 : decode cX11_stones 118 = .ok (.istore 7, 2) := by decide +kernel
theorem dX11_stones_120 : decode cX11_stones 120 = .ok (.iload 7, 2) := by decide +kernel
theorem dX11_stones_122 : decode cX11_stones 122 = .ok (.iconst 1, 1) := by decide +kernel
theorem dX11_stones_123 : decode cX11_stones 123 = .ok (.bipush 99, 2) := by decide +kernel
theorem dX11_stones_125 : decode cX11_stones 125 = .ok (.invokestatic 104, 3) := by decide +kernel
theorem dX11_stones_128 : decode cX11_stones 128 = .ok (.ifCond .ne 6, 3) := by decide +kernel
theorem dX11_stones_131 : decode cX11_stones 131 = .ok (.iload 4, 2) := by decide +kernel
theorem dX11_stones_133 : decode cX11_stones 133 = .ok (.ireturn, 1) := by decide +kernel
theorem dX11_stones_134 : decode cX11_stones 134 = .ok (.aload_n 0, 1) := by decide +kernel
theorem dX11_stones_135 : decode cX11_stones 135 = .ok (.iload 7, 2) := by decide +kernel
theorem dX11_stones_137 : decode cX11_stones 137 = .ok (.invokevirtual 111, 3) := by decide +kernel
theorem dX11_stones_140 : decode cX11_stones 140 = .ok (.pop, 1) := by decide +kernel
theorem dX11_stones_141 : decode cX11_stones 141 = .ok (.iinc 4 1, 3) := by decide +kernel
theorem dX11_stones_144 : decode cX11_stones 144 = .ok (.goto (-86), 3) := by decide +kernel
theorem dX11_stones_147 : decode cX11_stones 147 = .ok (.iload_n 3, 1) := by decide +kernel
theorem dX11_stones_148 : decode cX11_stones 148 = .ok (.ireturn, 1) := by decide +kernel
theorem dX11_valueAt_0 : decode cX11_valueAt 0 = .ok (.iload_n 1, 1) := by decide +kernel
theorem dX11_valueAt_1 : decode cX11_valueAt 1 = .ok (.ifCond .ne 12, 3) := by decide +kernel
theorem dX11_valueAt_4 : decode cX11_valueAt 4 = .ok (.aload_n 0, 1) := by decide +kernel
theorem dX11_valueAt_5 : decode cX11_valueAt 5 = .ok (.getfield 7, 3) := by decide +kernel
theorem dX11_valueAt_8 : decode cX11_valueAt 8 = .ok (.iload_n 2, 1) := by decide +kernel
theorem dX11_valueAt_9 : decode cX11_valueAt 9 = .ok (.iaload, 1) := by decide +kernel
theorem dX11_valueAt_10 : decode cX11_valueAt 10 = .ok (.goto 7, 3) := by decide +kernel
theorem dX11_valueAt_13 : decode cX11_valueAt 13 = .ok (.aload_n 0, 1) := by decide +kernel
theorem dX11_valueAt_14 : decode cX11_valueAt 14 = .ok (.getfield 119, 3) := by decide +kernel
theorem dX11_valueAt_17 : decode cX11_valueAt 17 = .ok (.ireturn, 1) := by decide +kernel
theorem dX11_lays_0 : decode cX11_lays 0 = .ok (.iload_n 1, 1) := by decide +kernel
theorem dX11_lays_1 : decode cX11_lays 1 = .ok (.ifCond .ne 13, 3) := by decide +kernel
theorem dX11_lays_4 : decode cX11_lays 4 = .ok (.aload_n 0, 1) := by decide +kernel
theorem dX11_lays_5 : decode cX11_lays 5 = .ok (.getfield 7, 3) := by decide +kernel
theorem dX11_lays_8 : decode cX11_lays 8 = .ok (.iload_n 2, 1) := by decide +kernel
theorem dX11_lays_9 : decode cX11_lays 9 = .ok (.iload_n 3, 1) := by decide +kernel
theorem dX11_lays_10 : decode cX11_lays 10 = .ok (.iastore, 1) := by decide +kernel
theorem dX11_lays_11 : decode cX11_lays 11 = .ok (.goto 8, 3) := by decide +kernel
theorem dX11_lays_14 : decode cX11_lays 14 = .ok (.aload_n 0, 1) := by decide +kernel
theorem dX11_lays_15 : decode cX11_lays 15 = .ok (.iload_n 3, 1) := by decide +kernel
theorem dX11_lays_16 : decode cX11_lays 16 = .ok (.putfield 119, 3) := by decide +kernel
theorem dX11_lays_19 : decode cX11_lays 19 = .ok (.return_, 1) := by decide +kernel
theorem dX11_changes_0 : decode cX11_changes 0 = .ok (.aload_n 0, 1) := by decide +kernel
theorem dX11_changes_1 : decode cX11_changes 1 = .ok (.iload_n 1, 1) := by decide +kernel
theorem dX11_changes_2 : decode cX11_changes 2 = .ok (.iload_n 2, 1) := by decide +kernel
theorem dX11_changes_3 : decode cX11_changes 3 = .ok (.invokevirtual 122, 3) := by decide +kernel
theorem dX11_changes_6 : decode cX11_changes 6 = .ok (.istore 4, 2) := by decide +kernel
theorem dX11_changes_8 : decode cX11_changes 8 = .ok (.iload 4, 2) := by decide +kernel
theorem dX11_changes_10 : decode cX11_changes 10 = .ok (.iload_n 3, 1) := by decide +kernel
theorem dX11_changes_11 : decode cX11_changes 11 = .ok (.if_icmp .ne 6, 3) := by decide +kernel
theorem dX11_changes_14 : decode cX11_changes 14 = .ok (.iload 4, 2) := by decide +kernel
theorem dX11_changes_16 : decode cX11_changes 16 = .ok (.ireturn, 1) := by decide +kernel
theorem dX11_changes_17 : decode cX11_changes 17 = .ok (.aload_n 0, 1) := by decide +kernel
theorem dX11_changes_18 : decode cX11_changes 18 = .ok (.iconst 0, 1) := by decide +kernel
theorem dX11_changes_19 : decode cX11_changes 19 = .ok (.putfield 126, 3) := by decide +kernel
theorem dX11_changes_22 : decode cX11_changes 22 = .ok (.aload_n 0, 1) := by decide +kernel
theorem dX11_changes_23 : decode cX11_changes 23 = .ok (.getfield 129, 3) := by decide +kernel
theorem dX11_changes_26 : decode cX11_changes 26 = .ok (.bipush 40, 2) := by decide +kernel
theorem dX11_changes_28 : decode cX11_changes 28 = .ok (.if_icmp .ne 93, 3) := by decide +kernel
theorem dX11_changes_31 : decode cX11_changes 31 = .ok (.iconst 1, 1) := by decide +kernel
theorem dX11_changes_32 : decode cX11_changes 32 = .ok (.istore 5, 2) := by decide +kernel
theorem dX11_changes_34 : decode cX11_changes 34 = .ok (.iload 5, 2) := by decide +kernel
theorem dX11_changes_36 : decode cX11_changes 36 = .ok (.bipush 40, 2) := by decide +kernel
theorem dX11_changes_38 : decode cX11_changes 38 = .ok (.if_icmp .ge 73, 3) := by decide +kernel
theorem dX11_changes_41 : decode cX11_changes 41 = .ok (.aload_n 0, 1) := by decide +kernel
theorem dX11_changes_42 : decode cX11_changes 42 = .ok (.getfield 16, 3) := by decide +kernel
theorem dX11_changes_45 : decode cX11_changes 45 = .ok (.iload 5, 2) := by decide +kernel
theorem dX11_changes_47 : decode cX11_changes 47 = .ok (.iconst 1, 1) := by decide +kernel
theorem dX11_changes_48 : decode cX11_changes 48 = .ok (.isub, 1) := by decide +kernel
theorem dX11_changes_49 : decode cX11_changes 49 = .ok (.aload_n 0, 1) := by decide +kernel
theorem dX11_changes_50 : decode cX11_changes 50 = .ok (.getfield 16, 3) := by decide +kernel
theorem dX11_changes_53 : decode cX11_changes 53 = .ok (.iload 5, 2) := by decide +kernel
theorem dX11_changes_55 : decode cX11_changes 55 = .ok (.iaload, 1) := by decide +kernel
theorem dX11_changes_56 : decode cX11_changes 56 = .ok (.iastore, 1) := by decide +kernel
theorem dX11_changes_57 : decode cX11_changes 57 = .ok (.aload_n 0, 1) := by decide +kernel
theorem dX11_changes_58 : decode cX11_changes 58 = .ok (.getfield 19, 3) := by decide +kernel
theorem dX11_changes_61 : decode cX11_changes 61 = .ok (.iload 5, 2) := by decide +kernel
theorem dX11_changes_63 : decode cX11_changes 63 = .ok (.iconst 1, 1) := by decide +kernel
theorem dX11_changes_64 : decode cX11_changes 64 = .ok (.isub, 1) := by decide +kernel
theorem dX11_changes_65 : decode cX11_changes 65 = .ok (.aload_n 0, 1) := by decide +kernel
theorem dX11_changes_66 : decode cX11_changes 66 = .ok (.getfield 19, 3) := by decide +kernel
theorem dX11_changes_69 : decode cX11_changes 69 = .ok (.iload 5, 2) := by decide +kernel
theorem dX11_changes_71 : decode cX11_changes 71 = .ok (.iaload, 1) := by decide +kernel
theorem dX11_changes_72 : decode cX11_changes 72 = .ok (.iastore, 1) := by decide +kernel
theorem dX11_changes_73 : decode cX11_changes 73 = .ok (.aload_n 0, 1) := by decide +kernel
theorem dX11_changes_74 : decode cX11_changes 74 = .ok (.getfield 22, 3) := by decide +kernel
theorem dX11_changes_77 : decode cX11_changes 77 = .ok (.iload 5, 2) := by decide +kernel
theorem dX11_changes_79 : decode cX11_changes 79 = .ok (.iconst 1, 1) := by decide +kernel
theorem dX11_changes_80 : decode cX11_changes 80 = .ok (.isub, 1) := by decide +kernel
theorem dX11_changes_81 : decode cX11_changes 81 = .ok (.aload_n 0, 1) := by decide +kernel
theorem dX11_changes_82 : decode cX11_changes 82 = .ok (.getfield 22, 3) := by decide +kernel
theorem dX11_changes_85 : decode cX11_changes 85 = .ok (.iload 5, 2) := by decide +kernel
theorem dX11_changes_87 : decode cX11_changes 87 = .ok (.iaload, 1) := by decide +kernel
theorem dX11_changes_88 : decode cX11_changes 88 = .ok (.iastore, 1) := by decide +kernel
theorem dX11_changes_89 : decode cX11_changes 89 = .ok (.aload_n 0, 1) := by decide +kernel
theorem dX11_changes_90 : decode cX11_changes 90 = .ok (.getfield 25, 3) := by decide +kernel
theorem dX11_changes_93 : decode cX11_changes 93 = .ok (.iload 5, 2) := by decide +kernel
theorem dX11_changes_95 : decode cX11_changes 95 = .ok (.iconst 1, 1) := by decide +kernel
theorem dX11_changes_96 : decode cX11_changes 96 = .ok (.isub, 1) := by decide +kernel
theorem dX11_changes_97 : decode cX11_changes 97 = .ok (.aload_n 0, 1) := by decide +kernel
theorem dX11_changes_98 : decode cX11_changes 98 = .ok (.getfield 25, 3) := by decide +kernel
theorem dX11_changes_101 : decode cX11_changes 101 = .ok (.iload 5, 2) := by decide +kernel
theorem dX11_changes_103 : decode cX11_changes 103 = .ok (.iaload, 1) := by decide +kernel
theorem dX11_changes_104 : decode cX11_changes 104 = .ok (.iastore, 1) := by decide +kernel
theorem dX11_changes_105 : decode cX11_changes 105 = .ok (.iinc 5 1, 3) := by decide +kernel
theorem dX11_changes_108 : decode cX11_changes 108 = .ok (.goto (-74), 3) := by decide +kernel
theorem dX11_changes_111 : decode cX11_changes 111 = .ok (.aload_n 0, 1) := by decide +kernel
theorem dX11_changes_112 : decode cX11_changes 112 = .ok (.dup, 1) := by decide +kernel
theorem dX11_changes_113 : decode cX11_changes 113 = .ok (.getfield 129, 3) := by decide +kernel
theorem dX11_changes_116 : decode cX11_changes 116 = .ok (.iconst 1, 1) := by decide +kernel
theorem dX11_changes_117 : decode cX11_changes 117 = .ok (.isub, 1) := by decide +kernel
theorem dX11_changes_118 : decode cX11_changes 118 = .ok (.putfield 129, 3) := by decide +kernel
theorem dX11_changes_121 : decode cX11_changes 121 = .ok (.aload_n 0, 1) := by decide +kernel
theorem dX11_changes_122 : decode cX11_changes 122 = .ok (.getfield 16, 3) := by decide +kernel
theorem dX11_changes_125 : decode cX11_changes 125 = .ok (.aload_n 0, 1) := by decide +kernel
theorem dX11_changes_126 : decode cX11_changes 126 = .ok (.getfield 129, 3) := by decide +kernel
theorem dX11_changes_129 : decode cX11_changes 129 = .ok (.iload_n 1, 1) := by decide +kernel
theorem dX11_changes_130 : decode cX11_changes 130 = .ok (.iastore, 1) := by decide +kernel
theorem dX11_changes_131 : decode cX11_changes 131 = .ok (.aload_n 0, 1) := by decide +kernel
theorem dX11_changes_132 : decode cX11_changes 132 = .ok (.getfield 19, 3) := by decide +kernel
theorem dX11_changes_135 : decode cX11_changes 135 = .ok (.aload_n 0, 1) := by decide +kernel
theorem dX11_changes_136 : decode cX11_changes 136 = .ok (.getfield 129, 3) := by decide +kernel
theorem dX11_changes_139 : decode cX11_changes 139 = .ok (.iload_n 2, 1) := by decide +kernel
theorem dX11_changes_140 : decode cX11_changes 140 = .ok (.iastore, 1) := by decide +kernel
theorem dX11_changes_141 : decode cX11_changes 141 = .ok (.aload_n 0, 1) := by decide +kernel
theorem dX11_changes_142 : decode cX11_changes 142 = .ok (.getfield 22, 3) := by decide +kernel
theorem dX11_changes_145 : decode cX11_changes 145 = .ok (.aload_n 0, 1) := by decide +kernel
theorem dX11_changes_146 : decode cX11_changes 146 = .ok (.getfield 129, 3) := by decide +kernel
theorem dX11_changes_149 : decode cX11_changes 149 = .ok (.iload 4, 2) := by decide +kernel
theorem dX11_changes_151 : decode cX11_changes 151 = .ok (.iastore, 1) := by decide +kernel
theorem dX11_changes_152 : decode cX11_changes 152 = .ok (.aload_n 0, 1) := by decide +kernel
theorem dX11_changes_153 : decode cX11_changes 153 = .ok (.getfield 25, 3) := by decide +kernel
theorem dX11_changes_156 : decode cX11_changes 156 = .ok (.aload_n 0, 1) := by decide +kernel
theorem dX11_changes_157 : decode cX11_changes 157 = .ok (.getfield 129, 3) := by decide +kernel
theorem dX11_changes_160 : decode cX11_changes 160 = .ok (.iload_n 3, 1) := by decide +kernel
theorem dX11_changes_161 : decode cX11_changes 161 = .ok (.iastore, 1) := by decide +kernel
theorem dX11_changes_162 : decode cX11_changes 162 = .ok (.aload_n 0, 1) := by decide +kernel
theorem dX11_changes_163 : decode cX11_changes 163 = .ok (.dup, 1) := by decide +kernel
theorem dX11_changes_164 : decode cX11_changes 164 = .ok (.getfield 129, 3) := by decide +kernel
theorem dX11_changes_167 : decode cX11_changes 167 = .ok (.iconst 1, 1) := by decide +kernel
theorem dX11_changes_168 : decode cX11_changes 168 = .ok (.iadd, 1) := by decide +kernel
theorem dX11_changes_169 : decode cX11_changes 169 = .ok (.putfield 129, 3) := by decide +kernel
theorem dX11_changes_172 : decode cX11_changes 172 = .ok (.aload_n 0, 1) := by decide +kernel
theorem dX11_changes_173 : decode cX11_changes 173 = .ok (.iload_n 1, 1) := by decide +kernel
theorem dX11_changes_174 : decode cX11_changes 174 = .ok (.iload_n 2, 1) := by decide +kernel
theorem dX11_changes_175 : decode cX11_changes 175 = .ok (.iload_n 3, 1) := by decide +kernel
theorem dX11_changes_176 : decode cX11_changes 176 = .ok (.invokevirtual 132, 3) := by decide +kernel
theorem dX11_changes_179 : decode cX11_changes 179 = .ok (.iload 4, 2) := by decide +kernel
theorem dX11_changes_181 : decode cX11_changes 181 = .ok (.ireturn, 1) := by decide +kernel
theorem dX11_undo_0 : decode cX11_undo 0 = .ok (.aload_n 0, 1) := by decide +kernel
theorem dX11_undo_1 : decode cX11_undo 1 = .ok (.getfield 129, 3) := by decide +kernel
theorem dX11_undo_4 : decode cX11_undo 4 = .ok (.ifCond .ne 6, 3) := by decide +kernel
theorem dX11_undo_7 : decode cX11_undo 7 = .ok (.bipush (-5), 2) := by decide +kernel
theorem dX11_undo_9 : decode cX11_undo 9 = .ok (.ireturn, 1) := by decide +kernel
theorem dX11_undo_10 : decode cX11_undo 10 = .ok (.aload_n 0, 1) := by decide +kernel
theorem dX11_undo_11 : decode cX11_undo 11 = .ok (.dup, 1) := by decide +kernel
theorem dX11_undo_12 : decode cX11_undo 12 = .ok (.getfield 129, 3) := by decide +kernel
theorem dX11_undo_15 : decode cX11_undo 15 = .ok (.iconst 1, 1) := by decide +kernel
theorem dX11_undo_16 : decode cX11_undo 16 = .ok (.isub, 1) := by decide +kernel
theorem dX11_undo_17 : decode cX11_undo 17 = .ok (.putfield 129, 3) := by decide +kernel
theorem dX11_undo_20 : decode cX11_undo 20 = .ok (.aload_n 0, 1) := by decide +kernel
theorem dX11_undo_21 : decode cX11_undo 21 = .ok (.dup, 1) := by decide +kernel
theorem dX11_undo_22 : decode cX11_undo 22 = .ok (.getfield 126, 3) := by decide +kernel
theorem dX11_undo_25 : decode cX11_undo 25 = .ok (.iconst 1, 1) := by decide +kernel
theorem dX11_undo_26 : decode cX11_undo 26 = .ok (.iadd, 1) := by decide +kernel
theorem dX11_undo_27 : decode cX11_undo 27 = .ok (.putfield 126, 3) := by decide +kernel
theorem dX11_undo_30 : decode cX11_undo 30 = .ok (.aload_n 0, 1) := by decide +kernel
theorem dX11_undo_31 : decode cX11_undo 31 = .ok (.aload_n 0, 1) := by decide +kernel
theorem dX11_undo_32 : decode cX11_undo 32 = .ok (.getfield 16, 3) := by decide +kernel
theorem dX11_undo_35 : decode cX11_undo 35 = .ok (.aload_n 0, 1) := by decide +kernel
theorem dX11_undo_36 : decode cX11_undo 36 = .ok (.getfield 129, 3) := by decide +kernel
theorem dX11_undo_39 : decode cX11_undo 39 = .ok (.iaload, 1) := by decide +kernel
theorem dX11_undo_40 : decode cX11_undo 40 = .ok (.aload_n 0, 1) := by decide +kernel
theorem dX11_undo_41 : decode cX11_undo 41 = .ok (.getfield 19, 3) := by decide +kernel
theorem dX11_undo_44 : decode cX11_undo 44 = .ok (.aload_n 0, 1) := by decide +kernel
theorem dX11_undo_45 : decode cX11_undo 45 = .ok (.getfield 129, 3) := by decide +kernel
theorem dX11_undo_48 : decode cX11_undo 48 = .ok (.iaload, 1) := by decide +kernel
theorem dX11_undo_49 : decode cX11_undo 49 = .ok (.aload_n 0, 1) := by decide +kernel
theorem dX11_undo_50 : decode cX11_undo 50 = .ok (.getfield 22, 3) := by decide +kernel
theorem dX11_undo_53 : decode cX11_undo 53 = .ok (.aload_n 0, 1) := by decide +kernel
theorem dX11_undo_54 : decode cX11_undo 54 = .ok (.getfield 129, 3) := by decide +kernel
theorem dX11_undo_57 : decode cX11_undo 57 = .ok (.iaload, 1) := by decide +kernel
theorem dX11_undo_58 : decode cX11_undo 58 = .ok (.invokevirtual 132, 3) := by decide +kernel
theorem dX11_undo_61 : decode cX11_undo 61 = .ok (.aload_n 0, 1) := by decide +kernel
theorem dX11_undo_62 : decode cX11_undo 62 = .ok (.getfield 129, 3) := by decide +kernel
theorem dX11_undo_65 : decode cX11_undo 65 = .ok (.ireturn, 1) := by decide +kernel
theorem dX11_redo_0 : decode cX11_redo 0 = .ok (.aload_n 0, 1) := by decide +kernel
theorem dX11_redo_1 : decode cX11_redo 1 = .ok (.getfield 126, 3) := by decide +kernel
theorem dX11_redo_4 : decode cX11_redo 4 = .ok (.ifCond .ne 6, 3) := by decide +kernel
theorem dX11_redo_7 : decode cX11_redo 7 = .ok (.bipush (-5), 2) := by decide +kernel
theorem dX11_redo_9 : decode cX11_redo 9 = .ok (.ireturn, 1) := by decide +kernel
theorem dX11_redo_10 : decode cX11_redo 10 = .ok (.aload_n 0, 1) := by decide +kernel
theorem dX11_redo_11 : decode cX11_redo 11 = .ok (.aload_n 0, 1) := by decide +kernel
theorem dX11_redo_12 : decode cX11_redo 12 = .ok (.getfield 16, 3) := by decide +kernel
theorem dX11_redo_15 : decode cX11_redo 15 = .ok (.aload_n 0, 1) := by decide +kernel
theorem dX11_redo_16 : decode cX11_redo 16 = .ok (.getfield 129, 3) := by decide +kernel
theorem dX11_redo_19 : decode cX11_redo 19 = .ok (.iaload, 1) := by decide +kernel
theorem dX11_redo_20 : decode cX11_redo 20 = .ok (.aload_n 0, 1) := by decide +kernel
theorem dX11_redo_21 : decode cX11_redo 21 = .ok (.getfield 19, 3) := by decide +kernel
theorem dX11_redo_24 : decode cX11_redo 24 = .ok (.aload_n 0, 1) := by decide +kernel
theorem dX11_redo_25 : decode cX11_redo 25 = .ok (.getfield 129, 3) := by decide +kernel
theorem dX11_redo_28 : decode cX11_redo 28 = .ok (.iaload, 1) := by decide +kernel
theorem dX11_redo_29 : decode cX11_redo 29 = .ok (.aload_n 0, 1) := by decide +kernel
theorem dX11_redo_30 : decode cX11_redo 30 = .ok (.getfield 25, 3) := by decide +kernel
theorem dX11_redo_33 : decode cX11_redo 33 = .ok (.aload_n 0, 1) := by decide +kernel
theorem dX11_redo_34 : decode cX11_redo 34 = .ok (.getfield 129, 3) := by decide +kernel
theorem dX11_redo_37 : decode cX11_redo 37 = .ok (.iaload, 1) := by decide +kernel
theorem dX11_redo_38 : decode cX11_redo 38 = .ok (.invokevirtual 132, 3) := by decide +kernel
theorem dX11_redo_41 : decode cX11_redo 41 = .ok (.aload_n 0, 1) := by decide +kernel
theorem dX11_redo_42 : decode cX11_redo 42 = .ok (.dup, 1) := by decide +kernel
theorem dX11_redo_43 : decode cX11_redo 43 = .ok (.getfield 129, 3) := by decide +kernel
theorem dX11_redo_46 : decode cX11_redo 46 = .ok (.iconst 1, 1) := by decide +kernel
theorem dX11_redo_47 : decode cX11_redo 47 = .ok (.iadd, 1) := by decide +kernel
theorem dX11_redo_48 : decode cX11_redo 48 = .ok (.putfield 129, 3) := by decide +kernel
theorem dX11_redo_51 : decode cX11_redo 51 = .ok (.aload_n 0, 1) := by decide +kernel
theorem dX11_redo_52 : decode cX11_redo 52 = .ok (.dup, 1) := by decide +kernel
theorem dX11_redo_53 : decode cX11_redo 53 = .ok (.getfield 126, 3) := by decide +kernel
theorem dX11_redo_56 : decode cX11_redo 56 = .ok (.iconst 1, 1) := by decide +kernel
theorem dX11_redo_57 : decode cX11_redo 57 = .ok (.isub, 1) := by decide +kernel
theorem dX11_redo_58 : decode cX11_redo 58 = .ok (.putfield 126, 3) := by decide +kernel
theorem dX11_redo_61 : decode cX11_redo 61 = .ok (.aload_n 0, 1) := by decide +kernel
theorem dX11_redo_62 : decode cX11_redo 62 = .ok (.getfield 126, 3) := by decide +kernel
theorem dX11_redo_65 : decode cX11_redo 65 = .ok (.ireturn, 1) := by decide +kernel
theorem dX11_mend_0 : decode cX11_mend 0 = .ok (.iload_n 2, 1) := by decide +kernel
theorem dX11_mend_1 : decode cX11_mend 1 = .ok (.ifCond .ne 33, 3) := by decide +kernel
theorem dX11_mend_4 : decode cX11_mend 4 = .ok (.aload_n 0, 1) := by decide +kernel
theorem dX11_mend_5 : decode cX11_mend 5 = .ok (.iload_n 1, 1) := by decide +kernel
theorem dX11_mend_6 : decode cX11_mend 6 = .ok (.invokevirtual 136, 3) := by decide +kernel
theorem dX11_mend_9 : decode cX11_mend 9 = .ok (.ifCond .eq 23, 3) := by decide +kernel
theorem dX11_mend_12 : decode cX11_mend 12 = .ok (.iload_n 3, 1) := by decide +kernel
theorem dX11_mend_13 : decode cX11_mend 13 = .ok (.iconst 1, 1) := by decide +kernel
theorem dX11_mend_14 : decode cX11_mend 14 = .ok (.bipush 99, 2) := by decide +kernel
theorem dX11_mend_16 : decode cX11_mend 16 = .ok (.invokestatic 104, 3) := by decide +kernel
theorem dX11_mend_19 : decode cX11_mend 19 = .ok (.ifCond .eq 13, 3) := by decide +kernel
theorem dX11_mend_22 : decode cX11_mend 22 = .ok (.aload_n 0, 1) := by decide +kernel
theorem dX11_mend_23 : decode cX11_mend 23 = .ok (.iconst 0, 1) := by decide +kernel
theorem dX11_mend_24 : decode cX11_mend 24 = .ok (.iload_n 1, 1) := by decide +kernel
theorem dX11_mend_25 : decode cX11_mend 25 = .ok (.iload_n 3, 1) := by decide +kernel
theorem dX11_mend_26 : decode cX11_mend 26 = .ok (.invokevirtual 139, 3) := by decide +kernel
theorem dX11_mend_29 : decode cX11_mend 29 = .ok (.goto 4, 3) := by decide +kernel
theorem dX11_mend_32 : decode cX11_mend 32 = .ok (.iconst (-1), 1) := by decide +kernel
theorem dX11_mend_33 : decode cX11_mend 33 = .ok (.ireturn, 1) := by decide +kernel
theorem dX11_mend_34 : decode cX11_mend 34 = .ok (.iload_n 2, 1) := by decide +kernel
theorem dX11_mend_35 : decode cX11_mend 35 = .ok (.iconst 1, 1) := by decide +kernel
theorem dX11_mend_36 : decode cX11_mend 36 = .ok (.if_icmp .ne 26, 3) := by decide +kernel
theorem dX11_mend_39 : decode cX11_mend 39 = .ok (.iload_n 1, 1) := by decide +kernel
theorem dX11_mend_40 : decode cX11_mend 40 = .ok (.ifCond .ne 22, 3) := by decide +kernel
theorem dX11_mend_43 : decode cX11_mend 43 = .ok (.iload_n 3, 1) := by decide +kernel
theorem dX11_mend_44 : decode cX11_mend 44 = .ok (.iconst 0, 1) := by decide +kernel
theorem dX11_mend_45 : decode cX11_mend 45 = .ok (.iconst 1, 1) := by decide +kernel
theorem dX11_mend_46 : decode cX11_mend 46 = .ok (.invokestatic 104, 3) := by decide +kernel
theorem dX11_mend_49 : decode cX11_mend 49 = .ok (.ifCond .eq 13, 3) := by decide +kernel
theorem dX11_mend_52 : decode cX11_mend 52 = .ok (.aload_n 0, 1) := by decide +kernel
theorem dX11_mend_53 : decode cX11_mend 53 = .ok (.iconst 1, 1) := by decide +kernel
theorem dX11_mend_54 : decode cX11_mend 54 = .ok (.iconst 0, 1) := by decide +kernel
theorem dX11_mend_55 : decode cX11_mend 55 = .ok (.iload_n 3, 1) := by decide +kernel
theorem dX11_mend_56 : decode cX11_mend 56 = .ok (.invokevirtual 139, 3) := by decide +kernel
theorem dX11_mend_59 : decode cX11_mend 59 = .ok (.goto 4, 3) := by decide +kernel
theorem dX11_mend_62 : decode cX11_mend 62 = .ok (.iconst (-1), 1) := by decide +kernel
theorem dX11_mend_63 : decode cX11_mend 63 = .ok (.ireturn, 1) := by decide +kernel
theorem dX11_feed_0 : decode cX11_feed 0 = .ok (.iload_n 1, 1) := by decide +kernel
theorem dX11_feed_1 : decode cX11_feed 1 = .ok (.iconst 0, 1) := by decide +kernel
theorem dX11_feed_2 : decode cX11_feed 2 = .ok (.sipush 255, 3) := by decide +kernel
theorem dX11_feed_5 : decode cX11_feed 5 = .ok (.invokestatic 104, 3) := by decide +kernel
theorem dX11_feed_8 : decode cX11_feed 8 = .ok (.ifCond .ne 5, 3) := by decide +kernel
theorem dX11_feed_11 : decode cX11_feed 11 = .ok (.iconst (-1), 1) := by decide +kernel
theorem dX11_feed_12 : decode cX11_feed 12 = .ok (.ireturn, 1) := by decide +kernel
theorem dX11_feed_13 : decode cX11_feed 13 = .ok (.aload_n 0, 1) := by decide +kernel
theorem dX11_feed_14 : decode cX11_feed 14 = .ok (.getfield 143, 3) := by decide +kernel
theorem dX11_feed_17 : decode cX11_feed 17 = .ok (.bipush 120, 2) := by decide +kernel
theorem dX11_feed_19 : decode cX11_feed 19 = .ok (.if_icmp .ne 6, 3) := by decide +kernel
theorem dX11_feed_22 : decode cX11_feed 22 = .ok (.bipush (-3), 2) := by decide +kernel
theorem dX11_feed_24 : decode cX11_feed 24 = .ok (.ireturn, 1) := by decide +kernel
theorem dX11_feed_25 : decode cX11_feed 25 = .ok (.aload_n 0, 1) := by decide +kernel
theorem dX11_feed_26 : decode cX11_feed 26 = .ok (.getfield 28, 3) := by decide +kernel
theorem dX11_feed_29 : decode cX11_feed 29 = .ok (.aload_n 0, 1) := by decide +kernel
theorem dX11_feed_30 : decode cX11_feed 30 = .ok (.getfield 143, 3) := by decide +kernel
theorem dX11_feed_33 : decode cX11_feed 33 = .ok (.iload_n 1, 1) := by decide +kernel
theorem dX11_feed_34 : decode cX11_feed 34 = .ok (.i2b, 1) := by decide +kernel
theorem dX11_feed_35 : decode cX11_feed 35 = .ok (.bastore, 1) := by decide +kernel
theorem dX11_feed_36 : decode cX11_feed 36 = .ok (.aload_n 0, 1) := by decide +kernel
theorem dX11_feed_37 : decode cX11_feed 37 = .ok (.dup, 1) := by decide +kernel
theorem dX11_feed_38 : decode cX11_feed 38 = .ok (.getfield 143, 3) := by decide +kernel
theorem dX11_feed_41 : decode cX11_feed 41 = .ok (.iconst 1, 1) := by decide +kernel
theorem dX11_feed_42 : decode cX11_feed 42 = .ok (.iadd, 1) := by decide +kernel
theorem dX11_feed_43 : decode cX11_feed 43 = .ok (.putfield 143, 3) := by decide +kernel
theorem dX11_feed_46 : decode cX11_feed 46 = .ok (.aload_n 0, 1) := by decide +kernel
theorem dX11_feed_47 : decode cX11_feed 47 = .ok (.getfield 143, 3) := by decide +kernel
theorem dX11_feed_50 : decode cX11_feed 50 = .ok (.ireturn, 1) := by decide +kernel
theorem dX11_look_0 : decode cX11_look 0 = .ok (.aload_n 0, 1) := by decide +kernel
theorem dX11_look_1 : decode cX11_look 1 = .ok (.getfield 146, 3) := by decide +kernel
theorem dX11_look_4 : decode cX11_look 4 = .ok (.aload_n 0, 1) := by decide +kernel
theorem dX11_look_5 : decode cX11_look 5 = .ok (.getfield 143, 3) := by decide +kernel
theorem dX11_look_8 : decode cX11_look 8 = .ok (.if_icmp .ge 15, 3) := by decide +kernel
theorem dX11_look_11 : decode cX11_look 11 = .ok (.aload_n 0, 1) := by decide +kernel
theorem dX11_look_12 : decode cX11_look 12 = .ok (.getfield 28, 3) := by decide +kernel
theorem dX11_look_15 : decode cX11_look 15 = .ok (.aload_n 0, 1) := by decide +kernel
theorem dX11_look_16 : decode cX11_look 16 = .ok (.getfield 146, 3) := by decide +kernel
theorem dX11_look_19 : decode cX11_look 19 = .ok (.baload, 1) := by decide +kernel
theorem dX11_look_20 : decode cX11_look 20 = .ok (.goto 4, 3) := by decide +kernel
theorem dX11_look_23 : decode cX11_look 23 = .ok (.iconst (-1), 1) := by decide +kernel
theorem dX11_look_24 : decode cX11_look 24 = .ok (.ireturn, 1) := by decide +kernel
theorem dX11_faulty_0 : decode cX11_faulty 0 = .ok (.aload_n 0, 1) := by decide +kernel
theorem dX11_faulty_1 : decode cX11_faulty 1 = .ok (.getfield 149, 3) := by decide +kernel
theorem dX11_faulty_4 : decode cX11_faulty 4 = .ok (.ifCond .ge 11, 3) := by decide +kernel
theorem dX11_faulty_7 : decode cX11_faulty 7 = .ok (.aload_n 0, 1) := by decide +kernel
theorem dX11_faulty_8 : decode cX11_faulty 8 = .ok (.aload_n 0, 1) := by decide +kernel
theorem dX11_faulty_9 : decode cX11_faulty 9 = .ok (.getfield 146, 3) := by decide +kernel
theorem dX11_faulty_12 : decode cX11_faulty 12 = .ok (.putfield 149, 3) := by decide +kernel
theorem dX11_faulty_15 : decode cX11_faulty 15 = .ok (.return_, 1) := by decide +kernel
theorem dX11_addStep_0 : decode cX11_addStep 0 = .ok (.aload_n 0, 1) := by decide +kernel
theorem dX11_addStep_1 : decode cX11_addStep 1 = .ok (.getfield 32, 3) := by decide +kernel
theorem dX11_addStep_4 : decode cX11_addStep 4 = .ok (.sipush 130, 3) := by decide +kernel
theorem dX11_addStep_7 : decode cX11_addStep 7 = .ok (.aload_n 0, 1) := by decide +kernel
theorem dX11_addStep_8 : decode cX11_addStep 8 = .ok (.getfield 152, 3) := by decide +kernel
theorem dX11_addStep_11 : decode cX11_addStep 11 = .ok (.iadd, 1) := by decide +kernel
theorem dX11_addStep_12 : decode cX11_addStep 12 = .ok (.iload_n 1, 1) := by decide +kernel
theorem dX11_addStep_13 : decode cX11_addStep 13 = .ok (.i2b, 1) := by decide +kernel
theorem dX11_addStep_14 : decode cX11_addStep 14 = .ok (.bastore, 1) := by decide +kernel
theorem dX11_addStep_15 : decode cX11_addStep 15 = .ok (.aload_n 0, 1) := by decide +kernel
theorem dX11_addStep_16 : decode cX11_addStep 16 = .ok (.getfield 35, 3) := by decide +kernel
theorem dX11_addStep_19 : decode cX11_addStep 19 = .ok (.sipush 130, 3) := by decide +kernel
theorem dX11_addStep_22 : decode cX11_addStep 22 = .ok (.aload_n 0, 1) := by decide +kernel
theorem dX11_addStep_23 : decode cX11_addStep 23 = .ok (.getfield 152, 3) := by decide +kernel
theorem dX11_addStep_26 : decode cX11_addStep 26 = .ok (.iadd, 1) := by decide +kernel
theorem dX11_addStep_27 : decode cX11_addStep 27 = .ok (.iload_n 2, 1) := by decide +kernel
theorem dX11_addStep_28 : decode cX11_addStep 28 = .ok (.iastore, 1) := by decide +kernel
theorem dX11_addStep_29 : decode cX11_addStep 29 = .ok (.aload_n 0, 1) := by decide +kernel
theorem dX11_addStep_30 : decode cX11_addStep 30 = .ok (.dup, 1) := by decide +kernel
theorem dX11_addStep_31 : decode cX11_addStep 31 = .ok (.getfield 152, 3) := by decide +kernel
theorem dX11_addStep_34 : decode cX11_addStep 34 = .ok (.iconst 1, 1) := by decide +kernel
theorem dX11_addStep_35 : decode cX11_addStep 35 = .ok (.iadd, 1) := by decide +kernel
theorem dX11_addStep_36 : decode cX11_addStep 36 = .ok (.putfield 152, 3) := by decide +kernel
theorem dX11_addStep_39 : decode cX11_addStep 39 = .ok (.return_, 1) := by decide +kernel
theorem dX11_nameOf_0 : decode cX11_nameOf 0 = .ok (.iload_n 0, 1) := by decide +kernel
theorem dX11_nameOf_1 : decode cX11_nameOf 1 = .ok (.tableswitch 79 107 119 #[73, 69, 79, 75, 79, 79, 79, 71, 77, 79, 79, 79, 67], 67) := by decide +kernel
theorem dX11_nameOf_68 : decode cX11_nameOf 68 = .ok (.iconst 0, 1) := by decide +kernel
theorem dX11_nameOf_69 : decode cX11_nameOf 69 = .ok (.ireturn, 1) := by decide +kernel
theorem dX11_nameOf_70 : decode cX11_nameOf 70 = .ok (.iconst 1, 1) := by decide +kernel
theorem dX11_nameOf_71 : decode cX11_nameOf 71 = .ok (.ireturn, 1) := by decide +kernel
theorem dX11_nameOf_72 : decode cX11_nameOf 72 = .ok (.iconst 2, 1) := by decide +kernel
theorem dX11_nameOf_73 : decode cX11_nameOf 73 = .ok (.ireturn, 1) := by decide +kernel
theorem dX11_nameOf_74 : decode cX11_nameOf 74 = .ok (.iconst 3, 1) := by decide +kernel
theorem dX11_nameOf_75 : decode cX11_nameOf 75 = .ok (.ireturn, 1) := by decide +kernel
theorem dX11_nameOf_76 : decode cX11_nameOf 76 = .ok (.iconst 4, 1) := by decide +kernel
theorem dX11_nameOf_77 : decode cX11_nameOf 77 = .ok (.ireturn, 1) := by decide +kernel
theorem dX11_nameOf_78 : decode cX11_nameOf 78 = .ok (.iconst 5, 1) := by decide +kernel
theorem dX11_nameOf_79 : decode cX11_nameOf 79 = .ok (.ireturn, 1) := by decide +kernel
theorem dX11_nameOf_80 : decode cX11_nameOf 80 = .ok (.iconst (-1), 1) := by decide +kernel
theorem dX11_nameOf_81 : decode cX11_nameOf 81 = .ok (.ireturn, 1) := by decide +kernel
theorem dX11_opens_0 : decode cX11_opens 0 = .ok (.aload_n 0, 1) := by decide +kernel
theorem dX11_opens_1 : decode cX11_opens 1 = .ok (.getfield 155, 3) := by decide +kernel
theorem dX11_opens_4 : decode cX11_opens 4 = .ok (.bipush 6, 2) := by decide +kernel
theorem dX11_opens_6 : decode cX11_opens 6 = .ok (.if_icmp .ne 9, 3) := by decide +kernel
theorem dX11_opens_9 : decode cX11_opens 9 = .ok (.aload_n 0, 1) := by decide +kernel
theorem dX11_opens_10 : decode cX11_opens 10 = .ok (.invokevirtual 158, 3) := by decide +kernel
theorem dX11_opens_13 : decode cX11_opens 13 = .ok (.iconst 0, 1) := by decide +kernel
theorem dX11_opens_14 : decode cX11_opens 14 = .ok (.ireturn, 1) := by decide +kernel
theorem dX11_opens_15 : decode cX11_opens 15 = .ok (.aload_n 0, 1) := by decide +kernel
theorem dX11_opens_16 : decode cX11_opens 16 = .ok (.dup, 1) := by decide +kernel
theorem dX11_opens_17 : decode cX11_opens 17 = .ok (.getfield 155, 3) := by decide +kernel
theorem dX11_opens_20 : decode cX11_opens 20 = .ok (.iconst 1, 1) := by decide +kernel
theorem dX11_opens_21 : decode cX11_opens 21 = .ok (.iadd, 1) := by decide +kernel
theorem dX11_opens_22 : decode cX11_opens 22 = .ok (.putfield 155, 3) := by decide +kernel
theorem dX11_opens_25 : decode cX11_opens 25 = .ok (.aload_n 0, 1) := by decide +kernel
theorem dX11_opens_26 : decode cX11_opens 26 = .ok (.dup, 1) := by decide +kernel
theorem dX11_opens_27 : decode cX11_opens 27 = .ok (.getfield 146, 3) := by decide +kernel
theorem dX11_opens_30 : decode cX11_opens 30 = .ok (.iconst 1, 1) := by decide +kernel
theorem dX11_opens_31 : decode cX11_opens 31 = .ok (.iadd, 1) := by decide +kernel
theorem dX11_opens_32 : decode cX11_opens 32 = .ok (.putfield 146, 3) := by decide +kernel
theorem dX11_opens_35 : decode cX11_opens 35 = .ok (.iconst 1, 1) := by decide +kernel
theorem dX11_opens_36 : decode cX11_opens 36 = .ok (.ireturn, 1) := by decide +kernel
theorem dX11_figure_0 : decode cX11_figure 0 = .ok (.iconst 0, 1) := by decide +kernel
theorem dX11_figure_1 : decode cX11_figure 1 = .ok (.istore_n 1, 1) := by decide +kernel
theorem dX11_figure_2 : decode cX11_figure 2 = .ok (.iconst 0, 1) := by decide +kernel
theorem dX11_figure_3 : decode cX11_figure 3 = .ok (.istore_n 2, 1) := by decide +kernel
theorem dX11_figure_4 : decode cX11_figure 4 = .ok (.iload_n 2, 1) := by decide +kernel
theorem dX11_figure_5 : decode cX11_figure 5 = .ok (.iconst 4, 1) := by decide +kernel
theorem dX11_figure_6 : decode cX11_figure 6 = .ok (.if_icmp .ge 46, 3) := by decide +kernel
theorem dX11_figure_9 : decode cX11_figure 9 = .ok (.aload_n 0, 1) := by decide +kernel
theorem dX11_figure_10 : decode cX11_figure 10 = .ok (.invokevirtual 161, 3) := by decide +kernel
theorem dX11_figure_13 : decode cX11_figure 13 = .ok (.bipush 48, 2) := by decide +kernel
theorem dX11_figure_15 : decode cX11_figure 15 = .ok (.bipush 57, 2) := by decide +kernel
theorem dX11_figure_17 : decode cX11_figure 17 = .ok (.invokestatic 104, 3) := by decide +kernel
theorem dX11_figure_20 : decode cX11_figure 20 = .ok (.ifCond .eq 32, 3) := by decide +kernel
theorem dX11_figure_23 : decode cX11_figure 23 = .ok (.bipush 10, 2) := by decide +kernel
theorem dX11_figure_25 : decode cX11_figure 25 = .ok (.iload_n 1, 1) := by decide +kernel
theorem dX11_figure_26 : decode cX11_figure 26 = .ok (.imul, 1) := by decide +kernel
theorem dX11_figure_27 : decode cX11_figure 27 = .ok (.aload_n 0, 1) := by decide +kernel
theorem dX11_figure_28 : decode cX11_figure 28 = .ok (.invokevirtual 161, 3) := by decide +kernel
theorem dX11_figure_31 : decode cX11_figure 31 = .ok (.iadd, 1) := by decide +kernel
theorem dX11_figure_32 : decode cX11_figure 32 = .ok (.bipush 48, 2) := by decide +kernel
theorem dX11_figure_34 : decode cX11_figure 34 = .ok (.isub, 1) := by decide +kernel
theorem dX11_figure_35 : decode cX11_figure 35 = .ok (.istore_n 1, 1) := by decide +kernel
theorem dX11_figure_36 : decode cX11_figure 36 = .ok (.iinc 2 1, 3) := by decide +kernel
theorem dX11_figure_39 : decode cX11_figure 39 = .ok (.aload_n 0, 1) := by decide +kernel
theorem dX11_figure_40 : decode cX11_figure 40 = .ok (.dup, 1) := by decide +kernel
theorem dX11_figure_41 : decode cX11_figure 41 = .ok (.getfield 146, 3) := by decide +kernel
theorem dX11_figure_44 : decode cX11_figure 44 = .ok (.iconst 1, 1) := by decide +kernel
theorem dX11_figure_45 : decode cX11_figure 45 = .ok (.iadd, 1) := by decide +kernel
theorem dX11_figure_46 : decode cX11_figure 46 = .ok (.putfield 146, 3) := by decide +kernel
theorem dX11_figure_49 : decode cX11_figure 49 = .ok (.goto (-45), 3) := by decide +kernel
theorem dX11_figure_52 : decode cX11_figure 52 = .ok (.iload_n 2, 1) := by decide +kernel
theorem dX11_figure_53 : decode cX11_figure 53 = .ok (.ifCond .eq 17, 3) := by decide +kernel
theorem dX11_figure_56 : decode cX11_figure 56 = .ok (.aload_n 0, 1) := by decide +kernel
theorem dX11_figure_57 : decode cX11_figure 57 = .ok (.invokevirtual 161, 3) := by decide +kernel
theorem dX11_figure_60 : decode cX11_figure 60 = .ok (.bipush 48, 2) := by decide +kernel
theorem dX11_figure_62 : decode cX11_figure 62 = .ok (.bipush 57, 2) := by decide +kernel
theorem dX11_figure_64 : decode cX11_figure 64 = .ok (.invokestatic 104, 3) := by decide +kernel
theorem dX11_figure_67 : decode cX11_figure 67 = .ok (.ifCond .eq 7, 3) := by decide +kernel
theorem dX11_figure_70 : decode cX11_figure 70 = .ok (.aload_n 0, 1) := by decide +kernel
theorem dX11_figure_71 : decode cX11_figure 71 = .ok (.invokevirtual 158, 3) := by decide +kernel
theorem dX11_figure_74 : decode cX11_figure 74 = .ok (.aload_n 0, 1) := by decide +kernel
theorem dX11_figure_75 : decode cX11_figure 75 = .ok (.iconst 1, 1) := by decide +kernel
theorem dX11_figure_76 : decode cX11_figure 76 = .ok (.iload_n 1, 1) := by decide +kernel
theorem dX11_figure_77 : decode cX11_figure 77 = .ok (.invokevirtual 165, 3) := by decide +kernel
theorem dX11_figure_80 : decode cX11_figure 80 = .ok (.return_, 1) := by decide +kernel
theorem dX11_operand_0 : decode cX11_operand 0 = .ok (.aload_n 0, 1) := by decide +kernel
theorem dX11_operand_1 : decode cX11_operand 1 = .ok (.invokevirtual 161, 3) := by decide +kernel
theorem dX11_operand_4 : decode cX11_operand 4 = .ok (.istore_n 1, 1) := by decide +kernel
theorem dX11_operand_5 : decode cX11_operand 5 = .ok (.iload_n 1, 1) := by decide +kernel
theorem dX11_operand_6 : decode cX11_operand 6 = .ok (.invokestatic 169, 3) := by decide +kernel
theorem dX11_operand_9 : decode cX11_operand 9 = .ok (.ifCond .lt 25, 3) := by decide +kernel
theorem dX11_operand_12 : decode cX11_operand 12 = .ok (.aload_n 0, 1) := by decide +kernel
theorem dX11_operand_13 : decode cX11_operand 13 = .ok (.iconst 2, 1) := by decide +kernel
theorem dX11_operand_14 : decode cX11_operand 14 = .ok (.iload_n 1, 1) := by decide +kernel
theorem dX11_operand_15 : decode cX11_operand 15 = .ok (.invokestatic 169, 3) := by decide +kernel
theorem dX11_operand_18 : decode cX11_operand 18 = .ok (.invokevirtual 165, 3) := by decide +kernel
theorem dX11_operand_21 : decode cX11_operand 21 = .ok (.aload_n 0, 1) := by decide +kernel
theorem dX11_operand_22 : decode cX11_operand 22 = .ok (.dup, 1) := by decide +kernel
theorem dX11_operand_23 : decode cX11_operand 23 = .ok (.getfield 146, 3) := by decide +kernel
theorem dX11_operand_26 : decode cX11_operand 26 = .ok (.iconst 1, 1) := by decide +kernel
theorem dX11_operand_27 : decode cX11_operand 27 = .ok (.iadd, 1) := by decide +kernel
theorem dX11_operand_28 : decode cX11_operand 28 = .ok (.putfield 146, 3) := by decide +kernel
theorem dX11_operand_31 : decode cX11_operand 31 = .ok (.goto 123, 3) := by decide +kernel
theorem dX11_operand_34 : decode cX11_operand 34 = .ok (.iload_n 1, 1) := by decide +kernel
theorem dX11_operand_35 : decode cX11_operand 35 = .ok (.bipush 33, 2) := by decide +kernel
theorem dX11_operand_37 : decode cX11_operand 37 = .ok (.if_icmp .eq 9, 3) := by decide +kernel
theorem dX11_operand_40 : decode cX11_operand 40 = .ok (.iload_n 1, 1) := by decide +kernel
theorem dX11_operand_41 : decode cX11_operand 41 = .ok (.bipush 45, 2) := by decide +kernel
theorem dX11_operand_43 : decode cX11_operand 43 = .ok (.if_icmp .ne 44, 3) := by decide +kernel
theorem dX11_operand_46 : decode cX11_operand 46 = .ok (.aload_n 0, 1) := by decide +kernel
theorem dX11_operand_47 : decode cX11_operand 47 = .ok (.invokevirtual 172, 3) := by decide +kernel
theorem dX11_operand_50 : decode cX11_operand 50 = .ok (.ifCond .ne 4, 3) := by decide +kernel
theorem dX11_operand_53 : decode cX11_operand 53 = .ok (.return_, 1) := by decide +kernel
theorem dX11_operand_54 : decode cX11_operand 54 = .ok (.aload_n 0, 1) := by decide +kernel
theorem dX11_operand_55 : decode cX11_operand 55 = .ok (.invokevirtual 176, 3) := by decide +kernel
theorem dX11_operand_58 : decode cX11_operand 58 = .ok (.aload_n 0, 1) := by decide +kernel
theorem dX11_operand_59 : decode cX11_operand 59 = .ok (.dup, 1) := by decide +kernel
theorem dX11_operand_60 : decode cX11_operand 60 = .ok (.getfield 155, 3) := by decide +kernel
theorem dX11_operand_63 : decode cX11_operand 63 = .ok (.iconst 1, 1) := by decide +kernel
theorem dX11_operand_64 : decode cX11_operand 64 = .ok (.isub, 1) := by decide +kernel
theorem dX11_operand_65 : decode cX11_operand 65 = .ok (.putfield 155, 3) := by decide +kernel
theorem dX11_operand_68 : decode cX11_operand 68 = .ok (.aload_n 0, 1) := by decide +kernel
theorem dX11_operand_69 : decode cX11_operand 69 = .ok (.iload_n 1, 1) := by decide +kernel
theorem dX11_operand_70 : decode cX11_operand 70 = .ok (.bipush 33, 2) := by decide +kernel
theorem dX11_operand_72 : decode cX11_operand 72 = .ok (.if_icmp .ne 7, 3) := by decide +kernel
theorem dX11_operand_75 : decode cX11_operand 75 = .ok (.iconst 3, 1) := by decide +kernel
theorem dX11_operand_76 : decode cX11_operand 76 = .ok (.goto 4, 3) := by decide +kernel
theorem dX11_operand_79 : decode cX11_operand 79 = .ok (.iconst 4, 1) := by decide +kernel
theorem dX11_operand_80 : decode cX11_operand 80 = .ok (.iconst 0, 1) := by decide +kernel
theorem dX11_operand_81 : decode cX11_operand 81 = .ok (.invokevirtual 165, 3) := by decide +kernel
theorem dX11_operand_84 : decode cX11_operand 84 = .ok (.goto 70, 3) := by decide +kernel
theorem dX11_operand_87 : decode cX11_operand 87 = .ok (.iload_n 1, 1) := by decide +kernel
theorem dX11_operand_88 : decode cX11_operand 88 = .ok (.bipush 40, 2) := by decide +kernel
theorem dX11_operand_90 : decode cX11_operand 90 = .ok (.if_icmp .ne 60, 3) := by decide +kernel
theorem dX11_operand_93 : decode cX11_operand 93 = .ok (.aload_n 0, 1) := by decide +kernel
theorem dX11_operand_94 : decode cX11_operand 94 = .ok (.invokevirtual 172, 3) := by decide +kernel
theorem dX11_operand_97 : decode cX11_operand 97 = .ok (.ifCond .ne 4, 3) := by decide +kernel
theorem dX11_operand_100 : decode cX11_operand 100 = .ok (.return_, 1) := by decide +kernel
theorem dX11_operand_101 : decode cX11_operand 101 = .ok (.aload_n 0, 1) := by decide +kernel
theorem dX11_operand_102 : decode cX11_operand 102 = .ok (.invokevirtual 179, 3) := by decide +kernel
theorem dX11_operand_105 : decode cX11_operand 105 = .ok (.aload_n 0, 1) := by decide +kernel
theorem dX11_operand_106 : decode cX11_operand 106 = .ok (.getfield 149, 3) := by decide +kernel
theorem dX11_operand_109 : decode cX11_operand 109 = .ok (.ifCond .lt 4, 3) := by decide +kernel
theorem dX11_operand_112 : decode cX11_operand 112 = .ok (.return_, 1) := by decide +kernel
theorem dX11_operand_113 : decode cX11_operand 113 = .ok (.aload_n 0, 1) := by decide +kernel
theorem dX11_operand_114 : decode cX11_operand 114 = .ok (.invokevirtual 161, 3) := by decide +kernel
theorem dX11_operand_117 : decode cX11_operand 117 = .ok (.bipush 41, 2) := by decide +kernel
theorem dX11_operand_119 : decode cX11_operand 119 = .ok (.if_icmp .eq 8, 3) := by decide +kernel
theorem dX11_operand_122 : decode cX11_operand 122 = .ok (.aload_n 0, 1) := by decide +kernel
theorem dX11_operand_123 : decode cX11_operand 123 = .ok (.invokevirtual 158, 3) := by decide +kernel
theorem dX11_operand_126 : decode cX11_operand 126 = .ok (.return_, 1) := by decide +kernel
theorem dX11_operand_127 : decode cX11_operand 127 = .ok (.aload_n 0, 1) := by decide +kernel
theorem dX11_operand_128 : decode cX11_operand 128 = .ok (.dup, 1) := by decide +kernel
theorem dX11_operand_129 : decode cX11_operand 129 = .ok (.getfield 146, 3) := by decide +kernel
theorem dX11_operand_132 : decode cX11_operand 132 = .ok (.iconst 1, 1) := by decide +kernel
theorem dX11_operand_133 : decode cX11_operand 133 = .ok (.iadd, 1) := by decide +kernel
theorem dX11_operand_134 : decode cX11_operand 134 = .ok (.putfield 146, 3) := by decide +kernel
theorem dX11_operand_137 : decode cX11_operand 137 = .ok (.aload_n 0, 1) := by decide +kernel
theorem dX11_operand_138 : decode cX11_operand 138 = .ok (.dup, 1) := by decide +kernel
theorem dX11_operand_139 : decode cX11_operand 139 = .ok (.getfield 155, 3) := by decide +kernel
theorem dX11_operand_142 : decode cX11_operand 142 = .ok (.iconst 1, 1) := by decide +kernel
theorem dX11_operand_143 : decode cX11_operand 143 = .ok (.isub, 1) := by decide +kernel
theorem dX11_operand_144 : decode cX11_operand 144 = .ok (.putfield 155, 3) := by decide +kernel
theorem dX11_operand_147 : decode cX11_operand 147 = .ok (.goto 7, 3) := by decide +kernel
theorem dX11_operand_150 : decode cX11_operand 150 = .ok (.aload_n 0, 1) := by decide +kernel
theorem dX11_operand_151 : decode cX11_operand 151 = .ok (.invokevirtual 182, 3) := by decide +kernel
theorem dX11_operand_154 : decode cX11_operand 154 = .ok (.return_, 1) := by decide +kernel
theorem dX11_product_0 : decode cX11_product 0 = .ok (.aload_n 0, 1) := by decide +kernel
theorem dX11_product_1 : decode cX11_product 1 = .ok (.invokevirtual 176, 3) := by decide +kernel
theorem dX11_product_4 : decode cX11_product 4 = .ok (.aload_n 0, 1) := by decide +kernel
theorem dX11_product_5 : decode cX11_product 5 = .ok (.getfield 149, 3) := by decide +kernel
theorem dX11_product_8 : decode cX11_product 8 = .ok (.ifCond .ge 58, 3) := by decide +kernel
theorem dX11_product_11 : decode cX11_product 11 = .ok (.aload_n 0, 1) := by decide +kernel
theorem dX11_product_12 : decode cX11_product 12 = .ok (.invokevirtual 161, 3) := by decide +kernel
theorem dX11_product_15 : decode cX11_product 15 = .ok (.bipush 42, 2) := by decide +kernel
theorem dX11_product_17 : decode cX11_product 17 = .ok (.if_icmp .eq 21, 3) := by decide +kernel
theorem dX11_product_20 : decode cX11_product 20 = .ok (.aload_n 0, 1) := by decide +kernel
theorem dX11_product_21 : decode cX11_product 21 = .ok (.invokevirtual 161, 3) := by decide +kernel
theorem dX11_product_24 : decode cX11_product 24 = .ok (.bipush 47, 2) := by decide +kernel
theorem dX11_product_26 : decode cX11_product 26 = .ok (.if_icmp .eq 12, 3) := by decide +kernel
theorem dX11_product_29 : decode cX11_product 29 = .ok (.aload_n 0, 1) := by decide +kernel
theorem dX11_product_30 : decode cX11_product 30 = .ok (.invokevirtual 161, 3) := by decide +kernel
theorem dX11_product_33 : decode cX11_product 33 = .ok (.bipush 37, 2) := by decide +kernel
theorem dX11_product_35 : decode cX11_product 35 = .ok (.if_icmp .ne 31, 3) := by decide +kernel
theorem dX11_product_38 : decode cX11_product 38 = .ok (.aload_n 0, 1) := by decide +kernel
theorem dX11_product_39 : decode cX11_product 39 = .ok (.invokevirtual 161, 3) := by decide +kernel
theorem dX11_product_42 : decode cX11_product 42 = .ok (.istore_n 1, 1) := by decide +kernel
theorem dX11_product_43 : decode cX11_product 43 = .ok (.aload_n 0, 1) := by decide +kernel
theorem dX11_product_44 : decode cX11_product 44 = .ok (.dup, 1) := by decide +kernel
theorem dX11_product_45 : decode cX11_product 45 = .ok (.getfield 146, 3) := by decide +kernel
theorem dX11_product_48 : decode cX11_product 48 = .ok (.iconst 1, 1) := by decide +kernel
theorem dX11_product_49 : decode cX11_product 49 = .ok (.iadd, 1) := by decide +kernel
theorem dX11_product_50 : decode cX11_product 50 = .ok (.putfield 146, 3) := by decide +kernel
theorem dX11_product_53 : decode cX11_product 53 = .ok (.aload_n 0, 1) := by decide +kernel
theorem dX11_product_54 : decode cX11_product 54 = .ok (.invokevirtual 176, 3) := by decide +kernel
theorem dX11_product_57 : decode cX11_product 57 = .ok (.aload_n 0, 1) := by decide +kernel
theorem dX11_product_58 : decode cX11_product 58 = .ok (.iload_n 1, 1) := by decide +kernel
theorem dX11_product_59 : decode cX11_product 59 = .ok (.iconst 0, 1) := by decide +kernel
theorem dX11_product_60 : decode cX11_product 60 = .ok (.invokevirtual 165, 3) := by decide +kernel
theorem dX11_product_63 : decode cX11_product 63 = .ok (.goto (-59), 3) := by decide +kernel
theorem dX11_product_66 : decode cX11_product 66 = .ok (.return_, 1) := by decide +kernel
theorem dX11_sum_0 : decode cX11_sum 0 = .ok (.aload_n 0, 1) := by decide +kernel
theorem dX11_sum_1 : decode cX11_sum 1 = .ok (.invokevirtual 185, 3) := by decide +kernel
theorem dX11_sum_4 : decode cX11_sum 4 = .ok (.aload_n 0, 1) := by decide +kernel
theorem dX11_sum_5 : decode cX11_sum 5 = .ok (.getfield 149, 3) := by decide +kernel
theorem dX11_sum_8 : decode cX11_sum 8 = .ok (.ifCond .ge 49, 3) := by decide +kernel
theorem dX11_sum_11 : decode cX11_sum 11 = .ok (.aload_n 0, 1) := by decide +kernel
theorem dX11_sum_12 : decode cX11_sum 12 = .ok (.invokevirtual 161, 3) := by decide +kernel
theorem dX11_sum_15 : decode cX11_sum 15 = .ok (.bipush 43, 2) := by decide +kernel
theorem dX11_sum_17 : decode cX11_sum 17 = .ok (.if_icmp .eq 12, 3) := by decide +kernel
theorem dX11_sum_20 : decode cX11_sum 20 = .ok (.aload_n 0, 1) := by decide +kernel
theorem dX11_sum_21 : decode cX11_sum 21 = .ok (.invokevirtual 161, 3) := by decide +kernel
theorem dX11_sum_24 : decode cX11_sum 24 = .ok (.bipush 45, 2) := by decide +kernel
theorem dX11_sum_26 : decode cX11_sum 26 = .ok (.if_icmp .ne 31, 3) := by decide +kernel
theorem dX11_sum_29 : decode cX11_sum 29 = .ok (.aload_n 0, 1) := by decide +kernel
theorem dX11_sum_30 : decode cX11_sum 30 = .ok (.invokevirtual 161, 3) := by decide +kernel
theorem dX11_sum_33 : decode cX11_sum 33 = .ok (.istore_n 1, 1) := by decide +kernel
theorem dX11_sum_34 : decode cX11_sum 34 = .ok (.aload_n 0, 1) := by decide +kernel
theorem dX11_sum_35 : decode cX11_sum 35 = .ok (.dup, 1) := by decide +kernel
theorem dX11_sum_36 : decode cX11_sum 36 = .ok (.getfield 146, 3) := by decide +kernel
theorem dX11_sum_39 : decode cX11_sum 39 = .ok (.iconst 1, 1) := by decide +kernel
theorem dX11_sum_40 : decode cX11_sum 40 = .ok (.iadd, 1) := by decide +kernel
theorem dX11_sum_41 : decode cX11_sum 41 = .ok (.putfield 146, 3) := by decide +kernel
theorem dX11_sum_44 : decode cX11_sum 44 = .ok (.aload_n 0, 1) := by decide +kernel
theorem dX11_sum_45 : decode cX11_sum 45 = .ok (.invokevirtual 185, 3) := by decide +kernel
theorem dX11_sum_48 : decode cX11_sum 48 = .ok (.aload_n 0, 1) := by decide +kernel
theorem dX11_sum_49 : decode cX11_sum 49 = .ok (.iload_n 1, 1) := by decide +kernel
theorem dX11_sum_50 : decode cX11_sum 50 = .ok (.iconst 0, 1) := by decide +kernel
theorem dX11_sum_51 : decode cX11_sum 51 = .ok (.invokevirtual 165, 3) := by decide +kernel
theorem dX11_sum_54 : decode cX11_sum 54 = .ok (.goto (-50), 3) := by decide +kernel
theorem dX11_sum_57 : decode cX11_sum 57 = .ok (.return_, 1) := by decide +kernel
theorem dX11_compared_0 : decode cX11_compared 0 = .ok (.aload_n 0, 1) := by decide +kernel
theorem dX11_compared_1 : decode cX11_compared 1 = .ok (.invokevirtual 188, 3) := by decide +kernel
theorem dX11_compared_4 : decode cX11_compared 4 = .ok (.aload_n 0, 1) := by decide +kernel
theorem dX11_compared_5 : decode cX11_compared 5 = .ok (.invokevirtual 161, 3) := by decide +kernel
theorem dX11_compared_8 : decode cX11_compared 8 = .ok (.istore_n 1, 1) := by decide +kernel
theorem dX11_compared_9 : decode cX11_compared 9 = .ok (.aload_n 0, 1) := by decide +kernel
theorem dX11_compared_10 : decode cX11_compared 10 = .ok (.getfield 149, 3) := by decide +kernel
theorem dX11_compared_13 : decode cX11_compared 13 = .ok (.ifCond .ge 21, 3) := by decide +kernel
theorem dX11_compared_16 : decode cX11_compared 16 = .ok (.iload_n 1, 1) := by decide +kernel
theorem dX11_compared_17 : decode cX11_compared 17 = .ok (.bipush 60, 2) := by decide +kernel
theorem dX11_compared_19 : decode cX11_compared 19 = .ok (.if_icmp .eq 16, 3) := by decide +kernel
theorem dX11_compared_22 : decode cX11_compared 22 = .ok (.iload_n 1, 1) := by decide +kernel
theorem dX11_compared_23 : decode cX11_compared 23 = .ok (.bipush 61, 2) := by decide +kernel
theorem dX11_compared_25 : decode cX11_compared 25 = .ok (.if_icmp .eq 10, 3) := by decide +kernel
theorem dX11_compared_28 : decode cX11_compared 28 = .ok (.iload_n 1, 1) := by decide +kernel
theorem dX11_compared_29 : decode cX11_compared 29 = .ok (.bipush 62, 2) := by decide +kernel
theorem dX11_compared_31 : decode cX11_compared 31 = .ok (.if_icmp .eq 4, 3) := by decide +kernel
theorem dX11_compared_34 : decode cX11_compared 34 = .ok (.return_, 1) := by decide +kernel
theorem dX11_compared_35 : decode cX11_compared 35 = .ok (.aload_n 0, 1) := by decide +kernel
theorem dX11_compared_36 : decode cX11_compared 36 = .ok (.dup, 1) := by decide +kernel
theorem dX11_compared_37 : decode cX11_compared 37 = .ok (.getfield 146, 3) := by decide +kernel
theorem dX11_compared_40 : decode cX11_compared 40 = .ok (.iconst 1, 1) := by decide +kernel
theorem dX11_compared_41 : decode cX11_compared 41 = .ok (.iadd, 1) := by decide +kernel
theorem dX11_compared_42 : decode cX11_compared 42 = .ok (.putfield 146, 3) := by decide +kernel
theorem dX11_compared_45 : decode cX11_compared 45 = .ok (.aload_n 0, 1) := by decide +kernel
theorem dX11_compared_46 : decode cX11_compared 46 = .ok (.invokevirtual 188, 3) := by decide +kernel
theorem dX11_compared_49 : decode cX11_compared 49 = .ok (.aload_n 0, 1) := by decide +kernel
theorem dX11_compared_50 : decode cX11_compared 50 = .ok (.iload_n 1, 1) := by decide +kernel
theorem dX11_compared_51 : decode cX11_compared 51 = .ok (.iconst 0, 1) := by decide +kernel
theorem dX11_compared_52 : decode cX11_compared 52 = .ok (.invokevirtual 165, 3) := by decide +kernel
theorem dX11_compared_55 : decode cX11_compared 55 = .ok (.return_, 1) := by decide +kernel
theorem dX11_both_0 : decode cX11_both 0 = .ok (.aload_n 0, 1) := by decide +kernel
theorem dX11_both_1 : decode cX11_both 1 = .ok (.invokevirtual 191, 3) := by decide +kernel
theorem dX11_both_4 : decode cX11_both 4 = .ok (.aload_n 0, 1) := by decide +kernel
theorem dX11_both_5 : decode cX11_both 5 = .ok (.getfield 149, 3) := by decide +kernel
theorem dX11_both_8 : decode cX11_both 8 = .ok (.ifCond .ge 36, 3) := by decide +kernel
theorem dX11_both_11 : decode cX11_both 11 = .ok (.aload_n 0, 1) := by decide +kernel
theorem dX11_both_12 : decode cX11_both 12 = .ok (.invokevirtual 161, 3) := by decide +kernel
