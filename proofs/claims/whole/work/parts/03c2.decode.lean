theorem dX11_both_15 : decode cX11_both 15 = .ok (.bipush 38, 2) := by decide +kernel
theorem dX11_both_17 : decode cX11_both 17 = .ok (.if_icmp .ne 27, 3) := by decide +kernel
theorem dX11_both_20 : decode cX11_both 20 = .ok (.aload_n 0, 1) := by decide +kernel
theorem dX11_both_21 : decode cX11_both 21 = .ok (.dup, 1) := by decide +kernel
theorem dX11_both_22 : decode cX11_both 22 = .ok (.getfield 146, 3) := by decide +kernel
theorem dX11_both_25 : decode cX11_both 25 = .ok (.iconst 1, 1) := by decide +kernel
theorem dX11_both_26 : decode cX11_both 26 = .ok (.iadd, 1) := by decide +kernel
theorem dX11_both_27 : decode cX11_both 27 = .ok (.putfield 146, 3) := by decide +kernel
theorem dX11_both_30 : decode cX11_both 30 = .ok (.aload_n 0, 1) := by decide +kernel
theorem dX11_both_31 : decode cX11_both 31 = .ok (.invokevirtual 191, 3) := by decide +kernel
theorem dX11_both_34 : decode cX11_both 34 = .ok (.aload_n 0, 1) := by decide +kernel
theorem dX11_both_35 : decode cX11_both 35 = .ok (.bipush 38, 2) := by decide +kernel
theorem dX11_both_37 : decode cX11_both 37 = .ok (.iconst 0, 1) := by decide +kernel
theorem dX11_both_38 : decode cX11_both 38 = .ok (.invokevirtual 165, 3) := by decide +kernel
theorem dX11_both_41 : decode cX11_both 41 = .ok (.goto (-37), 3) := by decide +kernel
theorem dX11_both_44 : decode cX11_both 44 = .ok (.return_, 1) := by decide +kernel
theorem dX11_either_0 : decode cX11_either 0 = .ok (.aload_n 0, 1) := by decide +kernel
theorem dX11_either_1 : decode cX11_either 1 = .ok (.invokevirtual 194, 3) := by decide +kernel
theorem dX11_either_4 : decode cX11_either 4 = .ok (.aload_n 0, 1) := by decide +kernel
theorem dX11_either_5 : decode cX11_either 5 = .ok (.getfield 149, 3) := by decide +kernel
theorem dX11_either_8 : decode cX11_either 8 = .ok (.ifCond .ge 36, 3) := by decide +kernel
theorem dX11_either_11 : decode cX11_either 11 = .ok (.aload_n 0, 1) := by decide +kernel
theorem dX11_either_12 : decode cX11_either 12 = .ok (.invokevirtual 161, 3) := by decide +kernel
theorem dX11_either_15 : decode cX11_either 15 = .ok (.bipush 124, 2) := by decide +kernel
theorem dX11_either_17 : decode cX11_either 17 = .ok (.if_icmp .ne 27, 3) := by decide +kernel
theorem dX11_either_20 : decode cX11_either 20 = .ok (.aload_n 0, 1) := by decide +kernel
theorem dX11_either_21 : decode cX11_either 21 = .ok (.dup, 1) := by decide +kernel
theorem dX11_either_22 : decode cX11_either 22 = .ok (.getfield 146, 3) := by decide +kernel
theorem dX11_either_25 : decode cX11_either 25 = .ok (.iconst 1, 1) := by decide +kernel
theorem dX11_either_26 : decode cX11_either 26 = .ok (.iadd, 1) := by decide +kernel
theorem dX11_either_27 : decode cX11_either 27 = .ok (.putfield 146, 3) := by decide +kernel
theorem dX11_either_30 : decode cX11_either 30 = .ok (.aload_n 0, 1) := by decide +kernel
theorem dX11_either_31 : decode cX11_either 31 = .ok (.invokevirtual 194, 3) := by decide +kernel
theorem dX11_either_34 : decode cX11_either 34 = .ok (.aload_n 0, 1) := by decide +kernel
theorem dX11_either_35 : decode cX11_either 35 = .ok (.bipush 124, 2) := by decide +kernel
theorem dX11_either_37 : decode cX11_either 37 = .ok (.iconst 0, 1) := by decide +kernel
theorem dX11_either_38 : decode cX11_either 38 = .ok (.invokevirtual 165, 3) := by decide +kernel
theorem dX11_either_41 : decode cX11_either 41 = .ok (.goto (-37), 3) := by decide +kernel
theorem dX11_either_44 : decode cX11_either 44 = .ok (.return_, 1) := by decide +kernel
theorem dX11_line_0 : decode cX11_line 0 = .ok (.bipush 61, 2) := by decide +kernel
theorem dX11_line_2 : decode cX11_line 2 = .ok (.aload_n 0, 1) := by decide +kernel
theorem dX11_line_3 : decode cX11_line 3 = .ok (.getfield 38, 3) := by decide +kernel
theorem dX11_line_6 : decode cX11_line 6 = .ok (.iconst 1, 1) := by decide +kernel
theorem dX11_line_7 : decode cX11_line 7 = .ok (.iaload, 1) := by decide +kernel
theorem dX11_line_8 : decode cX11_line 8 = .ok (.iadd, 1) := by decide +kernel
theorem dX11_line_9 : decode cX11_line 9 = .ok (.istore_n 1, 1) := by decide +kernel
theorem dX11_line_10 : decode cX11_line 10 = .ok (.aload_n 0, 1) := by decide +kernel
theorem dX11_line_11 : decode cX11_line 11 = .ok (.getfield 41, 3) := by decide +kernel
theorem dX11_line_14 : decode cX11_line 14 = .ok (.iload_n 1, 1) := by decide +kernel
theorem dX11_line_15 : decode cX11_line 15 = .ok (.aload_n 0, 1) := by decide +kernel
theorem dX11_line_16 : decode cX11_line 16 = .ok (.getfield 152, 3) := by decide +kernel
theorem dX11_line_19 : decode cX11_line 19 = .ok (.i2s, 1) := by decide +kernel
theorem dX11_line_20 : decode cX11_line 20 = .ok (.sastore, 1) := by decide +kernel
theorem dX11_line_21 : decode cX11_line 21 = .ok (.aload_n 0, 1) := by decide +kernel
theorem dX11_line_22 : decode cX11_line 22 = .ok (.invokevirtual 179, 3) := by decide +kernel
theorem dX11_line_25 : decode cX11_line 25 = .ok (.aload_n 0, 1) := by decide +kernel
theorem dX11_line_26 : decode cX11_line 26 = .ok (.getfield 149, 3) := by decide +kernel
theorem dX11_line_29 : decode cX11_line 29 = .ok (.ifCond .ge 37, 3) := by decide +kernel
theorem dX11_line_32 : decode cX11_line 32 = .ok (.aload_n 0, 1) := by decide +kernel
theorem dX11_line_33 : decode cX11_line 33 = .ok (.invokevirtual 161, 3) := by decide +kernel
theorem dX11_line_36 : decode cX11_line 36 = .ok (.bipush 63, 2) := by decide +kernel
theorem dX11_line_38 : decode cX11_line 38 = .ok (.if_icmp .ne 28, 3) := by decide +kernel
theorem dX11_line_41 : decode cX11_line 41 = .ok (.aload_n 0, 1) := by decide +kernel
theorem dX11_line_42 : decode cX11_line 42 = .ok (.dup, 1) := by decide +kernel
theorem dX11_line_43 : decode cX11_line 43 = .ok (.getfield 146, 3) := by decide +kernel
theorem dX11_line_46 : decode cX11_line 46 = .ok (.iconst 1, 1) := by decide +kernel
theorem dX11_line_47 : decode cX11_line 47 = .ok (.iadd, 1) := by decide +kernel
theorem dX11_line_48 : decode cX11_line 48 = .ok (.putfield 146, 3) := by decide +kernel
theorem dX11_line_51 : decode cX11_line 51 = .ok (.aload_n 0, 1) := by decide +kernel
theorem dX11_line_52 : decode cX11_line 52 = .ok (.getfield 41, 3) := by decide +kernel
theorem dX11_line_55 : decode cX11_line 55 = .ok (.iload_n 1, 1) := by decide +kernel
theorem dX11_line_56 : decode cX11_line 56 = .ok (.aload_n 0, 1) := by decide +kernel
theorem dX11_line_57 : decode cX11_line 57 = .ok (.getfield 152, 3) := by decide +kernel
theorem dX11_line_60 : decode cX11_line 60 = .ok (.i2s, 1) := by decide +kernel
theorem dX11_line_61 : decode cX11_line 61 = .ok (.sastore, 1) := by decide +kernel
theorem dX11_line_62 : decode cX11_line 62 = .ok (.aload_n 0, 1) := by decide +kernel
theorem dX11_line_63 : decode cX11_line 63 = .ok (.invokevirtual 179, 3) := by decide +kernel
theorem dX11_line_66 : decode cX11_line 66 = .ok (.aload_n 0, 1) := by decide +kernel
theorem dX11_line_67 : decode cX11_line 67 = .ok (.getfield 45, 3) := by decide +kernel
theorem dX11_line_70 : decode cX11_line 70 = .ok (.iload_n 1, 1) := by decide +kernel
theorem dX11_line_71 : decode cX11_line 71 = .ok (.aload_n 0, 1) := by decide +kernel
theorem dX11_line_72 : decode cX11_line 72 = .ok (.getfield 152, 3) := by decide +kernel
theorem dX11_line_75 : decode cX11_line 75 = .ok (.i2s, 1) := by decide +kernel
theorem dX11_line_76 : decode cX11_line 76 = .ok (.sastore, 1) := by decide +kernel
theorem dX11_line_77 : decode cX11_line 77 = .ok (.aload_n 0, 1) := by decide +kernel
theorem dX11_line_78 : decode cX11_line 78 = .ok (.getfield 38, 3) := by decide +kernel
theorem dX11_line_81 : decode cX11_line 81 = .ok (.iconst 1, 1) := by decide +kernel
theorem dX11_line_82 : decode cX11_line 82 = .ok (.dup2, 1) := by decide +kernel
theorem dX11_line_83 : decode cX11_line 83 = .ok (.iaload, 1) := by decide +kernel
theorem dX11_line_84 : decode cX11_line 84 = .ok (.iconst 1, 1) := by decide +kernel
theorem dX11_line_85 : decode cX11_line 85 = .ok (.iadd, 1) := by decide +kernel
theorem dX11_line_86 : decode cX11_line 86 = .ok (.iastore, 1) := by decide +kernel
theorem dX11_line_87 : decode cX11_line 87 = .ok (.return_, 1) := by decide +kernel
theorem dX11_readText_0 : decode cX11_readText 0 = .ok (.aload_n 0, 1) := by decide +kernel
theorem dX11_readText_1 : decode cX11_readText 1 = .ok (.iconst 0, 1) := by decide +kernel
theorem dX11_readText_2 : decode cX11_readText 2 = .ok (.putfield 146, 3) := by decide +kernel
theorem dX11_readText_5 : decode cX11_readText 5 = .ok (.aload_n 0, 1) := by decide +kernel
theorem dX11_readText_6 : decode cX11_readText 6 = .ok (.iconst (-1), 1) := by decide +kernel
theorem dX11_readText_7 : decode cX11_readText 7 = .ok (.putfield 149, 3) := by decide +kernel
theorem dX11_readText_10 : decode cX11_readText 10 = .ok (.aload_n 0, 1) := by decide +kernel
theorem dX11_readText_11 : decode cX11_readText 11 = .ok (.iconst 0, 1) := by decide +kernel
theorem dX11_readText_12 : decode cX11_readText 12 = .ok (.putfield 155, 3) := by decide +kernel
theorem dX11_readText_15 : decode cX11_readText 15 = .ok (.aload_n 0, 1) := by decide +kernel
theorem dX11_readText_16 : decode cX11_readText 16 = .ok (.iconst 0, 1) := by decide +kernel
theorem dX11_readText_17 : decode cX11_readText 17 = .ok (.putfield 152, 3) := by decide +kernel
theorem dX11_readText_20 : decode cX11_readText 20 = .ok (.aload_n 0, 1) := by decide +kernel
theorem dX11_readText_21 : decode cX11_readText 21 = .ok (.getfield 38, 3) := by decide +kernel
theorem dX11_readText_24 : decode cX11_readText 24 = .ok (.iconst 1, 1) := by decide +kernel
theorem dX11_readText_25 : decode cX11_readText 25 = .ok (.iconst 0, 1) := by decide +kernel
theorem dX11_readText_26 : decode cX11_readText 26 = .ok (.iastore, 1) := by decide +kernel
theorem dX11_readText_27 : decode cX11_readText 27 = .ok (.aload_n 0, 1) := by decide +kernel
theorem dX11_readText_28 : decode cX11_readText 28 = .ok (.invokevirtual 197, 3) := by decide +kernel
theorem dX11_readText_31 : decode cX11_readText 31 = .ok (.aload_n 0, 1) := by decide +kernel
theorem dX11_readText_32 : decode cX11_readText 32 = .ok (.getfield 149, 3) := by decide +kernel
theorem dX11_readText_35 : decode cX11_readText 35 = .ok (.ifCond .ge 29, 3) := by decide +kernel
theorem dX11_readText_38 : decode cX11_readText 38 = .ok (.aload_n 0, 1) := by decide +kernel
theorem dX11_readText_39 : decode cX11_readText 39 = .ok (.invokevirtual 161, 3) := by decide +kernel
theorem dX11_readText_42 : decode cX11_readText 42 = .ok (.bipush 59, 2) := by decide +kernel
theorem dX11_readText_44 : decode cX11_readText 44 = .ok (.if_icmp .ne 20, 3) := by decide +kernel
theorem dX11_readText_47 : decode cX11_readText 47 = .ok (.aload_n 0, 1) := by decide +kernel
theorem dX11_readText_48 : decode cX11_readText 48 = .ok (.dup, 1) := by decide +kernel
theorem dX11_readText_49 : decode cX11_readText 49 = .ok (.getfield 146, 3) := by decide +kernel
theorem dX11_readText_52 : decode cX11_readText 52 = .ok (.iconst 1, 1) := by decide +kernel
theorem dX11_readText_53 : decode cX11_readText 53 = .ok (.iadd, 1) := by decide +kernel
theorem dX11_readText_54 : decode cX11_readText 54 = .ok (.putfield 146, 3) := by decide +kernel
theorem dX11_readText_57 : decode cX11_readText 57 = .ok (.aload_n 0, 1) := by decide +kernel
theorem dX11_readText_58 : decode cX11_readText 58 = .ok (.invokevirtual 197, 3) := by decide +kernel
theorem dX11_readText_61 : decode cX11_readText 61 = .ok (.goto (-30), 3) := by decide +kernel
theorem dX11_readText_64 : decode cX11_readText 64 = .ok (.aload_n 0, 1) := by decide +kernel
theorem dX11_readText_65 : decode cX11_readText 65 = .ok (.getfield 149, 3) := by decide +kernel
theorem dX11_readText_68 : decode cX11_readText 68 = .ok (.ifCond .ge 18, 3) := by decide +kernel
theorem dX11_readText_71 : decode cX11_readText 71 = .ok (.aload_n 0, 1) := by decide +kernel
theorem dX11_readText_72 : decode cX11_readText 72 = .ok (.getfield 146, 3) := by decide +kernel
theorem dX11_readText_75 : decode cX11_readText 75 = .ok (.aload_n 0, 1) := by decide +kernel
theorem dX11_readText_76 : decode cX11_readText 76 = .ok (.getfield 143, 3) := by decide +kernel
theorem dX11_readText_79 : decode cX11_readText 79 = .ok (.if_icmp .ge 7, 3) := by decide +kernel
theorem dX11_readText_82 : decode cX11_readText 82 = .ok (.aload_n 0, 1) := by decide +kernel
theorem dX11_readText_83 : decode cX11_readText 83 = .ok (.invokevirtual 158, 3) := by decide +kernel
theorem dX11_readText_86 : decode cX11_readText 86 = .ok (.aload_n 0, 1) := by decide +kernel
theorem dX11_readText_87 : decode cX11_readText 87 = .ok (.iconst 0, 1) := by decide +kernel
theorem dX11_readText_88 : decode cX11_readText 88 = .ok (.putfield 143, 3) := by decide +kernel
theorem dX11_readText_91 : decode cX11_readText 91 = .ok (.aload_n 0, 1) := by decide +kernel
theorem dX11_readText_92 : decode cX11_readText 92 = .ok (.getfield 149, 3) := by decide +kernel
theorem dX11_readText_95 : decode cX11_readText 95 = .ok (.ifCond .lt 8, 3) := by decide +kernel
theorem dX11_readText_98 : decode cX11_readText 98 = .ok (.aload_n 0, 1) := by decide +kernel
theorem dX11_readText_99 : decode cX11_readText 99 = .ok (.getfield 149, 3) := by decide +kernel
theorem dX11_readText_102 : decode cX11_readText 102 = .ok (.ireturn, 1) := by decide +kernel
theorem dX11_readText_103 : decode cX11_readText 103 = .ok (.iconst 0, 1) := by decide +kernel
theorem dX11_readText_104 : decode cX11_readText 104 = .ok (.istore_n 2, 1) := by decide +kernel
theorem dX11_readText_105 : decode cX11_readText 105 = .ok (.iload_n 2, 1) := by decide +kernel
theorem dX11_readText_106 : decode cX11_readText 106 = .ok (.aload_n 0, 1) := by decide +kernel
theorem dX11_readText_107 : decode cX11_readText 107 = .ok (.getfield 152, 3) := by decide +kernel
theorem dX11_readText_110 : decode cX11_readText 110 = .ok (.if_icmp .ge 53, 3) := by decide +kernel
theorem dX11_readText_113 : decode cX11_readText 113 = .ok (.aload_n 0, 1) := by decide +kernel
theorem dX11_readText_114 : decode cX11_readText 114 = .ok (.getfield 32, 3) := by decide +kernel
theorem dX11_readText_117 : decode cX11_readText 117 = .ok (.sipush 130, 3) := by decide +kernel
theorem dX11_readText_120 : decode cX11_readText 120 = .ok (.iload_n 1, 1) := by decide +kernel
theorem dX11_readText_121 : decode cX11_readText 121 = .ok (.imul, 1) := by decide +kernel
theorem dX11_readText_122 : decode cX11_readText 122 = .ok (.iload_n 2, 1) := by decide +kernel
theorem dX11_readText_123 : decode cX11_readText 123 = .ok (.iadd, 1) := by decide +kernel
theorem dX11_readText_124 : decode cX11_readText 124 = .ok (.aload_n 0, 1) := by decide +kernel
theorem dX11_readText_125 : decode cX11_readText 125 = .ok (.getfield 32, 3) := by decide +kernel
theorem dX11_readText_128 : decode cX11_readText 128 = .ok (.sipush 130, 3) := by decide +kernel
theorem dX11_readText_131 : decode cX11_readText 131 = .ok (.iload_n 2, 1) := by decide +kernel
theorem dX11_readText_132 : decode cX11_readText 132 = .ok (.iadd, 1) := by decide +kernel
theorem dX11_readText_133 : decode cX11_readText 133 = .ok (.baload, 1) := by decide +kernel
theorem dX11_readText_134 : decode cX11_readText 134 = .ok (.bastore, 1) := by decide +kernel
theorem dX11_readText_135 : decode cX11_readText 135 = .ok (.aload_n 0, 1) := by decide +kernel
theorem dX11_readText_136 : decode cX11_readText 136 = .ok (.getfield 35, 3) := by decide +kernel
theorem dX11_readText_139 : decode cX11_readText 139 = .ok (.sipush 130, 3) := by decide +kernel
theorem dX11_readText_142 : decode cX11_readText 142 = .ok (.iload_n 1, 1) := by decide +kernel
theorem dX11_readText_143 : decode cX11_readText 143 = .ok (.imul, 1) := by decide +kernel
theorem dX11_readText_144 : decode cX11_readText 144 = .ok (.iload_n 2, 1) := by decide +kernel
theorem dX11_readText_145 : decode cX11_readText 145 = .ok (.iadd, 1) := by decide +kernel
theorem dX11_readText_146 : decode cX11_readText 146 = .ok (.aload_n 0, 1) := by decide +kernel
theorem dX11_readText_147 : decode cX11_readText 147 = .ok (.getfield 35, 3) := by decide +kernel
theorem dX11_readText_150 : decode cX11_readText 150 = .ok (.sipush 130, 3) := by decide +kernel
theorem dX11_readText_153 : decode cX11_readText 153 = .ok (.iload_n 2, 1) := by decide +kernel
theorem dX11_readText_154 : decode cX11_readText 154 = .ok (.iadd, 1) := by decide +kernel
theorem dX11_readText_155 : decode cX11_readText 155 = .ok (.iaload, 1) := by decide +kernel
theorem dX11_readText_156 : decode cX11_readText 156 = .ok (.iastore, 1) := by decide +kernel
theorem dX11_readText_157 : decode cX11_readText 157 = .ok (.iinc 2 1, 3) := by decide +kernel
theorem dX11_readText_160 : decode cX11_readText 160 = .ok (.goto (-55), 3) := by decide +kernel
theorem dX11_readText_163 : decode cX11_readText 163 = .ok (.aload_n 0, 1) := by decide +kernel
theorem dX11_readText_164 : decode cX11_readText 164 = .ok (.getfield 38, 3) := by decide +kernel
theorem dX11_readText_167 : decode cX11_readText 167 = .ok (.iload_n 1, 1) := by decide +kernel
theorem dX11_readText_168 : decode cX11_readText 168 = .ok (.aload_n 0, 1) := by decide +kernel
theorem dX11_readText_169 : decode cX11_readText 169 = .ok (.getfield 38, 3) := by decide +kernel
theorem dX11_readText_172 : decode cX11_readText 172 = .ok (.iconst 1, 1) := by decide +kernel
theorem dX11_readText_173 : decode cX11_readText 173 = .ok (.iaload, 1) := by decide +kernel
theorem dX11_readText_174 : decode cX11_readText 174 = .ok (.iastore, 1) := by decide +kernel
theorem dX11_readText_175 : decode cX11_readText 175 = .ok (.iconst 0, 1) := by decide +kernel
theorem dX11_readText_176 : decode cX11_readText 176 = .ok (.istore_n 2, 1) := by decide +kernel
theorem dX11_readText_177 : decode cX11_readText 177 = .ok (.iload_n 2, 1) := by decide +kernel
theorem dX11_readText_178 : decode cX11_readText 178 = .ok (.aload_n 0, 1) := by decide +kernel
theorem dX11_readText_179 : decode cX11_readText 179 = .ok (.getfield 38, 3) := by decide +kernel
theorem dX11_readText_182 : decode cX11_readText 182 = .ok (.iload_n 1, 1) := by decide +kernel
theorem dX11_readText_183 : decode cX11_readText 183 = .ok (.iaload, 1) := by decide +kernel
theorem dX11_readText_184 : decode cX11_readText 184 = .ok (.if_icmp .ge 49, 3) := by decide +kernel
theorem dX11_readText_187 : decode cX11_readText 187 = .ok (.aload_n 0, 1) := by decide +kernel
theorem dX11_readText_188 : decode cX11_readText 188 = .ok (.getfield 41, 3) := by decide +kernel
theorem dX11_readText_191 : decode cX11_readText 191 = .ok (.bipush 61, 2) := by decide +kernel
theorem dX11_readText_193 : decode cX11_readText 193 = .ok (.iload_n 1, 1) := by decide +kernel
theorem dX11_readText_194 : decode cX11_readText 194 = .ok (.imul, 1) := by decide +kernel
theorem dX11_readText_195 : decode cX11_readText 195 = .ok (.iload_n 2, 1) := by decide +kernel
theorem dX11_readText_196 : decode cX11_readText 196 = .ok (.iadd, 1) := by decide +kernel
theorem dX11_readText_197 : decode cX11_readText 197 = .ok (.aload_n 0, 1) := by decide +kernel
theorem dX11_readText_198 : decode cX11_readText 198 = .ok (.getfield 41, 3) := by decide +kernel
theorem dX11_readText_201 : decode cX11_readText 201 = .ok (.bipush 61, 2) := by decide +kernel
theorem dX11_readText_203 : decode cX11_readText 203 = .ok (.iload_n 2, 1) := by decide +kernel
theorem dX11_readText_204 : decode cX11_readText 204 = .ok (.iadd, 1) := by decide +kernel
theorem dX11_readText_205 : decode cX11_readText 205 = .ok (.saload, 1) := by decide +kernel
theorem dX11_readText_206 : decode cX11_readText 206 = .ok (.sastore, 1) := by decide +kernel
theorem dX11_readText_207 : decode cX11_readText 207 = .ok (.aload_n 0, 1) := by decide +kernel
theorem dX11_readText_208 : decode cX11_readText 208 = .ok (.getfield 45, 3) := by decide +kernel
theorem dX11_readText_211 : decode cX11_readText 211 = .ok (.bipush 61, 2) := by decide +kernel
theorem dX11_readText_213 : decode cX11_readText 213 = .ok (.iload_n 1, 1) := by decide +kernel
theorem dX11_readText_214 : decode cX11_readText 214 = .ok (.imul, 1) := by decide +kernel
theorem dX11_readText_215 : decode cX11_readText 215 = .ok (.iload_n 2, 1) := by decide +kernel
theorem dX11_readText_216 : decode cX11_readText 216 = .ok (.iadd, 1) := by decide +kernel
theorem dX11_readText_217 : decode cX11_readText 217 = .ok (.aload_n 0, 1) := by decide +kernel
theorem dX11_readText_218 : decode cX11_readText 218 = .ok (.getfield 45, 3) := by decide +kernel
theorem dX11_readText_221 : decode cX11_readText 221 = .ok (.bipush 61, 2) := by decide +kernel
theorem dX11_readText_223 : decode cX11_readText 223 = .ok (.iload_n 2, 1) := by decide +kernel
theorem dX11_readText_224 : decode cX11_readText 224 = .ok (.iadd, 1) := by decide +kernel
theorem dX11_readText_225 : decode cX11_readText 225 = .ok (.saload, 1) := by decide +kernel
theorem dX11_readText_226 : decode cX11_readText 226 = .ok (.sastore, 1) := by decide +kernel
theorem dX11_readText_227 : decode cX11_readText 227 = .ok (.iinc 2 1, 3) := by decide +kernel
theorem dX11_readText_230 : decode cX11_readText 230 = .ok (.goto (-53), 3) := by decide +kernel
theorem dX11_readText_233 : decode cX11_readText 233 = .ok (.iconst (-1), 1) := by decide +kernel
theorem dX11_readText_234 : decode cX11_readText 234 = .ok (.ireturn, 1) := by decide +kernel
theorem dX11_twoOf_0 : decode cX11_twoOf 0 = .ok (.iload_n 0, 1) := by decide +kernel
theorem dX11_twoOf_1 : decode cX11_twoOf 1 = .ok (.tableswitch 217 37 62 #[153, 203, 217, 217, 217, 127, 119, 217, 123, 217, 131, 217, 217, 217, 217, 217, 217, 217, 217, 217, 217, 217, 217, 170, 181, 192], 119) := by decide +kernel
theorem dX11_twoOf_120 : decode cX11_twoOf 120 = .ok (.iload_n 1, 1) := by decide +kernel
theorem dX11_twoOf_121 : decode cX11_twoOf 121 = .ok (.iload_n 2, 1) := by decide +kernel
theorem dX11_twoOf_122 : decode cX11_twoOf 122 = .ok (.iadd, 1) := by decide +kernel
theorem dX11_twoOf_123 : decode cX11_twoOf 123 = .ok (.ireturn, 1) := by decide +kernel
theorem dX11_twoOf_124 : decode cX11_twoOf 124 = .ok (.iload_n 1, 1) := by decide +kernel
theorem dX11_twoOf_125 : decode cX11_twoOf 125 = .ok (.iload_n 2, 1) := by decide +kernel
theorem dX11_twoOf_126 : decode cX11_twoOf 126 = .ok (.isub, 1) := by decide +kernel
theorem dX11_twoOf_127 : decode cX11_twoOf 127 = .ok (.ireturn, 1) := by decide +kernel
theorem dX11_twoOf_128 : decode cX11_twoOf 128 = .ok (.iload_n 1, 1) := by decide +kernel
theorem dX11_twoOf_129 : decode cX11_twoOf 129 = .ok (.iload_n 2, 1) := by decide +kernel
theorem dX11_twoOf_130 : decode cX11_twoOf 130 = .ok (.imul, 1) := by decide +kernel
theorem dX11_twoOf_131 : decode cX11_twoOf 131 = .ok (.ireturn, 1) := by decide +kernel
theorem dX11_twoOf_132 : decode cX11_twoOf 132 = .ok (.iload_n 2, 1) := by decide +kernel
theorem dX11_twoOf_133 : decode cX11_twoOf 133 = .ok (.ifCond .ne 7, 3) := by decide +kernel
theorem dX11_twoOf_136 : decode cX11_twoOf 136 = .ok (.iconst 0, 1) := by decide +kernel
theorem dX11_twoOf_137 : decode cX11_twoOf 137 = .ok (.goto 16, 3) := by decide +kernel
theorem dX11_twoOf_140 : decode cX11_twoOf 140 = .ok (.iload_n 2, 1) := by decide +kernel
theorem dX11_twoOf_141 : decode cX11_twoOf 141 = .ok (.iconst (-1), 1) := by decide +kernel
theorem dX11_twoOf_142 : decode cX11_twoOf 142 = .ok (.if_icmp .ne 8, 3) := by decide +kernel
theorem dX11_twoOf_145 : decode cX11_twoOf 145 = .ok (.iload_n 1, 1) := by decide +kernel
theorem dX11_twoOf_146 : decode cX11_twoOf 146 = .ok (.ineg, 1) := by decide +kernel
theorem dX11_twoOf_147 : decode cX11_twoOf 147 = .ok (.goto 6, 3) := by decide +kernel
theorem dX11_twoOf_150 : decode cX11_twoOf 150 = .ok (.iload_n 1, 1) := by decide +kernel
theorem dX11_twoOf_151 : decode cX11_twoOf 151 = .ok (.iload_n 2, 1) := by decide +kernel
theorem dX11_twoOf_152 : decode cX11_twoOf 152 = .ok (.idiv, 1) := by decide +kernel
theorem dX11_twoOf_153 : decode cX11_twoOf 153 = .ok (.ireturn, 1) := by decide +kernel
theorem dX11_twoOf_154 : decode cX11_twoOf 154 = .ok (.iload_n 2, 1) := by decide +kernel
theorem dX11_twoOf_155 : decode cX11_twoOf 155 = .ok (.ifCond .eq 8, 3) := by decide +kernel
theorem dX11_twoOf_158 : decode cX11_twoOf 158 = .ok (.iload_n 2, 1) := by decide +kernel
theorem dX11_twoOf_159 : decode cX11_twoOf 159 = .ok (.iconst (-1), 1) := by decide +kernel
theorem dX11_twoOf_160 : decode cX11_twoOf 160 = .ok (.if_icmp .ne 7, 3) := by decide +kernel
theorem dX11_twoOf_163 : decode cX11_twoOf 163 = .ok (.iconst 0, 1) := by decide +kernel
theorem dX11_twoOf_164 : decode cX11_twoOf 164 = .ok (.goto 6, 3) := by decide +kernel
theorem dX11_twoOf_167 : decode cX11_twoOf 167 = .ok (.iload_n 1, 1) := by decide +kernel
theorem dX11_twoOf_168 : decode cX11_twoOf 168 = .ok (.iload_n 2, 1) := by decide +kernel
theorem dX11_twoOf_169 : decode cX11_twoOf 169 = .ok (.irem, 1) := by decide +kernel
theorem dX11_twoOf_170 : decode cX11_twoOf 170 = .ok (.ireturn, 1) := by decide +kernel
theorem dX11_twoOf_171 : decode cX11_twoOf 171 = .ok (.iload_n 1, 1) := by decide +kernel
theorem dX11_twoOf_172 : decode cX11_twoOf 172 = .ok (.iload_n 2, 1) := by decide +kernel
theorem dX11_twoOf_173 : decode cX11_twoOf 173 = .ok (.if_icmp .ge 7, 3) := by decide +kernel
theorem dX11_twoOf_176 : decode cX11_twoOf 176 = .ok (.iconst 1, 1) := by decide +kernel
theorem dX11_twoOf_177 : decode cX11_twoOf 177 = .ok (.goto 4, 3) := by decide +kernel
theorem dX11_twoOf_180 : decode cX11_twoOf 180 = .ok (.iconst 0, 1) := by decide +kernel
theorem dX11_twoOf_181 : decode cX11_twoOf 181 = .ok (.ireturn, 1) := by decide +kernel
theorem dX11_twoOf_182 : decode cX11_twoOf 182 = .ok (.iload_n 1, 1) := by decide +kernel
theorem dX11_twoOf_183 : decode cX11_twoOf 183 = .ok (.iload_n 2, 1) := by decide +kernel
theorem dX11_twoOf_184 : decode cX11_twoOf 184 = .ok (.if_icmp .ne 7, 3) := by decide +kernel
theorem dX11_twoOf_187 : decode cX11_twoOf 187 = .ok (.iconst 1, 1) := by decide +kernel
theorem dX11_twoOf_188 : decode cX11_twoOf 188 = .ok (.goto 4, 3) := by decide +kernel
theorem dX11_twoOf_191 : decode cX11_twoOf 191 = .ok (.iconst 0, 1) := by decide +kernel
theorem dX11_twoOf_192 : decode cX11_twoOf 192 = .ok (.ireturn, 1) := by decide +kernel
theorem dX11_twoOf_193 : decode cX11_twoOf 193 = .ok (.iload_n 1, 1) := by decide +kernel
theorem dX11_twoOf_194 : decode cX11_twoOf 194 = .ok (.iload_n 2, 1) := by decide +kernel
theorem dX11_twoOf_195 : decode cX11_twoOf 195 = .ok (.if_icmp .le 7, 3) := by decide +kernel
theorem dX11_twoOf_198 : decode cX11_twoOf 198 = .ok (.iconst 1, 1) := by decide +kernel
theorem dX11_twoOf_199 : decode cX11_twoOf 199 = .ok (.goto 4, 3) := by decide +kernel
theorem dX11_twoOf_202 : decode cX11_twoOf 202 = .ok (.iconst 0, 1) := by decide +kernel
theorem dX11_twoOf_203 : decode cX11_twoOf 203 = .ok (.ireturn, 1) := by decide +kernel
theorem dX11_twoOf_204 : decode cX11_twoOf 204 = .ok (.iload_n 1, 1) := by decide +kernel
theorem dX11_twoOf_205 : decode cX11_twoOf 205 = .ok (.ifCond .eq 11, 3) := by decide +kernel
theorem dX11_twoOf_208 : decode cX11_twoOf 208 = .ok (.iload_n 2, 1) := by decide +kernel
theorem dX11_twoOf_209 : decode cX11_twoOf 209 = .ok (.ifCond .eq 7, 3) := by decide +kernel
theorem dX11_twoOf_212 : decode cX11_twoOf 212 = .ok (.iconst 1, 1) := by decide +kernel
theorem dX11_twoOf_213 : decode cX11_twoOf 213 = .ok (.goto 4, 3) := by decide +kernel
theorem dX11_twoOf_216 : decode cX11_twoOf 216 = .ok (.iconst 0, 1) := by decide +kernel
theorem dX11_twoOf_217 : decode cX11_twoOf 217 = .ok (.ireturn, 1) := by decide +kernel
theorem dX11_twoOf_218 : decode cX11_twoOf 218 = .ok (.iload_n 1, 1) := by decide +kernel
theorem dX11_twoOf_219 : decode cX11_twoOf 219 = .ok (.ifCond .ne 7, 3) := by decide +kernel
theorem dX11_twoOf_222 : decode cX11_twoOf 222 = .ok (.iload_n 2, 1) := by decide +kernel
theorem dX11_twoOf_223 : decode cX11_twoOf 223 = .ok (.ifCond .eq 7, 3) := by decide +kernel
theorem dX11_twoOf_226 : decode cX11_twoOf 226 = .ok (.iconst 1, 1) := by decide +kernel
theorem dX11_twoOf_227 : decode cX11_twoOf 227 = .ok (.goto 4, 3) := by decide +kernel
theorem dX11_twoOf_230 : decode cX11_twoOf 230 = .ok (.iconst 0, 1) := by decide +kernel
theorem dX11_twoOf_231 : decode cX11_twoOf 231 = .ok (.ireturn, 1) := by decide +kernel
theorem dX11_worked_0 : decode cX11_worked 0 = .ok (.iconst 0, 1) := by decide +kernel
theorem dX11_worked_1 : decode cX11_worked 1 = .ok (.istore 4, 2) := by decide +kernel
theorem dX11_worked_3 : decode cX11_worked 3 = .ok (.sipush 130, 3) := by decide +kernel
theorem dX11_worked_6 : decode cX11_worked 6 = .ok (.iload_n 1, 1) := by decide +kernel
theorem dX11_worked_7 : decode cX11_worked 7 = .ok (.imul, 1) := by decide +kernel
theorem dX11_worked_8 : decode cX11_worked 8 = .ok (.iload_n 2, 1) := by decide +kernel
theorem dX11_worked_9 : decode cX11_worked 9 = .ok (.iadd, 1) := by decide +kernel
theorem dX11_worked_10 : decode cX11_worked 10 = .ok (.istore 5, 2) := by decide +kernel
theorem dX11_worked_12 : decode cX11_worked 12 = .ok (.iload 5, 2) := by decide +kernel
theorem dX11_worked_14 : decode cX11_worked 14 = .ok (.sipush 130, 3) := by decide +kernel
theorem dX11_worked_17 : decode cX11_worked 17 = .ok (.iload_n 1, 1) := by decide +kernel
theorem dX11_worked_18 : decode cX11_worked 18 = .ok (.imul, 1) := by decide +kernel
theorem dX11_worked_19 : decode cX11_worked 19 = .ok (.iload_n 3, 1) := by decide +kernel
theorem dX11_worked_20 : decode cX11_worked 20 = .ok (.iadd, 1) := by decide +kernel
theorem dX11_worked_21 : decode cX11_worked 21 = .ok (.if_icmp .ge 167, 3) := by decide +kernel
theorem dX11_worked_24 : decode cX11_worked 24 = .ok (.aload_n 0, 1) := by decide +kernel
theorem dX11_worked_25 : decode cX11_worked 25 = .ok (.getfield 32, 3) := by decide +kernel
theorem dX11_worked_28 : decode cX11_worked 28 = .ok (.iload 5, 2) := by decide +kernel
theorem dX11_worked_30 : decode cX11_worked 30 = .ok (.baload, 1) := by decide +kernel
theorem dX11_worked_31 : decode cX11_worked 31 = .ok (.istore 6, 2) := by decide +kernel
theorem dX11_worked_33 : decode cX11_worked 33 = .ok (.iload 6, 2) := by decide +kernel
theorem dX11_worked_35 : decode cX11_worked 35 = .ok (.iconst 1, 1) := by decide +kernel
theorem dX11_worked_36 : decode cX11_worked 36 = .ok (.if_icmp .eq 9, 3) := by decide +kernel
theorem dX11_worked_39 : decode cX11_worked 39 = .ok (.iload 6, 2) := by decide +kernel
theorem dX11_worked_41 : decode cX11_worked 41 = .ok (.iconst 2, 1) := by decide +kernel
theorem dX11_worked_42 : decode cX11_worked 42 = .ok (.if_icmp .ne 44, 3) := by decide +kernel
theorem dX11_worked_45 : decode cX11_worked 45 = .ok (.aload_n 0, 1) := by decide +kernel
theorem dX11_worked_46 : decode cX11_worked 46 = .ok (.getfield 51, 3) := by decide +kernel
theorem dX11_worked_49 : decode cX11_worked 49 = .ok (.iload 4, 2) := by decide +kernel
theorem dX11_worked_51 : decode cX11_worked 51 = .ok (.iload 6, 2) := by decide +kernel
theorem dX11_worked_53 : decode cX11_worked 53 = .ok (.iconst 1, 1) := by decide +kernel
theorem dX11_worked_54 : decode cX11_worked 54 = .ok (.if_icmp .ne 13, 3) := by decide +kernel
theorem dX11_worked_57 : decode cX11_worked 57 = .ok (.aload_n 0, 1) := by decide +kernel
theorem dX11_worked_58 : decode cX11_worked 58 = .ok (.getfield 35, 3) := by decide +kernel
theorem dX11_worked_61 : decode cX11_worked 61 = .ok (.iload 5, 2) := by decide +kernel
theorem dX11_worked_63 : decode cX11_worked 63 = .ok (.iaload, 1) := by decide +kernel
theorem dX11_worked_64 : decode cX11_worked 64 = .ok (.goto 15, 3) := by decide +kernel
theorem dX11_worked_67 : decode cX11_worked 67 = .ok (.aload_n 0, 1) := by decide +kernel
theorem dX11_worked_68 : decode cX11_worked 68 = .ok (.getfield 48, 3) := by decide +kernel
theorem dX11_worked_71 : decode cX11_worked 71 = .ok (.aload_n 0, 1) := by decide +kernel
theorem dX11_worked_72 : decode cX11_worked 72 = .ok (.getfield 35, 3) := by decide +kernel
theorem dX11_worked_75 : decode cX11_worked 75 = .ok (.iload 5, 2) := by decide +kernel
theorem dX11_worked_77 : decode cX11_worked 77 = .ok (.iaload, 1) := by decide +kernel
theorem dX11_worked_78 : decode cX11_worked 78 = .ok (.iaload, 1) := by decide +kernel
theorem dX11_worked_79 : decode cX11_worked 79 = .ok (.iastore, 1) := by decide +kernel
theorem dX11_worked_80 : decode cX11_worked 80 = .ok (.iinc 4 1, 3) := by decide +kernel
theorem dX11_worked_83 : decode cX11_worked 83 = .ok (.goto 99, 3) := by decide +kernel
theorem dX11_worked_86 : decode cX11_worked 86 = .ok (.iload 6, 2) := by decide +kernel
theorem dX11_worked_88 : decode cX11_worked 88 = .ok (.iconst 3, 1) := by decide +kernel
theorem dX11_worked_89 : decode cX11_worked 89 = .ok (.if_icmp .ne 32, 3) := by decide +kernel
theorem dX11_worked_92 : decode cX11_worked 92 = .ok (.aload_n 0, 1) := by decide +kernel
theorem dX11_worked_93 : decode cX11_worked 93 = .ok (.getfield 51, 3) := by decide +kernel
theorem dX11_worked_96 : decode cX11_worked 96 = .ok (.iload 4, 2) := by decide +kernel
theorem dX11_worked_98 : decode cX11_worked 98 = .ok (.iconst 1, 1) := by decide +kernel
theorem dX11_worked_99 : decode cX11_worked 99 = .ok (.isub, 1) := by decide +kernel
theorem dX11_worked_100 : decode cX11_worked 100 = .ok (.aload_n 0, 1) := by decide +kernel
theorem dX11_worked_101 : decode cX11_worked 101 = .ok (.getfield 51, 3) := by decide +kernel
theorem dX11_worked_104 : decode cX11_worked 104 = .ok (.iload 4, 2) := by decide +kernel
theorem dX11_worked_106 : decode cX11_worked 106 = .ok (.iconst 1, 1) := by decide +kernel
theorem dX11_worked_107 : decode cX11_worked 107 = .ok (.isub, 1) := by decide +kernel
theorem dX11_worked_108 : decode cX11_worked 108 = .ok (.iaload, 1) := by decide +kernel
theorem dX11_worked_109 : decode cX11_worked 109 = .ok (.ifCond .ne 7, 3) := by decide +kernel
theorem dX11_worked_112 : decode cX11_worked 112 = .ok (.iconst 1, 1) := by decide +kernel
theorem dX11_worked_113 : decode cX11_worked 113 = .ok (.goto 4, 3) := by decide +kernel
theorem dX11_worked_116 : decode cX11_worked 116 = .ok (.iconst 0, 1) := by decide +kernel
theorem dX11_worked_117 : decode cX11_worked 117 = .ok (.iastore, 1) := by decide +kernel
theorem dX11_worked_118 : decode cX11_worked 118 = .ok (.goto 64, 3) := by decide +kernel
theorem dX11_worked_121 : decode cX11_worked 121 = .ok (.iload 6, 2) := by decide +kernel
theorem dX11_worked_123 : decode cX11_worked 123 = .ok (.iconst 4, 1) := by decide +kernel
theorem dX11_worked_124 : decode cX11_worked 124 = .ok (.if_icmp .ne 25, 3) := by decide +kernel
theorem dX11_worked_127 : decode cX11_worked 127 = .ok (.aload_n 0, 1) := by decide +kernel
theorem dX11_worked_128 : decode cX11_worked 128 = .ok (.getfield 51, 3) := by decide +kernel
theorem dX11_worked_131 : decode cX11_worked 131 = .ok (.iload 4, 2) := by decide +kernel
theorem dX11_worked_133 : decode cX11_worked 133 = .ok (.iconst 1, 1) := by decide +kernel
theorem dX11_worked_134 : decode cX11_worked 134 = .ok (.isub, 1) := by decide +kernel
theorem dX11_worked_135 : decode cX11_worked 135 = .ok (.aload_n 0, 1) := by decide +kernel
theorem dX11_worked_136 : decode cX11_worked 136 = .ok (.getfield 51, 3) := by decide +kernel
theorem dX11_worked_139 : decode cX11_worked 139 = .ok (.iload 4, 2) := by decide +kernel
theorem dX11_worked_141 : decode cX11_worked 141 = .ok (.iconst 1, 1) := by decide +kernel
theorem dX11_worked_142 : decode cX11_worked 142 = .ok (.isub, 1) := by decide +kernel
theorem dX11_worked_143 : decode cX11_worked 143 = .ok (.iaload, 1) := by decide +kernel
theorem dX11_worked_144 : decode cX11_worked 144 = .ok (.ineg, 1) := by decide +kernel
theorem dX11_worked_145 : decode cX11_worked 145 = .ok (.iastore, 1) := by decide +kernel
theorem dX11_worked_146 : decode cX11_worked 146 = .ok (.goto 36, 3) := by decide +kernel
theorem dX11_worked_149 : decode cX11_worked 149 = .ok (.iinc 4 (-1), 3) := by decide +kernel
theorem dX11_worked_152 : decode cX11_worked 152 = .ok (.aload_n 0, 1) := by decide +kernel
theorem dX11_worked_153 : decode cX11_worked 153 = .ok (.getfield 51, 3) := by decide +kernel
theorem dX11_worked_156 : decode cX11_worked 156 = .ok (.iload 4, 2) := by decide +kernel
theorem dX11_worked_158 : decode cX11_worked 158 = .ok (.iconst 1, 1) := by decide +kernel
theorem dX11_worked_159 : decode cX11_worked 159 = .ok (.isub, 1) := by decide +kernel
theorem dX11_worked_160 : decode cX11_worked 160 = .ok (.iload 6, 2) := by decide +kernel
theorem dX11_worked_162 : decode cX11_worked 162 = .ok (.aload_n 0, 1) := by decide +kernel
theorem dX11_worked_163 : decode cX11_worked 163 = .ok (.getfield 51, 3) := by decide +kernel
theorem dX11_worked_166 : decode cX11_worked 166 = .ok (.iload 4, 2) := by decide +kernel
theorem dX11_worked_168 : decode cX11_worked 168 = .ok (.iconst 1, 1) := by decide +kernel
theorem dX11_worked_169 : decode cX11_worked 169 = .ok (.isub, 1) := by decide +kernel
theorem dX11_worked_170 : decode cX11_worked 170 = .ok (.iaload, 1) := by decide +kernel
theorem dX11_worked_171 : decode cX11_worked 171 = .ok (.aload_n 0, 1) := by decide +kernel
theorem dX11_worked_172 : decode cX11_worked 172 = .ok (.getfield 51, 3) := by decide +kernel
theorem dX11_worked_175 : decode cX11_worked 175 = .ok (.iload 4, 2) := by decide +kernel
theorem dX11_worked_177 : decode cX11_worked 177 = .ok (.iaload, 1) := by decide +kernel
theorem dX11_worked_178 : decode cX11_worked 178 = .ok (.invokestatic 199, 3) := by decide +kernel
theorem dX11_worked_181 : decode cX11_worked 181 = .ok (.iastore, 1) := by decide +kernel
theorem dX11_worked_182 : decode cX11_worked 182 = .ok (.iinc 5 1, 3) := by decide +kernel
theorem dX11_worked_185 : decode cX11_worked 185 = .ok (.goto (-173), 3) := by decide +kernel
theorem dX11_worked_188 : decode cX11_worked 188 = .ok (.aload_n 0, 1) := by decide +kernel
theorem dX11_worked_189 : decode cX11_worked 189 = .ok (.getfield 51, 3) := by decide +kernel
theorem dX11_worked_192 : decode cX11_worked 192 = .ok (.iconst 0, 1) := by decide +kernel
theorem dX11_worked_193 : decode cX11_worked 193 = .ok (.iaload, 1) := by decide +kernel
theorem dX11_worked_194 : decode cX11_worked 194 = .ok (.ireturn, 1) := by decide +kernel
theorem dX11_gives_0 : decode cX11_gives 0 = .ok (.iconst 0, 1) := by decide +kernel
theorem dX11_gives_1 : decode cX11_gives 1 = .ok (.istore_n 2, 1) := by decide +kernel
theorem dX11_gives_2 : decode cX11_gives 2 = .ok (.bipush 61, 2) := by decide +kernel
theorem dX11_gives_4 : decode cX11_gives 4 = .ok (.iload_n 1, 1) := by decide +kernel
theorem dX11_gives_5 : decode cX11_gives 5 = .ok (.imul, 1) := by decide +kernel
theorem dX11_gives_6 : decode cX11_gives 6 = .ok (.istore_n 3, 1) := by decide +kernel
theorem dX11_gives_7 : decode cX11_gives 7 = .ok (.iload_n 3, 1) := by decide +kernel
theorem dX11_gives_8 : decode cX11_gives 8 = .ok (.bipush 61, 2) := by decide +kernel
theorem dX11_gives_10 : decode cX11_gives 10 = .ok (.iload_n 1, 1) := by decide +kernel
theorem dX11_gives_11 : decode cX11_gives 11 = .ok (.imul, 1) := by decide +kernel
theorem dX11_gives_12 : decode cX11_gives 12 = .ok (.aload_n 0, 1) := by decide +kernel
theorem dX11_gives_13 : decode cX11_gives 13 = .ok (.getfield 38, 3) := by decide +kernel
theorem dX11_gives_16 : decode cX11_gives 16 = .ok (.iload_n 1, 1) := by decide +kernel
theorem dX11_gives_17 : decode cX11_gives 17 = .ok (.iaload, 1) := by decide +kernel
theorem dX11_gives_18 : decode cX11_gives 18 = .ok (.iadd, 1) := by decide +kernel
theorem dX11_gives_19 : decode cX11_gives 19 = .ok (.if_icmp .ge 59, 3) := by decide +kernel
theorem dX11_gives_22 : decode cX11_gives 22 = .ok (.aload_n 0, 1) := by decide +kernel
theorem dX11_gives_23 : decode cX11_gives 23 = .ok (.getfield 41, 3) := by decide +kernel
theorem dX11_gives_26 : decode cX11_gives 26 = .ok (.iload_n 3, 1) := by decide +kernel
theorem dX11_gives_27 : decode cX11_gives 27 = .ok (.saload, 1) := by decide +kernel
theorem dX11_gives_28 : decode cX11_gives 28 = .ok (.iload_n 2, 1) := by decide +kernel
theorem dX11_gives_29 : decode cX11_gives 29 = .ok (.if_icmp .eq 18, 3) := by decide +kernel
theorem dX11_gives_32 : decode cX11_gives 32 = .ok (.aload_n 0, 1) := by decide +kernel
theorem dX11_gives_33 : decode cX11_gives 33 = .ok (.iload_n 1, 1) := by decide +kernel
theorem dX11_gives_34 : decode cX11_gives 34 = .ok (.iload_n 2, 1) := by decide +kernel
theorem dX11_gives_35 : decode cX11_gives 35 = .ok (.aload_n 0, 1) := by decide +kernel
theorem dX11_gives_36 : decode cX11_gives 36 = .ok (.getfield 41, 3) := by decide +kernel
theorem dX11_gives_39 : decode cX11_gives 39 = .ok (.iload_n 3, 1) := by decide +kernel
theorem dX11_gives_40 : decode cX11_gives 40 = .ok (.saload, 1) := by decide +kernel
theorem dX11_gives_41 : decode cX11_gives 41 = .ok (.invokevirtual 202, 3) := by decide +kernel
theorem dX11_gives_44 : decode cX11_gives 44 = .ok (.ifCond .eq 21, 3) := by decide +kernel
theorem dX11_gives_47 : decode cX11_gives 47 = .ok (.aload_n 0, 1) := by decide +kernel
theorem dX11_gives_48 : decode cX11_gives 48 = .ok (.iload_n 1, 1) := by decide +kernel
theorem dX11_gives_49 : decode cX11_gives 49 = .ok (.aload_n 0, 1) := by decide +kernel
theorem dX11_gives_50 : decode cX11_gives 50 = .ok (.getfield 41, 3) := by decide +kernel
theorem dX11_gives_53 : decode cX11_gives 53 = .ok (.iload_n 3, 1) := by decide +kernel
theorem dX11_gives_54 : decode cX11_gives 54 = .ok (.saload, 1) := by decide +kernel
theorem dX11_gives_55 : decode cX11_gives 55 = .ok (.aload_n 0, 1) := by decide +kernel
theorem dX11_gives_56 : decode cX11_gives 56 = .ok (.getfield 45, 3) := by decide +kernel
theorem dX11_gives_59 : decode cX11_gives 59 = .ok (.iload_n 3, 1) := by decide +kernel
theorem dX11_gives_60 : decode cX11_gives 60 = .ok (.saload, 1) := by decide +kernel
theorem dX11_gives_61 : decode cX11_gives 61 = .ok (.invokevirtual 202, 3) := by decide +kernel
theorem dX11_gives_64 : decode cX11_gives 64 = .ok (.ireturn, 1) := by decide +kernel
theorem dX11_gives_65 : decode cX11_gives 65 = .ok (.aload_n 0, 1) := by decide +kernel
theorem dX11_gives_66 : decode cX11_gives 66 = .ok (.getfield 45, 3) := by decide +kernel
theorem dX11_gives_69 : decode cX11_gives 69 = .ok (.iload_n 3, 1) := by decide +kernel
theorem dX11_gives_70 : decode cX11_gives 70 = .ok (.saload, 1) := by decide +kernel
theorem dX11_gives_71 : decode cX11_gives 71 = .ok (.istore_n 2, 1) := by decide +kernel
theorem dX11_gives_72 : decode cX11_gives 72 = .ok (.iinc 3 1, 3) := by decide +kernel
theorem dX11_gives_75 : decode cX11_gives 75 = .ok (.goto (-68), 3) := by decide +kernel
theorem dX11_gives_78 : decode cX11_gives 78 = .ok (.iconst 0, 1) := by decide +kernel
theorem dX11_gives_79 : decode cX11_gives 79 = .ok (.ireturn, 1) := by decide +kernel
theorem dX11_law_0 : decode cX11_law 0 = .ok (.aload_n 0, 1) := by decide +kernel
theorem dX11_law_1 : decode cX11_law 1 = .ok (.iconst 0, 1) := by decide +kernel
theorem dX11_law_2 : decode cX11_law 2 = .ok (.invokevirtual 205, 3) := by decide +kernel
theorem dX11_law_5 : decode cX11_law 5 = .ok (.istore_n 1, 1) := by decide +kernel
theorem dX11_law_6 : decode cX11_law 6 = .ok (.iload_n 1, 1) := by decide +kernel
theorem dX11_law_7 : decode cX11_law 7 = .ok (.ifCond .lt 8, 3) := by decide +kernel
theorem dX11_law_10 : decode cX11_law 10 = .ok (.bipush (-100), 2) := by decide +kernel
theorem dX11_law_12 : decode cX11_law 12 = .ok (.iload_n 1, 1) := by decide +kernel
theorem dX11_law_13 : decode cX11_law 13 = .ok (.isub, 1) := by decide +kernel
theorem dX11_law_14 : decode cX11_law 14 = .ok (.ireturn, 1) := by decide +kernel
theorem dX11_law_15 : decode cX11_law 15 = .ok (.aload_n 0, 1) := by decide +kernel
theorem dX11_law_16 : decode cX11_law 16 = .ok (.iconst 1, 1) := by decide +kernel
theorem dX11_law_17 : decode cX11_law 17 = .ok (.putfield 208, 3) := by decide +kernel
theorem dX11_law_20 : decode cX11_law 20 = .ok (.iconst 1, 1) := by decide +kernel
theorem dX11_law_21 : decode cX11_law 21 = .ok (.ireturn, 1) := by decide +kernel
theorem dX11_weightAt_0 : decode cX11_weightAt 0 = .ok (.iload_n 1, 1) := by decide +kernel
theorem dX11_weightAt_1 : decode cX11_weightAt 1 = .ok (.iconst 0, 1) := by decide +kernel
theorem dX11_weightAt_2 : decode cX11_weightAt 2 = .ok (.aload_n 0, 1) := by decide +kernel
theorem dX11_weightAt_3 : decode cX11_weightAt 3 = .ok (.getfield 212, 3) := by decide +kernel
theorem dX11_weightAt_6 : decode cX11_weightAt 6 = .ok (.iconst 1, 1) := by decide +kernel
theorem dX11_weightAt_7 : decode cX11_weightAt 7 = .ok (.isub, 1) := by decide +kernel
theorem dX11_weightAt_8 : decode cX11_weightAt 8 = .ok (.invokestatic 104, 3) := by decide +kernel
theorem dX11_weightAt_11 : decode cX11_weightAt 11 = .ok (.ifCond .eq 15, 3) := by decide +kernel
theorem dX11_weightAt_14 : decode cX11_weightAt 14 = .ok (.aload_n 0, 1) := by decide +kernel
theorem dX11_weightAt_15 : decode cX11_weightAt 15 = .ok (.getfield 7, 3) := by decide +kernel
theorem dX11_weightAt_18 : decode cX11_weightAt 18 = .ok (.aload_n 0, 1) := by decide +kernel
theorem dX11_weightAt_19 : decode cX11_weightAt 19 = .ok (.getfield 54, 3) := by decide +kernel
theorem dX11_weightAt_22 : decode cX11_weightAt 22 = .ok (.iload_n 1, 1) := by decide +kernel
theorem dX11_weightAt_23 : decode cX11_weightAt 23 = .ok (.iaload, 1) := by decide +kernel
theorem dX11_weightAt_24 : decode cX11_weightAt 24 = .ok (.iaload, 1) := by decide +kernel
theorem dX11_weightAt_25 : decode cX11_weightAt 25 = .ok (.ireturn, 1) := by decide +kernel
theorem dX11_weightAt_26 : decode cX11_weightAt 26 = .ok (.aload_n 0, 1) := by decide +kernel
theorem dX11_weightAt_27 : decode cX11_weightAt 27 = .ok (.getfield 119, 3) := by decide +kernel
theorem dX11_weightAt_30 : decode cX11_weightAt 30 = .ok (.ifCond .ne 5, 3) := by decide +kernel
theorem dX11_weightAt_33 : decode cX11_weightAt 33 = .ok (.iconst 0, 1) := by decide +kernel
theorem dX11_weightAt_34 : decode cX11_weightAt 34 = .ok (.ireturn, 1) := by decide +kernel
theorem dX11_weightAt_35 : decode cX11_weightAt 35 = .ok (.aload_n 0, 1) := by decide +kernel
theorem dX11_weightAt_36 : decode cX11_weightAt 36 = .ok (.getfield 7, 3) := by decide +kernel
theorem dX11_weightAt_39 : decode cX11_weightAt 39 = .ok (.aload_n 0, 1) := by decide +kernel
theorem dX11_weightAt_40 : decode cX11_weightAt 40 = .ok (.getfield 54, 3) := by decide +kernel
theorem dX11_weightAt_43 : decode cX11_weightAt 43 = .ok (.iload_n 1, 1) := by decide +kernel
theorem dX11_weightAt_44 : decode cX11_weightAt 44 = .ok (.ifCond .ge 12, 3) := by decide +kernel
theorem dX11_weightAt_47 : decode cX11_weightAt 47 = .ok (.aload_n 0, 1) := by decide +kernel
theorem dX11_weightAt_48 : decode cX11_weightAt 48 = .ok (.getfield 212, 3) := by decide +kernel
theorem dX11_weightAt_51 : decode cX11_weightAt 51 = .ok (.iconst 1, 1) := by decide +kernel
theorem dX11_weightAt_52 : decode cX11_weightAt 52 = .ok (.isub, 1) := by decide +kernel
theorem dX11_weightAt_53 : decode cX11_weightAt 53 = .ok (.goto 4, 3) := by decide +kernel
theorem dX11_weightAt_56 : decode cX11_weightAt 56 = .ok (.iconst 0, 1) := by decide +kernel
theorem dX11_weightAt_57 : decode cX11_weightAt 57 = .ok (.iaload, 1) := by decide +kernel
theorem dX11_weightAt_58 : decode cX11_weightAt 58 = .ok (.iaload, 1) := by decide +kernel
theorem dX11_weightAt_59 : decode cX11_weightAt 59 = .ok (.ireturn, 1) := by decide +kernel
theorem dX11_isLawfulAt_0 : decode cX11_isLawfulAt 0 = .ok (.aload_n 0, 1) := by decide +kernel
theorem dX11_isLawfulAt_1 : decode cX11_isLawfulAt 1 = .ok (.iload_n 1, 1) := by decide +kernel
theorem dX11_isLawfulAt_2 : decode cX11_isLawfulAt 2 = .ok (.invokevirtual 215, 3) := by decide +kernel
theorem dX11_isLawfulAt_5 : decode cX11_isLawfulAt 5 = .ok (.istore_n 2, 1) := by decide +kernel
theorem dX11_isLawfulAt_6 : decode cX11_isLawfulAt 6 = .ok (.aload_n 0, 1) := by decide +kernel
theorem dX11_isLawfulAt_7 : decode cX11_isLawfulAt 7 = .ok (.iload_n 1, 1) := by decide +kernel
theorem dX11_isLawfulAt_8 : decode cX11_isLawfulAt 8 = .ok (.iconst 1, 1) := by decide +kernel
theorem dX11_isLawfulAt_9 : decode cX11_isLawfulAt 9 = .ok (.isub, 1) := by decide +kernel
theorem dX11_isLawfulAt_10 : decode cX11_isLawfulAt 10 = .ok (.invokevirtual 215, 3) := by decide +kernel
theorem dX11_isLawfulAt_13 : decode cX11_isLawfulAt 13 = .ok (.istore_n 3, 1) := by decide +kernel
theorem dX11_isLawfulAt_14 : decode cX11_isLawfulAt 14 = .ok (.aload_n 0, 1) := by decide +kernel
theorem dX11_isLawfulAt_15 : decode cX11_isLawfulAt 15 = .ok (.iload_n 1, 1) := by decide +kernel
theorem dX11_isLawfulAt_16 : decode cX11_isLawfulAt 16 = .ok (.iconst 1, 1) := by decide +kernel
theorem dX11_isLawfulAt_17 : decode cX11_isLawfulAt 17 = .ok (.iadd, 1) := by decide +kernel
theorem dX11_isLawfulAt_18 : decode cX11_isLawfulAt 18 = .ok (.invokevirtual 215, 3) := by decide +kernel
theorem dX11_isLawfulAt_21 : decode cX11_isLawfulAt 21 = .ok (.istore 4, 2) := by decide +kernel
theorem dX11_isLawfulAt_23 : decode cX11_isLawfulAt 23 = .ok (.aload_n 0, 1) := by decide +kernel
theorem dX11_isLawfulAt_24 : decode cX11_isLawfulAt 24 = .ok (.getfield 208, 3) := by decide +kernel
theorem dX11_isLawfulAt_27 : decode cX11_isLawfulAt 27 = .ok (.ifCond .ne 17, 3) := by decide +kernel
theorem dX11_isLawfulAt_30 : decode cX11_isLawfulAt 30 = .ok (.iload_n 2, 1) := by decide +kernel
theorem dX11_isLawfulAt_31 : decode cX11_isLawfulAt 31 = .ok (.iload_n 3, 1) := by decide +kernel
theorem dX11_isLawfulAt_32 : decode cX11_isLawfulAt 32 = .ok (.iload 4, 2) := by decide +kernel
theorem dX11_isLawfulAt_34 : decode cX11_isLawfulAt 34 = .ok (.iadd, 1) := by decide +kernel
theorem dX11_isLawfulAt_35 : decode cX11_isLawfulAt 35 = .ok (.if_icmp .gt 7, 3) := by decide +kernel
theorem dX11_isLawfulAt_38 : decode cX11_isLawfulAt 38 = .ok (.iconst 1, 1) := by decide +kernel
theorem dX11_isLawfulAt_39 : decode cX11_isLawfulAt 39 = .ok (.goto 4, 3) := by decide +kernel
theorem dX11_isLawfulAt_42 : decode cX11_isLawfulAt 42 = .ok (.iconst 0, 1) := by decide +kernel
theorem dX11_isLawfulAt_43 : decode cX11_isLawfulAt 43 = .ok (.ireturn, 1) := by decide +kernel
theorem dX11_isLawfulAt_44 : decode cX11_isLawfulAt 44 = .ok (.aload_n 0, 1) := by decide +kernel
theorem dX11_isLawfulAt_45 : decode cX11_isLawfulAt 45 = .ok (.getfield 48, 3) := by decide +kernel
theorem dX11_isLawfulAt_48 : decode cX11_isLawfulAt 48 = .ok (.iconst 0, 1) := by decide +kernel
theorem dX11_isLawfulAt_49 : decode cX11_isLawfulAt 49 = .ok (.iload_n 2, 1) := by decide +kernel
theorem dX11_isLawfulAt_50 : decode cX11_isLawfulAt 50 = .ok (.iastore, 1) := by decide +kernel
theorem dX11_isLawfulAt_51 : decode cX11_isLawfulAt 51 = .ok (.aload_n 0, 1) := by decide +kernel
theorem dX11_isLawfulAt_52 : decode cX11_isLawfulAt 52 = .ok (.getfield 48, 3) := by decide +kernel
theorem dX11_isLawfulAt_55 : decode cX11_isLawfulAt 55 = .ok (.iconst 1, 1) := by decide +kernel
theorem dX11_isLawfulAt_56 : decode cX11_isLawfulAt 56 = .ok (.iload_n 3, 1) := by decide +kernel
theorem dX11_isLawfulAt_57 : decode cX11_isLawfulAt 57 = .ok (.iastore, 1) := by decide +kernel
theorem dX11_isLawfulAt_58 : decode cX11_isLawfulAt 58 = .ok (.aload_n 0, 1) := by decide +kernel
theorem dX11_isLawfulAt_59 : decode cX11_isLawfulAt 59 = .ok (.getfield 48, 3) := by decide +kernel
theorem dX11_isLawfulAt_62 : decode cX11_isLawfulAt 62 = .ok (.iconst 2, 1) := by decide +kernel
theorem dX11_isLawfulAt_63 : decode cX11_isLawfulAt 63 = .ok (.iload 4, 2) := by decide +kernel
theorem dX11_isLawfulAt_65 : decode cX11_isLawfulAt 65 = .ok (.iastore, 1) := by decide +kernel
theorem dX11_isLawfulAt_66 : decode cX11_isLawfulAt 66 = .ok (.aload_n 0, 1) := by decide +kernel
theorem dX11_isLawfulAt_67 : decode cX11_isLawfulAt 67 = .ok (.getfield 48, 3) := by decide +kernel
theorem dX11_isLawfulAt_70 : decode cX11_isLawfulAt 70 = .ok (.iconst 3, 1) := by decide +kernel
theorem dX11_isLawfulAt_71 : decode cX11_isLawfulAt 71 = .ok (.iload_n 1, 1) := by decide +kernel
theorem dX11_isLawfulAt_72 : decode cX11_isLawfulAt 72 = .ok (.iastore, 1) := by decide +kernel
theorem dX11_isLawfulAt_73 : decode cX11_isLawfulAt 73 = .ok (.aload_n 0, 1) := by decide +kernel
theorem dX11_isLawfulAt_74 : decode cX11_isLawfulAt 74 = .ok (.getfield 48, 3) := by decide +kernel
theorem dX11_isLawfulAt_77 : decode cX11_isLawfulAt 77 = .ok (.iconst 4, 1) := by decide +kernel
theorem dX11_isLawfulAt_78 : decode cX11_isLawfulAt 78 = .ok (.aload_n 0, 1) := by decide +kernel
theorem dX11_isLawfulAt_79 : decode cX11_isLawfulAt 79 = .ok (.getfield 212, 3) := by decide +kernel
theorem dX11_isLawfulAt_82 : decode cX11_isLawfulAt 82 = .ok (.iastore, 1) := by decide +kernel
theorem dX11_isLawfulAt_83 : decode cX11_isLawfulAt 83 = .ok (.aload_n 0, 1) := by decide +kernel
theorem dX11_isLawfulAt_84 : decode cX11_isLawfulAt 84 = .ok (.getfield 48, 3) := by decide +kernel
theorem dX11_isLawfulAt_87 : decode cX11_isLawfulAt 87 = .ok (.iconst 5, 1) := by decide +kernel
theorem dX11_isLawfulAt_88 : decode cX11_isLawfulAt 88 = .ok (.aload_n 0, 1) := by decide +kernel
theorem dX11_isLawfulAt_89 : decode cX11_isLawfulAt 89 = .ok (.getfield 54, 3) := by decide +kernel
theorem dX11_isLawfulAt_92 : decode cX11_isLawfulAt 92 = .ok (.iload_n 1, 1) := by decide +kernel
theorem dX11_isLawfulAt_93 : decode cX11_isLawfulAt 93 = .ok (.iaload, 1) := by decide +kernel
theorem dX11_isLawfulAt_94 : decode cX11_isLawfulAt 94 = .ok (.iastore, 1) := by decide +kernel
theorem dX11_isLawfulAt_95 : decode cX11_isLawfulAt 95 = .ok (.aload_n 0, 1) := by decide +kernel
theorem dX11_isLawfulAt_96 : decode cX11_isLawfulAt 96 = .ok (.iconst 0, 1) := by decide +kernel
theorem dX11_isLawfulAt_97 : decode cX11_isLawfulAt 97 = .ok (.invokevirtual 218, 3) := by decide +kernel
theorem dX11_isLawfulAt_100 : decode cX11_isLawfulAt 100 = .ok (.ifCond .eq 7, 3) := by decide +kernel
theorem dX11_isLawfulAt_103 : decode cX11_isLawfulAt 103 = .ok (.iconst 1, 1) := by decide +kernel
theorem dX11_isLawfulAt_104 : decode cX11_isLawfulAt 104 = .ok (.goto 4, 3) := by decide +kernel
theorem dX11_isLawfulAt_107 : decode cX11_isLawfulAt 107 = .ok (.iconst 0, 1) := by decide +kernel
theorem dX11_isLawfulAt_108 : decode cX11_isLawfulAt 108 = .ok (.ireturn, 1) := by decide +kernel
theorem dX11_isLawful_0 : decode cX11_isLawful 0 = .ok (.iconst 0, 1) := by decide +kernel
theorem dX11_isLawful_1 : decode cX11_isLawful 1 = .ok (.istore_n 1, 1) := by decide +kernel
theorem dX11_isLawful_2 : decode cX11_isLawful 2 = .ok (.iload_n 1, 1) := by decide +kernel
theorem dX11_isLawful_3 : decode cX11_isLawful 3 = .ok (.aload_n 0, 1) := by decide +kernel
theorem dX11_isLawful_4 : decode cX11_isLawful 4 = .ok (.getfield 212, 3) := by decide +kernel
theorem dX11_isLawful_7 : decode cX11_isLawful 7 = .ok (.if_icmp .ge 19, 3) := by decide +kernel
theorem dX11_isLawful_10 : decode cX11_isLawful 10 = .ok (.aload_n 0, 1) := by decide +kernel
theorem dX11_isLawful_11 : decode cX11_isLawful 11 = .ok (.iload_n 1, 1) := by decide +kernel
theorem dX11_isLawful_12 : decode cX11_isLawful 12 = .ok (.invokevirtual 221, 3) := by decide +kernel
theorem dX11_isLawful_15 : decode cX11_isLawful 15 = .ok (.ifCond .ne 5, 3) := by decide +kernel
theorem dX11_isLawful_18 : decode cX11_isLawful 18 = .ok (.iconst 0, 1) := by decide +kernel
theorem dX11_isLawful_19 : decode cX11_isLawful 19 = .ok (.ireturn, 1) := by decide +kernel
theorem dX11_isLawful_20 : decode cX11_isLawful 20 = .ok (.iinc 1 1, 3) := by decide +kernel
theorem dX11_isLawful_23 : decode cX11_isLawful 23 = .ok (.goto (-21), 3) := by decide +kernel
theorem dX11_isLawful_26 : decode cX11_isLawful 26 = .ok (.iconst 1, 1) := by decide +kernel
theorem dX11_isLawful_27 : decode cX11_isLawful 27 = .ok (.ireturn, 1) := by decide +kernel
theorem dX11_see_0 : decode cX11_see 0 = .ok (.aload_n 0, 1) := by decide +kernel
theorem dX11_see_1 : decode cX11_see 1 = .ok (.aload_n 0, 1) := by decide +kernel
theorem dX11_see_2 : decode cX11_see 2 = .ok (.getfield 108, 3) := by decide +kernel
theorem dX11_see_5 : decode cX11_see 5 = .ok (.putfield 212, 3) := by decide +kernel
theorem dX11_see_8 : decode cX11_see 8 = .ok (.iconst 0, 1) := by decide +kernel
theorem dX11_see_9 : decode cX11_see 9 = .ok (.istore_n 1, 1) := by decide +kernel
theorem dX11_see_10 : decode cX11_see 10 = .ok (.iload_n 1, 1) := by decide +kernel
theorem dX11_see_11 : decode cX11_see 11 = .ok (.aload_n 0, 1) := by decide +kernel
theorem dX11_see_12 : decode cX11_see 12 = .ok (.getfield 108, 3) := by decide +kernel
theorem dX11_see_15 : decode cX11_see 15 = .ok (.if_icmp .ge 21, 3) := by decide +kernel
theorem dX11_see_18 : decode cX11_see 18 = .ok (.aload_n 0, 1) := by decide +kernel
theorem dX11_see_19 : decode cX11_see 19 = .ok (.getfield 54, 3) := by decide +kernel
theorem dX11_see_22 : decode cX11_see 22 = .ok (.iload_n 1, 1) := by decide +kernel
theorem dX11_see_23 : decode cX11_see 23 = .ok (.aload_n 0, 1) := by decide +kernel
theorem dX11_see_24 : decode cX11_see 24 = .ok (.getfield 13, 3) := by decide +kernel
theorem dX11_see_27 : decode cX11_see 27 = .ok (.iload_n 1, 1) := by decide +kernel
theorem dX11_see_28 : decode cX11_see 28 = .ok (.iaload, 1) := by decide +kernel
theorem dX11_see_29 : decode cX11_see 29 = .ok (.iastore, 1) := by decide +kernel
theorem dX11_see_30 : decode cX11_see 30 = .ok (.iinc 1 1, 3) := by decide +kernel
theorem dX11_see_33 : decode cX11_see 33 = .ok (.goto (-23), 3) := by decide +kernel
theorem dX11_see_36 : decode cX11_see 36 = .ok (.return_, 1) := by decide +kernel
theorem dX11_turnRow_0 : decode cX11_turnRow 0 = .ok (.iload_n 1, 1) := by decide +kernel
theorem dX11_turnRow_1 : decode cX11_turnRow 1 = .ok (.istore_n 3, 1) := by decide +kernel
theorem dX11_turnRow_2 : decode cX11_turnRow 2 = .ok (.iload_n 2, 1) := by decide +kernel
theorem dX11_turnRow_3 : decode cX11_turnRow 3 = .ok (.istore 4, 2) := by decide +kernel
theorem dX11_turnRow_5 : decode cX11_turnRow 5 = .ok (.iload_n 3, 1) := by decide +kernel
theorem dX11_turnRow_6 : decode cX11_turnRow 6 = .ok (.iload 4, 2) := by decide +kernel
theorem dX11_turnRow_8 : decode cX11_turnRow 8 = .ok (.if_icmp .ge 19, 3) := by decide +kernel
theorem dX11_turnRow_11 : decode cX11_turnRow 11 = .ok (.aload_n 0, 1) := by decide +kernel
theorem dX11_turnRow_12 : decode cX11_turnRow 12 = .ok (.iload_n 3, 1) := by decide +kernel
theorem dX11_turnRow_13 : decode cX11_turnRow 13 = .ok (.iload 4, 2) := by decide +kernel
theorem dX11_turnRow_15 : decode cX11_turnRow 15 = .ok (.invokevirtual 224, 3) := by decide +kernel
theorem dX11_turnRow_18 : decode cX11_turnRow 18 = .ok (.iinc 3 1, 3) := by decide +kernel
theorem dX11_turnRow_21 : decode cX11_turnRow 21 = .ok (.iinc 4 (-1), 3) := by decide +kernel
theorem dX11_turnRow_24 : decode cX11_turnRow 24 = .ok (.goto (-19), 3) := by decide +kernel
theorem dX11_turnRow_27 : decode cX11_turnRow 27 = .ok (.return_, 1) := by decide +kernel
theorem dX11_swapRow_0 : decode cX11_swapRow 0 = .ok (.aload_n 0, 1) := by decide +kernel
theorem dX11_swapRow_1 : decode cX11_swapRow 1 = .ok (.getfield 54, 3) := by decide +kernel
theorem dX11_swapRow_4 : decode cX11_swapRow 4 = .ok (.iload_n 1, 1) := by decide +kernel
theorem dX11_swapRow_5 : decode cX11_swapRow 5 = .ok (.iaload, 1) := by decide +kernel
theorem dX11_swapRow_6 : decode cX11_swapRow 6 = .ok (.istore_n 3, 1) := by decide +kernel
theorem dX11_swapRow_7 : decode cX11_swapRow 7 = .ok (.aload_n 0, 1) := by decide +kernel
theorem dX11_swapRow_8 : decode cX11_swapRow 8 = .ok (.getfield 54, 3) := by decide +kernel
theorem dX11_swapRow_11 : decode cX11_swapRow 11 = .ok (.iload_n 1, 1) := by decide +kernel
theorem dX11_swapRow_12 : decode cX11_swapRow 12 = .ok (.aload_n 0, 1) := by decide +kernel
theorem dX11_swapRow_13 : decode cX11_swapRow 13 = .ok (.getfield 54, 3) := by decide +kernel
theorem dX11_swapRow_16 : decode cX11_swapRow 16 = .ok (.iload_n 2, 1) := by decide +kernel
theorem dX11_swapRow_17 : decode cX11_swapRow 17 = .ok (.iaload, 1) := by decide +kernel
theorem dX11_swapRow_18 : decode cX11_swapRow 18 = .ok (.iastore, 1) := by decide +kernel
theorem dX11_swapRow_19 : decode cX11_swapRow 19 = .ok (.aload_n 0, 1) := by decide +kernel
theorem dX11_swapRow_20 : decode cX11_swapRow 20 = .ok (.getfield 54, 3) := by decide +kernel
theorem dX11_swapRow_23 : decode cX11_swapRow 23 = .ok (.iload_n 2, 1) := by decide +kernel
theorem dX11_swapRow_24 : decode cX11_swapRow 24 = .ok (.iload_n 3, 1) := by decide +kernel
theorem dX11_swapRow_25 : decode cX11_swapRow 25 = .ok (.iastore, 1) := by decide +kernel
theorem dX11_swapRow_26 : decode cX11_swapRow 26 = .ok (.return_, 1) := by decide +kernel
theorem dX11_isRowLawful_0 : decode cX11_isRowLawful 0 = .ok (.aload_n 0, 1) := by decide +kernel
theorem dX11_isRowLawful_1 : decode cX11_isRowLawful 1 = .ok (.invokevirtual 227, 3) := by decide +kernel
theorem dX11_isRowLawful_4 : decode cX11_isRowLawful 4 = .ok (.aload_n 0, 1) := by decide +kernel
theorem dX11_isRowLawful_5 : decode cX11_isRowLawful 5 = .ok (.invokevirtual 230, 3) := by decide +kernel
theorem dX11_isRowLawful_8 : decode cX11_isRowLawful 8 = .ok (.ireturn, 1) := by decide +kernel
theorem dX11_of_0 : decode cX11_of 0 = .ok (.iload_n 2, 1) := by decide +kernel
theorem dX11_of_1 : decode cX11_of 1 = .ok (.iconst 0, 1) := by decide +kernel
theorem dX11_of_2 : decode cX11_of 2 = .ok (.iconst 2, 1) := by decide +kernel
theorem dX11_of_3 : decode cX11_of 3 = .ok (.invokestatic 104, 3) := by decide +kernel
theorem dX11_of_6 : decode cX11_of 6 = .ok (.ifCond .eq 66, 3) := by decide +kernel
theorem dX11_of_9 : decode cX11_of 9 = .ok (.aload_n 0, 1) := by decide +kernel
theorem dX11_of_10 : decode cX11_of 10 = .ok (.iload_n 1, 1) := by decide +kernel
theorem dX11_of_11 : decode cX11_of 11 = .ok (.invokevirtual 136, 3) := by decide +kernel
theorem dX11_of_14 : decode cX11_of 14 = .ok (.ifCond .ne 5, 3) := by decide +kernel
theorem dX11_of_17 : decode cX11_of 17 = .ok (.iconst (-1), 1) := by decide +kernel
theorem dX11_of_18 : decode cX11_of 18 = .ok (.ireturn, 1) := by decide +kernel
theorem dX11_of_19 : decode cX11_of 19 = .ok (.aload_n 0, 1) := by decide +kernel
theorem dX11_of_20 : decode cX11_of 20 = .ok (.iload_n 1, 1) := by decide +kernel
theorem dX11_of_21 : decode cX11_of 21 = .ok (.invokevirtual 233, 3) := by decide +kernel
theorem dX11_of_24 : decode cX11_of 24 = .ok (.istore_n 3, 1) := by decide +kernel
theorem dX11_of_25 : decode cX11_of 25 = .ok (.iload_n 2, 1) := by decide +kernel
theorem dX11_of_26 : decode cX11_of 26 = .ok (.iconst 2, 1) := by decide +kernel
theorem dX11_of_27 : decode cX11_of 27 = .ok (.if_icmp .ge 18, 3) := by decide +kernel
theorem dX11_of_30 : decode cX11_of 30 = .ok (.iload_n 2, 1) := by decide +kernel
theorem dX11_of_31 : decode cX11_of 31 = .ok (.ifCond .ne 12, 3) := by decide +kernel
theorem dX11_of_34 : decode cX11_of 34 = .ok (.aload_n 0, 1) := by decide +kernel
theorem dX11_of_35 : decode cX11_of 35 = .ok (.getfield 7, 3) := by decide +kernel
theorem dX11_of_38 : decode cX11_of 38 = .ok (.iload_n 1, 1) := by decide +kernel
theorem dX11_of_39 : decode cX11_of 39 = .ok (.iaload, 1) := by decide +kernel
theorem dX11_of_40 : decode cX11_of 40 = .ok (.goto 4, 3) := by decide +kernel
theorem dX11_of_43 : decode cX11_of 43 = .ok (.iload_n 3, 1) := by decide +kernel
theorem dX11_of_44 : decode cX11_of 44 = .ok (.ireturn, 1) := by decide +kernel
theorem dX11_of_45 : decode cX11_of 45 = .ok (.aload_n 0, 1) := by decide +kernel
theorem dX11_of_46 : decode cX11_of 46 = .ok (.invokevirtual 227, 3) := by decide +kernel
theorem dX11_of_49 : decode cX11_of 49 = .ok (.iload_n 3, 1) := by decide +kernel
theorem dX11_of_50 : decode cX11_of 50 = .ok (.ifCond .ge 8, 3) := by decide +kernel
theorem dX11_of_53 : decode cX11_of 53 = .ok (.bipush (-2), 2) := by decide +kernel
theorem dX11_of_55 : decode cX11_of 55 = .ok (.goto 16, 3) := by decide +kernel
theorem dX11_of_58 : decode cX11_of 58 = .ok (.aload_n 0, 1) := by decide +kernel
theorem dX11_of_59 : decode cX11_of 59 = .ok (.iload_n 3, 1) := by decide +kernel
theorem dX11_of_60 : decode cX11_of 60 = .ok (.invokevirtual 221, 3) := by decide +kernel
theorem dX11_of_63 : decode cX11_of 63 = .ok (.ifCond .eq 7, 3) := by decide +kernel
theorem dX11_of_66 : decode cX11_of 66 = .ok (.iconst 1, 1) := by decide +kernel
theorem dX11_of_67 : decode cX11_of 67 = .ok (.goto 4, 3) := by decide +kernel
theorem dX11_of_70 : decode cX11_of 70 = .ok (.iconst 0, 1) := by decide +kernel
theorem dX11_of_71 : decode cX11_of 71 = .ok (.ireturn, 1) := by decide +kernel
theorem dX11_of_72 : decode cX11_of 72 = .ok (.iload_n 2, 1) := by decide +kernel
theorem dX11_of_73 : decode cX11_of 73 = .ok (.bipush 10, 2) := by decide +kernel
theorem dX11_of_75 : decode cX11_of 75 = .ok (.if_icmp .ne 22, 3) := by decide +kernel
theorem dX11_of_78 : decode cX11_of 78 = .ok (.aload_n 0, 1) := by decide +kernel
theorem dX11_of_79 : decode cX11_of 79 = .ok (.iload_n 1, 1) := by decide +kernel
theorem dX11_of_80 : decode cX11_of 80 = .ok (.invokevirtual 236, 3) := by decide +kernel
theorem dX11_of_83 : decode cX11_of 83 = .ok (.ifCond .eq 12, 3) := by decide +kernel
theorem dX11_of_86 : decode cX11_of 86 = .ok (.aload_n 0, 1) := by decide +kernel
theorem dX11_of_87 : decode cX11_of 87 = .ok (.getfield 13, 3) := by decide +kernel
theorem dX11_of_90 : decode cX11_of 90 = .ok (.iload_n 1, 1) := by decide +kernel
theorem dX11_of_91 : decode cX11_of 91 = .ok (.iaload, 1) := by decide +kernel
theorem dX11_of_92 : decode cX11_of 92 = .ok (.goto 4, 3) := by decide +kernel
theorem dX11_of_95 : decode cX11_of 95 = .ok (.iconst (-1), 1) := by decide +kernel
theorem dX11_of_96 : decode cX11_of 96 = .ok (.ireturn, 1) := by decide +kernel
theorem dX11_of_97 : decode cX11_of 97 = .ok (.iload_n 1, 1) := by decide +kernel
theorem dX11_of_98 : decode cX11_of 98 = .ok (.ifCond .ne 14, 3) := by decide +kernel
theorem dX11_of_101 : decode cX11_of 101 = .ok (.iload_n 2, 1) := by decide +kernel
theorem dX11_of_102 : decode cX11_of 102 = .ok (.bipush 20, 2) := by decide +kernel
theorem dX11_of_104 : decode cX11_of 104 = .ok (.bipush 23, 2) := by decide +kernel
theorem dX11_of_106 : decode cX11_of 106 = .ok (.invokestatic 104, 3) := by decide +kernel
theorem dX11_of_109 : decode cX11_of 109 = .ok (.ifCond .ne 5, 3) := by decide +kernel
theorem dX11_of_112 : decode cX11_of 112 = .ok (.iconst (-1), 1) := by decide +kernel
theorem dX11_of_113 : decode cX11_of 113 = .ok (.ireturn, 1) := by decide +kernel
theorem dX11_of_114 : decode cX11_of 114 = .ok (.iload_n 2, 1) := by decide +kernel
theorem dX11_of_115 : decode cX11_of 115 = .ok (.bipush 20, 2) := by decide +kernel
theorem dX11_of_117 : decode cX11_of 117 = .ok (.if_icmp .ne 10, 3) := by decide +kernel
theorem dX11_of_120 : decode cX11_of 120 = .ok (.aload_n 0, 1) := by decide +kernel
theorem dX11_of_121 : decode cX11_of 121 = .ok (.getfield 119, 3) := by decide +kernel
theorem dX11_of_124 : decode cX11_of 124 = .ok (.goto 41, 3) := by decide +kernel
theorem dX11_of_127 : decode cX11_of 127 = .ok (.iload_n 2, 1) := by decide +kernel
theorem dX11_of_128 : decode cX11_of 128 = .ok (.bipush 21, 2) := by decide +kernel
theorem dX11_of_130 : decode cX11_of 130 = .ok (.if_icmp .ne 18, 3) := by decide +kernel
theorem dX11_of_133 : decode cX11_of 133 = .ok (.aload_n 0, 1) := by decide +kernel
theorem dX11_of_134 : decode cX11_of 134 = .ok (.invokevirtual 239, 3) := by decide +kernel
theorem dX11_of_137 : decode cX11_of 137 = .ok (.ifCond .eq 7, 3) := by decide +kernel
theorem dX11_of_140 : decode cX11_of 140 = .ok (.iconst 1, 1) := by decide +kernel
theorem dX11_of_141 : decode cX11_of 141 = .ok (.goto 24, 3) := by decide +kernel
theorem dX11_of_144 : decode cX11_of 144 = .ok (.iconst 0, 1) := by decide +kernel
theorem dX11_of_145 : decode cX11_of 145 = .ok (.goto 20, 3) := by decide +kernel
theorem dX11_of_148 : decode cX11_of 148 = .ok (.iload_n 2, 1) := by decide +kernel
theorem dX11_of_149 : decode cX11_of 149 = .ok (.bipush 22, 2) := by decide +kernel
theorem dX11_of_151 : decode cX11_of 151 = .ok (.if_icmp .ne 10, 3) := by decide +kernel
theorem dX11_of_154 : decode cX11_of 154 = .ok (.aload_n 0, 1) := by decide +kernel
theorem dX11_of_155 : decode cX11_of 155 = .ok (.getfield 242, 3) := by decide +kernel
theorem dX11_of_158 : decode cX11_of 158 = .ok (.goto 7, 3) := by decide +kernel
theorem dX11_of_161 : decode cX11_of 161 = .ok (.aload_n 0, 1) := by decide +kernel
theorem dX11_of_162 : decode cX11_of 162 = .ok (.getfield 245, 3) := by decide +kernel
theorem dX11_of_165 : decode cX11_of 165 = .ok (.ireturn, 1) := by decide +kernel
theorem dX11_lead_0 : decode cX11_lead 0 = .ok (.aload_n 0, 1) := by decide +kernel
theorem dX11_lead_1 : decode cX11_lead 1 = .ok (.dup, 1) := by decide +kernel
theorem dX11_lead_2 : decode cX11_lead 2 = .ok (.getfield 242, 3) := by decide +kernel
theorem dX11_lead_5 : decode cX11_lead 5 = .ok (.iconst 1, 1) := by decide +kernel
theorem dX11_lead_6 : decode cX11_lead 6 = .ok (.iadd, 1) := by decide +kernel
theorem dX11_lead_7 : decode cX11_lead 7 = .ok (.putfield 242, 3) := by decide +kernel
theorem dX11_lead_10 : decode cX11_lead 10 = .ok (.aload_n 0, 1) := by decide +kernel
theorem dX11_lead_11 : decode cX11_lead 11 = .ok (.invokevirtual 239, 3) := by decide +kernel
theorem dX11_lead_14 : decode cX11_lead 14 = .ok (.ifCond .ne 13, 3) := by decide +kernel
theorem dX11_lead_17 : decode cX11_lead 17 = .ok (.aload_n 0, 1) := by decide +kernel
theorem dX11_lead_18 : decode cX11_lead 18 = .ok (.dup, 1) := by decide +kernel
theorem dX11_lead_19 : decode cX11_lead 19 = .ok (.getfield 245, 3) := by decide +kernel
theorem dX11_lead_22 : decode cX11_lead 22 = .ok (.iconst 1, 1) := by decide +kernel
theorem dX11_lead_23 : decode cX11_lead 23 = .ok (.iadd, 1) := by decide +kernel
theorem dX11_lead_24 : decode cX11_lead 24 = .ok (.putfield 245, 3) := by decide +kernel
theorem dX11_lead_27 : decode cX11_lead 27 = .ok (.return_, 1) := by decide +kernel
theorem dX11_set_0 : decode cX11_set 0 = .ok (.aload_n 0, 1) := by decide +kernel
theorem dX11_set_1 : decode cX11_set 1 = .ok (.iload_n 1, 1) := by decide +kernel
theorem dX11_set_2 : decode cX11_set 2 = .ok (.invokevirtual 136, 3) := by decide +kernel
theorem dX11_set_5 : decode cX11_set 5 = .ok (.ifCond .eq 15, 3) := by decide +kernel
theorem dX11_set_8 : decode cX11_set 8 = .ok (.iload_n 2, 1) := by decide +kernel
theorem dX11_set_9 : decode cX11_set 9 = .ok (.iconst 0, 1) := by decide +kernel
theorem dX11_set_10 : decode cX11_set 10 = .ok (.aload_n 0, 1) := by decide +kernel
theorem dX11_set_11 : decode cX11_set 11 = .ok (.getfield 108, 3) := by decide +kernel
theorem dX11_set_14 : decode cX11_set 14 = .ok (.invokestatic 104, 3) := by decide +kernel
theorem dX11_set_17 : decode cX11_set 17 = .ok (.ifCond .ne 5, 3) := by decide +kernel
theorem dX11_set_20 : decode cX11_set 20 = .ok (.iconst (-1), 1) := by decide +kernel
theorem dX11_set_21 : decode cX11_set 21 = .ok (.ireturn, 1) := by decide +kernel
theorem dX11_set_22 : decode cX11_set 22 = .ok (.aload_n 0, 1) := by decide +kernel
theorem dX11_set_23 : decode cX11_set 23 = .ok (.iload_n 1, 1) := by decide +kernel
theorem dX11_set_24 : decode cX11_set 24 = .ok (.invokevirtual 233, 3) := by decide +kernel
theorem dX11_set_27 : decode cX11_set 27 = .ok (.ifCond .lt 6, 3) := by decide +kernel
theorem dX11_set_30 : decode cX11_set 30 = .ok (.bipush (-5), 2) := by decide +kernel
theorem dX11_set_32 : decode cX11_set 32 = .ok (.ireturn, 1) := by decide +kernel
theorem dX11_set_33 : decode cX11_set 33 = .ok (.aload_n 0, 1) := by decide +kernel
theorem dX11_set_34 : decode cX11_set 34 = .ok (.getfield 108, 3) := by decide +kernel
theorem dX11_set_37 : decode cX11_set 37 = .ok (.istore_n 3, 1) := by decide +kernel
theorem dX11_set_38 : decode cX11_set 38 = .ok (.iload_n 3, 1) := by decide +kernel
theorem dX11_set_39 : decode cX11_set 39 = .ok (.iload_n 2, 1) := by decide +kernel
theorem dX11_set_40 : decode cX11_set 40 = .ok (.if_icmp .le 23, 3) := by decide +kernel
theorem dX11_set_43 : decode cX11_set 43 = .ok (.aload_n 0, 1) := by decide +kernel
theorem dX11_set_44 : decode cX11_set 44 = .ok (.getfield 13, 3) := by decide +kernel
theorem dX11_set_47 : decode cX11_set 47 = .ok (.iload_n 3, 1) := by decide +kernel
theorem dX11_set_48 : decode cX11_set 48 = .ok (.aload_n 0, 1) := by decide +kernel
theorem dX11_set_49 : decode cX11_set 49 = .ok (.getfield 13, 3) := by decide +kernel
theorem dX11_set_52 : decode cX11_set 52 = .ok (.iload_n 3, 1) := by decide +kernel
theorem dX11_set_53 : decode cX11_set 53 = .ok (.iconst 1, 1) := by decide +kernel
theorem dX11_set_54 : decode cX11_set 54 = .ok (.isub, 1) := by decide +kernel
theorem dX11_set_55 : decode cX11_set 55 = .ok (.iaload, 1) := by decide +kernel
theorem dX11_set_56 : decode cX11_set 56 = .ok (.iastore, 1) := by decide +kernel
theorem dX11_set_57 : decode cX11_set 57 = .ok (.iinc 3 (-1), 3) := by decide +kernel
theorem dX11_set_60 : decode cX11_set 60 = .ok (.goto (-22), 3) := by decide +kernel
theorem dX11_set_63 : decode cX11_set 63 = .ok (.aload_n 0, 1) := by decide +kernel
theorem dX11_set_64 : decode cX11_set 64 = .ok (.getfield 13, 3) := by decide +kernel
theorem dX11_set_67 : decode cX11_set 67 = .ok (.iload_n 2, 1) := by decide +kernel
theorem dX11_set_68 : decode cX11_set 68 = .ok (.iload_n 1, 1) := by decide +kernel
theorem dX11_set_69 : decode cX11_set 69 = .ok (.iastore, 1) := by decide +kernel
theorem dX11_set_70 : decode cX11_set 70 = .ok (.aload_n 0, 1) := by decide +kernel
theorem dX11_set_71 : decode cX11_set 71 = .ok (.dup, 1) := by decide +kernel
theorem dX11_set_72 : decode cX11_set 72 = .ok (.getfield 108, 3) := by decide +kernel
theorem dX11_set_75 : decode cX11_set 75 = .ok (.iconst 1, 1) := by decide +kernel
theorem dX11_set_76 : decode cX11_set 76 = .ok (.iadd, 1) := by decide +kernel
theorem dX11_set_77 : decode cX11_set 77 = .ok (.putfield 108, 3) := by decide +kernel
theorem dX11_set_80 : decode cX11_set 80 = .ok (.aload_n 0, 1) := by decide +kernel
theorem dX11_set_81 : decode cX11_set 81 = .ok (.invokevirtual 248, 3) := by decide +kernel
theorem dX11_set_84 : decode cX11_set 84 = .ok (.aload_n 0, 1) := by decide +kernel
theorem dX11_set_85 : decode cX11_set 85 = .ok (.getfield 108, 3) := by decide +kernel
theorem dX11_set_88 : decode cX11_set 88 = .ok (.ireturn, 1) := by decide +kernel
theorem dX11_take_0 : decode cX11_take 0 = .ok (.aload_n 0, 1) := by decide +kernel
theorem dX11_take_1 : decode cX11_take 1 = .ok (.iload_n 1, 1) := by decide +kernel
theorem dX11_take_2 : decode cX11_take 2 = .ok (.invokevirtual 236, 3) := by decide +kernel
theorem dX11_take_5 : decode cX11_take 5 = .ok (.ifCond .ne 5, 3) := by decide +kernel
theorem dX11_take_8 : decode cX11_take 8 = .ok (.iconst (-1), 1) := by decide +kernel
theorem dX11_take_9 : decode cX11_take 9 = .ok (.ireturn, 1) := by decide +kernel
theorem dX11_take_10 : decode cX11_take 10 = .ok (.aload_n 0, 1) := by decide +kernel
theorem dX11_take_11 : decode cX11_take 11 = .ok (.getfield 13, 3) := by decide +kernel
theorem dX11_take_14 : decode cX11_take 14 = .ok (.iload_n 1, 1) := by decide +kernel
theorem dX11_take_15 : decode cX11_take 15 = .ok (.iaload, 1) := by decide +kernel
theorem dX11_take_16 : decode cX11_take 16 = .ok (.istore_n 2, 1) := by decide +kernel
theorem dX11_take_17 : decode cX11_take 17 = .ok (.aload_n 0, 1) := by decide +kernel
theorem dX11_take_18 : decode cX11_take 18 = .ok (.dup, 1) := by decide +kernel
theorem dX11_take_19 : decode cX11_take 19 = .ok (.getfield 108, 3) := by decide +kernel
theorem dX11_take_22 : decode cX11_take 22 = .ok (.iconst 1, 1) := by decide +kernel
theorem dX11_take_23 : decode cX11_take 23 = .ok (.isub, 1) := by decide +kernel
theorem dX11_take_24 : decode cX11_take 24 = .ok (.putfield 108, 3) := by decide +kernel
theorem dX11_take_27 : decode cX11_take 27 = .ok (.iload_n 1, 1) := by decide +kernel
theorem dX11_take_28 : decode cX11_take 28 = .ok (.istore_n 3, 1) := by decide +kernel
theorem dX11_take_29 : decode cX11_take 29 = .ok (.iload_n 3, 1) := by decide +kernel
theorem dX11_take_30 : decode cX11_take 30 = .ok (.aload_n 0, 1) := by decide +kernel
theorem dX11_take_31 : decode cX11_take 31 = .ok (.getfield 108, 3) := by decide +kernel
theorem dX11_take_34 : decode cX11_take 34 = .ok (.if_icmp .ge 23, 3) := by decide +kernel
theorem dX11_take_37 : decode cX11_take 37 = .ok (.aload_n 0, 1) := by decide +kernel
theorem dX11_take_38 : decode cX11_take 38 = .ok (.getfield 13, 3) := by decide +kernel
theorem dX11_take_41 : decode cX11_take 41 = .ok (.iload_n 3, 1) := by decide +kernel
theorem dX11_take_42 : decode cX11_take 42 = .ok (.aload_n 0, 1) := by decide +kernel
theorem dX11_take_43 : decode cX11_take 43 = .ok (.getfield 13, 3) := by decide +kernel
theorem dX11_take_46 : decode cX11_take 46 = .ok (.iload_n 3, 1) := by decide +kernel
theorem dX11_take_47 : decode cX11_take 47 = .ok (.iconst 1, 1) := by decide +kernel
theorem dX11_take_48 : decode cX11_take 48 = .ok (.iadd, 1) := by decide +kernel
theorem dX11_take_49 : decode cX11_take 49 = .ok (.iaload, 1) := by decide +kernel
theorem dX11_take_50 : decode cX11_take 50 = .ok (.iastore, 1) := by decide +kernel
theorem dX11_take_51 : decode cX11_take 51 = .ok (.iinc 3 1, 3) := by decide +kernel
theorem dX11_take_54 : decode cX11_take 54 = .ok (.goto (-25), 3) := by decide +kernel
theorem dX11_take_57 : decode cX11_take 57 = .ok (.aload_n 0, 1) := by decide +kernel
theorem dX11_take_58 : decode cX11_take 58 = .ok (.invokevirtual 248, 3) := by decide +kernel
theorem dX11_take_61 : decode cX11_take 61 = .ok (.iload_n 2, 1) := by decide +kernel
theorem dX11_take_62 : decode cX11_take 62 = .ok (.ireturn, 1) := by decide +kernel
theorem dX11_turn_0 : decode cX11_turn 0 = .ok (.iload_n 1, 1) := by decide +kernel
theorem dX11_turn_1 : decode cX11_turn 1 = .ok (.ifCond .lt 36, 3) := by decide +kernel
theorem dX11_turn_4 : decode cX11_turn 4 = .ok (.aload_n 0, 1) := by decide +kernel
theorem dX11_turn_5 : decode cX11_turn 5 = .ok (.iload_n 1, 1) := by decide +kernel
theorem dX11_turn_6 : decode cX11_turn 6 = .ok (.bipush 10, 2) := by decide +kernel
theorem dX11_turn_8 : decode cX11_turn 8 = .ok (.idiv, 1) := by decide +kernel
theorem dX11_turn_9 : decode cX11_turn 9 = .ok (.invokevirtual 236, 3) := by decide +kernel
theorem dX11_turn_12 : decode cX11_turn 12 = .ok (.ifCond .eq 25, 3) := by decide +kernel
theorem dX11_turn_15 : decode cX11_turn 15 = .ok (.aload_n 0, 1) := by decide +kernel
theorem dX11_turn_16 : decode cX11_turn 16 = .ok (.iload_n 1, 1) := by decide +kernel
theorem dX11_turn_17 : decode cX11_turn 17 = .ok (.bipush 10, 2) := by decide +kernel
theorem dX11_turn_19 : decode cX11_turn 19 = .ok (.irem, 1) := by decide +kernel
theorem dX11_turn_20 : decode cX11_turn 20 = .ok (.invokevirtual 236, 3) := by decide +kernel
theorem dX11_turn_23 : decode cX11_turn 23 = .ok (.ifCond .eq 14, 3) := by decide +kernel
theorem dX11_turn_26 : decode cX11_turn 26 = .ok (.iload_n 1, 1) := by decide +kernel
theorem dX11_turn_27 : decode cX11_turn 27 = .ok (.bipush 10, 2) := by decide +kernel
theorem dX11_turn_29 : decode cX11_turn 29 = .ok (.idiv, 1) := by decide +kernel
theorem dX11_turn_30 : decode cX11_turn 30 = .ok (.iload_n 1, 1) := by decide +kernel
theorem dX11_turn_31 : decode cX11_turn 31 = .ok (.bipush 10, 2) := by decide +kernel
theorem dX11_turn_33 : decode cX11_turn 33 = .ok (.irem, 1) := by decide +kernel
theorem dX11_turn_34 : decode cX11_turn 34 = .ok (.if_icmp .lt 5, 3) := by decide +kernel
theorem dX11_turn_37 : decode cX11_turn 37 = .ok (.iconst (-1), 1) := by decide +kernel
theorem dX11_turn_38 : decode cX11_turn 38 = .ok (.ireturn, 1) := by decide +kernel
theorem dX11_turn_39 : decode cX11_turn 39 = .ok (.aload_n 0, 1) := by decide +kernel
theorem dX11_turn_40 : decode cX11_turn 40 = .ok (.invokevirtual 227, 3) := by decide +kernel
theorem dX11_turn_43 : decode cX11_turn 43 = .ok (.aload_n 0, 1) := by decide +kernel
theorem dX11_turn_44 : decode cX11_turn 44 = .ok (.iload_n 1, 1) := by decide +kernel
theorem dX11_turn_45 : decode cX11_turn 45 = .ok (.bipush 10, 2) := by decide +kernel
theorem dX11_turn_47 : decode cX11_turn 47 = .ok (.idiv, 1) := by decide +kernel
theorem dX11_turn_48 : decode cX11_turn 48 = .ok (.iload_n 1, 1) := by decide +kernel
theorem dX11_turn_49 : decode cX11_turn 49 = .ok (.bipush 10, 2) := by decide +kernel
theorem dX11_turn_51 : decode cX11_turn 51 = .ok (.irem, 1) := by decide +kernel
theorem dX11_turn_52 : decode cX11_turn 52 = .ok (.invokevirtual 251, 3) := by decide +kernel
theorem dX11_turn_55 : decode cX11_turn 55 = .ok (.iconst 0, 1) := by decide +kernel
theorem dX11_turn_56 : decode cX11_turn 56 = .ok (.istore_n 2, 1) := by decide +kernel
theorem dX11_turn_57 : decode cX11_turn 57 = .ok (.iload_n 2, 1) := by decide +kernel
theorem dX11_turn_58 : decode cX11_turn 58 = .ok (.aload_n 0, 1) := by decide +kernel
theorem dX11_turn_59 : decode cX11_turn 59 = .ok (.getfield 108, 3) := by decide +kernel
theorem dX11_turn_62 : decode cX11_turn 62 = .ok (.if_icmp .ge 21, 3) := by decide +kernel
theorem dX11_turn_65 : decode cX11_turn 65 = .ok (.aload_n 0, 1) := by decide +kernel
theorem dX11_turn_66 : decode cX11_turn 66 = .ok (.getfield 13, 3) := by decide +kernel
theorem dX11_turn_69 : decode cX11_turn 69 = .ok (.iload_n 2, 1) := by decide +kernel
theorem dX11_turn_70 : decode cX11_turn 70 = .ok (.aload_n 0, 1) := by decide +kernel
theorem dX11_turn_71 : decode cX11_turn 71 = .ok (.getfield 54, 3) := by decide +kernel
theorem dX11_turn_74 : decode cX11_turn 74 = .ok (.iload_n 2, 1) := by decide +kernel
theorem dX11_turn_75 : decode cX11_turn 75 = .ok (.iaload, 1) := by decide +kernel
theorem dX11_turn_76 : decode cX11_turn 76 = .ok (.iastore, 1) := by decide +kernel
theorem dX11_turn_77 : decode cX11_turn 77 = .ok (.iinc 2 1, 3) := by decide +kernel
theorem dX11_turn_80 : decode cX11_turn 80 = .ok (.goto (-23), 3) := by decide +kernel
theorem dX11_turn_83 : decode cX11_turn 83 = .ok (.aload_n 0, 1) := by decide +kernel
theorem dX11_turn_84 : decode cX11_turn 84 = .ok (.invokevirtual 248, 3) := by decide +kernel
theorem dX11_turn_87 : decode cX11_turn 87 = .ok (.iload_n 1, 1) := by decide +kernel
theorem dX11_turn_88 : decode cX11_turn 88 = .ok (.bipush 10, 2) := by decide +kernel
theorem dX11_turn_90 : decode cX11_turn 90 = .ok (.irem, 1) := by decide +kernel
theorem dX11_turn_91 : decode cX11_turn 91 = .ok (.iload_n 1, 1) := by decide +kernel
theorem dX11_turn_92 : decode cX11_turn 92 = .ok (.bipush 10, 2) := by decide +kernel
theorem dX11_turn_94 : decode cX11_turn 94 = .ok (.idiv, 1) := by decide +kernel
theorem dX11_turn_95 : decode cX11_turn 95 = .ok (.isub, 1) := by decide +kernel
theorem dX11_turn_96 : decode cX11_turn 96 = .ok (.iconst 1, 1) := by decide +kernel
theorem dX11_turn_97 : decode cX11_turn 97 = .ok (.iadd, 1) := by decide +kernel
theorem dX11_turn_98 : decode cX11_turn 98 = .ok (.ireturn, 1) := by decide +kernel
theorem dX11_broken_0 : decode cX11_broken 0 = .ok (.aload_n 0, 1) := by decide +kernel
theorem dX11_broken_1 : decode cX11_broken 1 = .ok (.invokevirtual 227, 3) := by decide +kernel
theorem dX11_broken_4 : decode cX11_broken 4 = .ok (.iconst 0, 1) := by decide +kernel
theorem dX11_broken_5 : decode cX11_broken 5 = .ok (.istore_n 1, 1) := by decide +kernel
theorem dX11_broken_6 : decode cX11_broken 6 = .ok (.iload_n 1, 1) := by decide +kernel
theorem dX11_broken_7 : decode cX11_broken 7 = .ok (.aload_n 0, 1) := by decide +kernel
theorem dX11_broken_8 : decode cX11_broken 8 = .ok (.getfield 108, 3) := by decide +kernel
theorem dX11_broken_11 : decode cX11_broken 11 = .ok (.if_icmp .ge 19, 3) := by decide +kernel
theorem dX11_broken_14 : decode cX11_broken 14 = .ok (.aload_n 0, 1) := by decide +kernel
theorem dX11_broken_15 : decode cX11_broken 15 = .ok (.iload_n 1, 1) := by decide +kernel
theorem dX11_broken_16 : decode cX11_broken 16 = .ok (.invokevirtual 221, 3) := by decide +kernel
theorem dX11_broken_19 : decode cX11_broken 19 = .ok (.ifCond .ne 5, 3) := by decide +kernel
theorem dX11_broken_22 : decode cX11_broken 22 = .ok (.iload_n 1, 1) := by decide +kernel
theorem dX11_broken_23 : decode cX11_broken 23 = .ok (.ireturn, 1) := by decide +kernel
theorem dX11_broken_24 : decode cX11_broken 24 = .ok (.iinc 1 1, 3) := by decide +kernel
theorem dX11_broken_27 : decode cX11_broken 27 = .ok (.goto (-21), 3) := by decide +kernel
theorem dX11_broken_30 : decode cX11_broken 30 = .ok (.bipush (-2), 2) := by decide +kernel
theorem dX11_broken_32 : decode cX11_broken 32 = .ok (.ireturn, 1) := by decide +kernel
theorem dX11_lookWithout_0 : decode cX11_lookWithout 0 = .ok (.aload_n 0, 1) := by decide +kernel
theorem dX11_lookWithout_1 : decode cX11_lookWithout 1 = .ok (.iconst 0, 1) := by decide +kernel
theorem dX11_lookWithout_2 : decode cX11_lookWithout 2 = .ok (.putfield 212, 3) := by decide +kernel
theorem dX11_lookWithout_5 : decode cX11_lookWithout 5 = .ok (.iconst 0, 1) := by decide +kernel
theorem dX11_lookWithout_6 : decode cX11_lookWithout 6 = .ok (.istore_n 2, 1) := by decide +kernel
theorem dX11_lookWithout_7 : decode cX11_lookWithout 7 = .ok (.iload_n 2, 1) := by decide +kernel
theorem dX11_lookWithout_8 : decode cX11_lookWithout 8 = .ok (.aload_n 0, 1) := by decide +kernel
theorem dX11_lookWithout_9 : decode cX11_lookWithout 9 = .ok (.getfield 108, 3) := by decide +kernel
theorem dX11_lookWithout_12 : decode cX11_lookWithout 12 = .ok (.if_icmp .ge 51, 3) := by decide +kernel
theorem dX11_lookWithout_15 : decode cX11_lookWithout 15 = .ok (.iload_n 1, 1) := by decide +kernel
theorem dX11_lookWithout_16 : decode cX11_lookWithout 16 = .ok (.aload_n 0, 1) := by decide +kernel
theorem dX11_lookWithout_17 : decode cX11_lookWithout 17 = .ok (.getfield 13, 3) := by decide +kernel
theorem dX11_lookWithout_20 : decode cX11_lookWithout 20 = .ok (.iload_n 2, 1) := by decide +kernel
theorem dX11_lookWithout_21 : decode cX11_lookWithout 21 = .ok (.iaload, 1) := by decide +kernel
theorem dX11_lookWithout_22 : decode cX11_lookWithout 22 = .ok (.ishr, 1) := by decide +kernel
theorem dX11_lookWithout_23 : decode cX11_lookWithout 23 = .ok (.iconst 1, 1) := by decide +kernel
theorem dX11_lookWithout_24 : decode cX11_lookWithout 24 = .ok (.iand, 1) := by decide +kernel
theorem dX11_lookWithout_25 : decode cX11_lookWithout 25 = .ok (.iconst 1, 1) := by decide +kernel
theorem dX11_lookWithout_26 : decode cX11_lookWithout 26 = .ok (.if_icmp .ne 6, 3) := by decide +kernel
theorem dX11_lookWithout_29 : decode cX11_lookWithout 29 = .ok (.goto 28, 3) := by decide +kernel
theorem dX11_lookWithout_32 : decode cX11_lookWithout 32 = .ok (.aload_n 0, 1) := by decide +kernel
theorem dX11_lookWithout_33 : decode cX11_lookWithout 33 = .ok (.getfield 54, 3) := by decide +kernel
theorem dX11_lookWithout_36 : decode cX11_lookWithout 36 = .ok (.aload_n 0, 1) := by decide +kernel
theorem dX11_lookWithout_37 : decode cX11_lookWithout 37 = .ok (.getfield 212, 3) := by decide +kernel
theorem dX11_lookWithout_40 : decode cX11_lookWithout 40 = .ok (.aload_n 0, 1) := by decide +kernel
theorem dX11_lookWithout_41 : decode cX11_lookWithout 41 = .ok (.getfield 13, 3) := by decide +kernel
theorem dX11_lookWithout_44 : decode cX11_lookWithout 44 = .ok (.iload_n 2, 1) := by decide +kernel
theorem dX11_lookWithout_45 : decode cX11_lookWithout 45 = .ok (.iaload, 1) := by decide +kernel
theorem dX11_lookWithout_46 : decode cX11_lookWithout 46 = .ok (.iastore, 1) := by decide +kernel
theorem dX11_lookWithout_47 : decode cX11_lookWithout 47 = .ok (.aload_n 0, 1) := by decide +kernel
theorem dX11_lookWithout_48 : decode cX11_lookWithout 48 = .ok (.dup, 1) := by decide +kernel
theorem dX11_lookWithout_49 : decode cX11_lookWithout 49 = .ok (.getfield 212, 3) := by decide +kernel
theorem dX11_lookWithout_52 : decode cX11_lookWithout 52 = .ok (.iconst 1, 1) := by decide +kernel
theorem dX11_lookWithout_53 : decode cX11_lookWithout 53 = .ok (.iadd, 1) := by decide +kernel
theorem dX11_lookWithout_54 : decode cX11_lookWithout 54 = .ok (.putfield 212, 3) := by decide +kernel
theorem dX11_lookWithout_57 : decode cX11_lookWithout 57 = .ok (.iinc 2 1, 3) := by decide +kernel
theorem dX11_lookWithout_60 : decode cX11_lookWithout 60 = .ok (.goto (-53), 3) := by decide +kernel
theorem dX11_lookWithout_63 : decode cX11_lookWithout 63 = .ok (.return_, 1) := by decide +kernel
theorem dX11_maySell_0 : decode cX11_maySell 0 = .ok (.iconst 0, 1) := by decide +kernel
theorem dX11_maySell_1 : decode cX11_maySell 1 = .ok (.istore_n 1, 1) := by decide +kernel
theorem dX11_maySell_2 : decode cX11_maySell 2 = .ok (.iconst 0, 1) := by decide +kernel
theorem dX11_maySell_3 : decode cX11_maySell 3 = .ok (.istore_n 2, 1) := by decide +kernel
theorem dX11_maySell_4 : decode cX11_maySell 4 = .ok (.iload_n 2, 1) := by decide +kernel
theorem dX11_maySell_5 : decode cX11_maySell 5 = .ok (.aload_n 0, 1) := by decide +kernel
theorem dX11_maySell_6 : decode cX11_maySell 6 = .ok (.getfield 108, 3) := by decide +kernel
theorem dX11_maySell_9 : decode cX11_maySell 9 = .ok (.if_icmp .ge 39, 3) := by decide +kernel
theorem dX11_maySell_12 : decode cX11_maySell 12 = .ok (.aload_n 0, 1) := by decide +kernel
theorem dX11_maySell_13 : decode cX11_maySell 13 = .ok (.iconst 1, 1) := by decide +kernel
theorem dX11_maySell_14 : decode cX11_maySell 14 = .ok (.aload_n 0, 1) := by decide +kernel
theorem dX11_maySell_15 : decode cX11_maySell 15 = .ok (.getfield 13, 3) := by decide +kernel
theorem dX11_maySell_18 : decode cX11_maySell 18 = .ok (.iload_n 2, 1) := by decide +kernel
theorem dX11_maySell_19 : decode cX11_maySell 19 = .ok (.iaload, 1) := by decide +kernel
theorem dX11_maySell_20 : decode cX11_maySell 20 = .ok (.ishl, 1) := by decide +kernel
theorem dX11_maySell_21 : decode cX11_maySell 21 = .ok (.invokevirtual 254, 3) := by decide +kernel
theorem dX11_maySell_24 : decode cX11_maySell 24 = .ok (.aload_n 0, 1) := by decide +kernel
theorem dX11_maySell_25 : decode cX11_maySell 25 = .ok (.invokevirtual 230, 3) := by decide +kernel
theorem dX11_maySell_28 : decode cX11_maySell 28 = .ok (.ifCond .eq 14, 3) := by decide +kernel
theorem dX11_maySell_31 : decode cX11_maySell 31 = .ok (.iload_n 1, 1) := by decide +kernel
theorem dX11_maySell_32 : decode cX11_maySell 32 = .ok (.iconst 1, 1) := by decide +kernel
theorem dX11_maySell_33 : decode cX11_maySell 33 = .ok (.aload_n 0, 1) := by decide +kernel
theorem dX11_maySell_34 : decode cX11_maySell 34 = .ok (.getfield 13, 3) := by decide +kernel
theorem dX11_maySell_37 : decode cX11_maySell 37 = .ok (.iload_n 2, 1) := by decide +kernel
theorem dX11_maySell_38 : decode cX11_maySell 38 = .ok (.iaload, 1) := by decide +kernel
theorem dX11_maySell_39 : decode cX11_maySell 39 = .ok (.ishl, 1) := by decide +kernel
theorem dX11_maySell_40 : decode cX11_maySell 40 = .ok (.ior, 1) := by decide +kernel
theorem dX11_maySell_41 : decode cX11_maySell 41 = .ok (.istore_n 1, 1) := by decide +kernel
theorem dX11_maySell_42 : decode cX11_maySell 42 = .ok (.iinc 2 1, 3) := by decide +kernel
theorem dX11_maySell_45 : decode cX11_maySell 45 = .ok (.goto (-41), 3) := by decide +kernel
theorem dX11_maySell_48 : decode cX11_maySell 48 = .ok (.iload_n 1, 1) := by decide +kernel
theorem dX11_maySell_49 : decode cX11_maySell 49 = .ok (.ireturn, 1) := by decide +kernel
theorem dX11_ways_0 : decode cX11_ways 0 = .ok (.iload_n 1, 1) := by decide +kernel
theorem dX11_ways_1 : decode cX11_ways 1 = .ok (.iconst 0, 1) := by decide +kernel
theorem dX11_ways_2 : decode cX11_ways 2 = .ok (.iconst 1, 1) := by decide +kernel
theorem dX11_ways_3 : decode cX11_ways 3 = .ok (.invokestatic 104, 3) := by decide +kernel
theorem dX11_ways_6 : decode cX11_ways 6 = .ok (.ifCond .ne 5, 3) := by decide +kernel
theorem dX11_ways_9 : decode cX11_ways 9 = .ok (.iconst (-1), 1) := by decide +kernel
theorem dX11_ways_10 : decode cX11_ways 10 = .ok (.ireturn, 1) := by decide +kernel
theorem dX11_ways_11 : decode cX11_ways 11 = .ok (.iconst 0, 1) := by decide +kernel
theorem dX11_ways_12 : decode cX11_ways 12 = .ok (.istore_n 2, 1) := by decide +kernel
theorem dX11_ways_13 : decode cX11_ways 13 = .ok (.iconst 0, 1) := by decide +kernel
theorem dX11_ways_14 : decode cX11_ways 14 = .ok (.istore_n 3, 1) := by decide +kernel
theorem dX11_ways_15 : decode cX11_ways 15 = .ok (.iload_n 3, 1) := by decide +kernel
theorem dX11_ways_16 : decode cX11_ways 16 = .ok (.aload_n 0, 1) := by decide +kernel
theorem dX11_ways_17 : decode cX11_ways 17 = .ok (.getfield 108, 3) := by decide +kernel
theorem dX11_ways_20 : decode cX11_ways 20 = .ok (.if_icmp .ge 64, 3) := by decide +kernel
theorem dX11_ways_23 : decode cX11_ways 23 = .ok (.iload_n 3, 1) := by decide +kernel
theorem dX11_ways_24 : decode cX11_ways 24 = .ok (.iconst 1, 1) := by decide +kernel
theorem dX11_ways_25 : decode cX11_ways 25 = .ok (.iadd, 1) := by decide +kernel
theorem dX11_ways_26 : decode cX11_ways 26 = .ok (.istore 4, 2) := by decide +kernel
theorem dX11_ways_28 : decode cX11_ways 28 = .ok (.iload 4, 2) := by decide +kernel
theorem dX11_ways_30 : decode cX11_ways 30 = .ok (.aload_n 0, 1) := by decide +kernel
theorem dX11_ways_31 : decode cX11_ways 31 = .ok (.getfield 108, 3) := by decide +kernel
theorem dX11_ways_34 : decode cX11_ways 34 = .ok (.if_icmp .ge 44, 3) := by decide +kernel
theorem dX11_ways_37 : decode cX11_ways 37 = .ok (.aload_n 0, 1) := by decide +kernel
theorem dX11_ways_38 : decode cX11_ways 38 = .ok (.invokevirtual 227, 3) := by decide +kernel
theorem dX11_ways_41 : decode cX11_ways 41 = .ok (.iload_n 1, 1) := by decide +kernel
theorem dX11_ways_42 : decode cX11_ways 42 = .ok (.ifCond .ne 13, 3) := by decide +kernel
theorem dX11_ways_45 : decode cX11_ways 45 = .ok (.aload_n 0, 1) := by decide +kernel
theorem dX11_ways_46 : decode cX11_ways 46 = .ok (.iload_n 3, 1) := by decide +kernel
theorem dX11_ways_47 : decode cX11_ways 47 = .ok (.iload 4, 2) := by decide +kernel
theorem dX11_ways_49 : decode cX11_ways 49 = .ok (.invokevirtual 224, 3) := by decide +kernel
theorem dX11_ways_52 : decode cX11_ways 52 = .ok (.goto 10, 3) := by decide +kernel
theorem dX11_ways_55 : decode cX11_ways 55 = .ok (.aload_n 0, 1) := by decide +kernel
theorem dX11_ways_56 : decode cX11_ways 56 = .ok (.iload_n 3, 1) := by decide +kernel
theorem dX11_ways_57 : decode cX11_ways 57 = .ok (.iload 4, 2) := by decide +kernel
theorem dX11_ways_59 : decode cX11_ways 59 = .ok (.invokevirtual 251, 3) := by decide +kernel
theorem dX11_ways_62 : decode cX11_ways 62 = .ok (.aload_n 0, 1) := by decide +kernel
theorem dX11_ways_63 : decode cX11_ways 63 = .ok (.invokevirtual 230, 3) := by decide +kernel
theorem dX11_ways_66 : decode cX11_ways 66 = .ok (.ifCond .eq 6, 3) := by decide +kernel
theorem dX11_ways_69 : decode cX11_ways 69 = .ok (.iinc 2 1, 3) := by decide +kernel
theorem dX11_ways_72 : decode cX11_ways 72 = .ok (.iinc 4 1, 3) := by decide +kernel
theorem dX11_ways_75 : decode cX11_ways 75 = .ok (.goto (-47), 3) := by decide +kernel
theorem dX11_ways_78 : decode cX11_ways 78 = .ok (.iinc 3 1, 3) := by decide +kernel
theorem dX11_ways_81 : decode cX11_ways 81 = .ok (.goto (-66), 3) := by decide +kernel
theorem dX11_ways_84 : decode cX11_ways 84 = .ok (.iload_n 2, 1) := by decide +kernel
theorem dX11_ways_85 : decode cX11_ways 85 = .ok (.ireturn, 1) := by decide +kernel
theorem dX11_fitsBook_0 : decode cX11_fitsBook 0 = .ok (.aload_n 0, 1) := by decide +kernel
theorem dX11_fitsBook_1 : decode cX11_fitsBook 1 = .ok (.getfield 258, 3) := by decide +kernel
theorem dX11_fitsBook_4 : decode cX11_fitsBook 4 = .ok (.ifCond .lt 16, 3) := by decide +kernel
theorem dX11_fitsBook_7 : decode cX11_fitsBook 7 = .ok (.iload_n 1, 1) := by decide +kernel
theorem dX11_fitsBook_8 : decode cX11_fitsBook 8 = .ok (.aload_n 0, 1) := by decide +kernel
theorem dX11_fitsBook_9 : decode cX11_fitsBook 9 = .ok (.getfield 87, 3) := by decide +kernel
theorem dX11_fitsBook_12 : decode cX11_fitsBook 12 = .ok (.aload_n 0, 1) := by decide +kernel
theorem dX11_fitsBook_13 : decode cX11_fitsBook 13 = .ok (.getfield 258, 3) := by decide +kernel
theorem dX11_fitsBook_16 : decode cX11_fitsBook 16 = .ok (.iaload, 1) := by decide +kernel
theorem dX11_fitsBook_17 : decode cX11_fitsBook 17 = .ok (.if_icmp .lt 5, 3) := by decide +kernel
theorem dX11_fitsBook_20 : decode cX11_fitsBook 20 = .ok (.iconst 1, 1) := by decide +kernel
theorem dX11_fitsBook_21 : decode cX11_fitsBook 21 = .ok (.ireturn, 1) := by decide +kernel
theorem dX11_fitsBook_22 : decode cX11_fitsBook 22 = .ok (.aload_n 0, 1) := by decide +kernel
theorem dX11_fitsBook_23 : decode cX11_fitsBook 23 = .ok (.getfield 90, 3) := by decide +kernel
theorem dX11_fitsBook_26 : decode cX11_fitsBook 26 = .ok (.bipush 60, 2) := by decide +kernel
theorem dX11_fitsBook_28 : decode cX11_fitsBook 28 = .ok (.aload_n 0, 1) := by decide +kernel
theorem dX11_fitsBook_29 : decode cX11_fitsBook 29 = .ok (.getfield 258, 3) := by decide +kernel
theorem dX11_fitsBook_32 : decode cX11_fitsBook 32 = .ok (.imul, 1) := by decide +kernel
theorem dX11_fitsBook_33 : decode cX11_fitsBook 33 = .ok (.iload_n 1, 1) := by decide +kernel
theorem dX11_fitsBook_34 : decode cX11_fitsBook 34 = .ok (.iadd, 1) := by decide +kernel
theorem dX11_fitsBook_35 : decode cX11_fitsBook 35 = .ok (.laload, 1) := by decide +kernel
theorem dX11_fitsBook_36 : decode cX11_fitsBook 36 = .ok (.lstore_n 3, 1) := by decide +kernel
theorem dX11_fitsBook_37 : decode cX11_fitsBook 37 = .ok (.lload_n 3, 1) := by decide +kernel
theorem dX11_fitsBook_38 : decode cX11_fitsBook 38 = .ok (.ldc2_w 261, 3) := by decide +kernel
theorem dX11_fitsBook_41 : decode cX11_fitsBook 41 = .ok (.lcmp, 1) := by decide +kernel
theorem dX11_fitsBook_42 : decode cX11_fitsBook 42 = .ok (.ifCond .eq 10, 3) := by decide +kernel
theorem dX11_fitsBook_45 : decode cX11_fitsBook 45 = .ok (.lload_n 3, 1) := by decide +kernel
theorem dX11_fitsBook_46 : decode cX11_fitsBook 46 = .ok (.iload_n 2, 1) := by decide +kernel
theorem dX11_fitsBook_47 : decode cX11_fitsBook 47 = .ok (.i2l, 1) := by decide +kernel
theorem dX11_fitsBook_48 : decode cX11_fitsBook 48 = .ok (.lcmp, 1) := by decide +kernel
theorem dX11_fitsBook_49 : decode cX11_fitsBook 49 = .ok (.ifCond .ne 7, 3) := by decide +kernel
theorem dX11_fitsBook_52 : decode cX11_fitsBook 52 = .ok (.iconst 1, 1) := by decide +kernel
theorem dX11_fitsBook_53 : decode cX11_fitsBook 53 = .ok (.goto 4, 3) := by decide +kernel
theorem dX11_fitsBook_56 : decode cX11_fitsBook 56 = .ok (.iconst 0, 1) := by decide +kernel
theorem dX11_fitsBook_57 : decode cX11_fitsBook 57 = .ok (.ireturn, 1) := by decide +kernel
theorem dX11_goOrders_0 : decode cX11_goOrders 0 = .ok (.iload_n 1, 1) := by decide +kernel
theorem dX11_goOrders_1 : decode cX11_goOrders 1 = .ok (.ifCond .ne 57, 3) := by decide +kernel
theorem dX11_goOrders_4 : decode cX11_goOrders 4 = .ok (.aload_n 0, 1) := by decide +kernel
theorem dX11_goOrders_5 : decode cX11_goOrders 5 = .ok (.invokevirtual 230, 3) := by decide +kernel
theorem dX11_goOrders_8 : decode cX11_goOrders 8 = .ok (.ifCond .ne 4, 3) := by decide +kernel
theorem dX11_goOrders_11 : decode cX11_goOrders 11 = .ok (.return_, 1) := by decide +kernel
theorem dX11_goOrders_12 : decode cX11_goOrders 12 = .ok (.aload_n 0, 1) := by decide +kernel
theorem dX11_goOrders_13 : decode cX11_goOrders 13 = .ok (.getfield 263, 3) := by decide +kernel
theorem dX11_goOrders_16 : decode cX11_goOrders 16 = .ok (.ifCond .ne 31, 3) := by decide +kernel
theorem dX11_goOrders_19 : decode cX11_goOrders 19 = .ok (.iconst 0, 1) := by decide +kernel
theorem dX11_goOrders_20 : decode cX11_goOrders 20 = .ok (.istore_n 2, 1) := by decide +kernel
theorem dX11_goOrders_21 : decode cX11_goOrders 21 = .ok (.iload_n 2, 1) := by decide +kernel
theorem dX11_goOrders_22 : decode cX11_goOrders 22 = .ok (.aload_n 0, 1) := by decide +kernel
theorem dX11_goOrders_23 : decode cX11_goOrders 23 = .ok (.getfield 212, 3) := by decide +kernel
theorem dX11_goOrders_26 : decode cX11_goOrders 26 = .ok (.if_icmp .ge 21, 3) := by decide +kernel
theorem dX11_goOrders_29 : decode cX11_goOrders 29 = .ok (.aload_n 0, 1) := by decide +kernel
theorem dX11_goOrders_30 : decode cX11_goOrders 30 = .ok (.getfield 57, 3) := by decide +kernel
theorem dX11_goOrders_33 : decode cX11_goOrders 33 = .ok (.iload_n 2, 1) := by decide +kernel
theorem dX11_goOrders_34 : decode cX11_goOrders 34 = .ok (.aload_n 0, 1) := by decide +kernel
theorem dX11_goOrders_35 : decode cX11_goOrders 35 = .ok (.getfield 54, 3) := by decide +kernel
theorem dX11_goOrders_38 : decode cX11_goOrders 38 = .ok (.iload_n 2, 1) := by decide +kernel
theorem dX11_goOrders_39 : decode cX11_goOrders 39 = .ok (.iaload, 1) := by decide +kernel
theorem dX11_goOrders_40 : decode cX11_goOrders 40 = .ok (.iastore, 1) := by decide +kernel
theorem dX11_goOrders_41 : decode cX11_goOrders 41 = .ok (.iinc 2 1, 3) := by decide +kernel
theorem dX11_goOrders_44 : decode cX11_goOrders 44 = .ok (.goto (-23), 3) := by decide +kernel
theorem dX11_goOrders_47 : decode cX11_goOrders 47 = .ok (.aload_n 0, 1) := by decide +kernel
theorem dX11_goOrders_48 : decode cX11_goOrders 48 = .ok (.dup, 1) := by decide +kernel
theorem dX11_goOrders_49 : decode cX11_goOrders 49 = .ok (.getfield 263, 3) := by decide +kernel
theorem dX11_goOrders_52 : decode cX11_goOrders 52 = .ok (.iconst 1, 1) := by decide +kernel
theorem dX11_goOrders_53 : decode cX11_goOrders 53 = .ok (.iadd, 1) := by decide +kernel
theorem dX11_goOrders_54 : decode cX11_goOrders 54 = .ok (.putfield 263, 3) := by decide +kernel
theorem dX11_goOrders_57 : decode cX11_goOrders 57 = .ok (.return_, 1) := by decide +kernel
theorem dX11_goOrders_58 : decode cX11_goOrders 58 = .ok (.aload_n 0, 1) := by decide +kernel
theorem dX11_goOrders_59 : decode cX11_goOrders 59 = .ok (.getfield 212, 3) := by decide +kernel
theorem dX11_goOrders_62 : decode cX11_goOrders 62 = .ok (.iload_n 1, 1) := by decide +kernel
theorem dX11_goOrders_63 : decode cX11_goOrders 63 = .ok (.invokestatic 266, 3) := by decide +kernel
theorem dX11_goOrders_66 : decode cX11_goOrders 66 = .ok (.isub, 1) := by decide +kernel
theorem dX11_goOrders_67 : decode cX11_goOrders 67 = .ok (.istore_n 2, 1) := by decide +kernel
theorem dX11_goOrders_68 : decode cX11_goOrders 68 = .ok (.iconst 0, 1) := by decide +kernel
theorem dX11_goOrders_69 : decode cX11_goOrders 69 = .ok (.istore_n 3, 1) := by decide +kernel
theorem dX11_goOrders_70 : decode cX11_goOrders 70 = .ok (.iload_n 3, 1) := by decide +kernel
theorem dX11_goOrders_71 : decode cX11_goOrders 71 = .ok (.aload_n 0, 1) := by decide +kernel
theorem dX11_goOrders_72 : decode cX11_goOrders 72 = .ok (.getfield 101, 3) := by decide +kernel
theorem dX11_goOrders_75 : decode cX11_goOrders 75 = .ok (.if_icmp .ge 47, 3) := by decide +kernel
theorem dX11_goOrders_78 : decode cX11_goOrders 78 = .ok (.iload_n 1, 1) := by decide +kernel
theorem dX11_goOrders_79 : decode cX11_goOrders 79 = .ok (.iload_n 3, 1) := by decide +kernel
theorem dX11_goOrders_80 : decode cX11_goOrders 80 = .ok (.ishr, 1) := by decide +kernel
theorem dX11_goOrders_81 : decode cX11_goOrders 81 = .ok (.iconst 1, 1) := by decide +kernel
theorem dX11_goOrders_82 : decode cX11_goOrders 82 = .ok (.iand, 1) := by decide +kernel
theorem dX11_goOrders_83 : decode cX11_goOrders 83 = .ok (.ifCond .eq 33, 3) := by decide +kernel
theorem dX11_goOrders_86 : decode cX11_goOrders 86 = .ok (.aload_n 0, 1) := by decide +kernel
theorem dX11_goOrders_87 : decode cX11_goOrders 87 = .ok (.iload_n 2, 1) := by decide +kernel
theorem dX11_goOrders_88 : decode cX11_goOrders 88 = .ok (.iload_n 3, 1) := by decide +kernel
theorem dX11_goOrders_89 : decode cX11_goOrders 89 = .ok (.invokevirtual 269, 3) := by decide +kernel
theorem dX11_goOrders_92 : decode cX11_goOrders 92 = .ok (.ifCond .ne 6, 3) := by decide +kernel
theorem dX11_goOrders_95 : decode cX11_goOrders 95 = .ok (.goto 21, 3) := by decide +kernel
theorem dX11_goOrders_98 : decode cX11_goOrders 98 = .ok (.aload_n 0, 1) := by decide +kernel
theorem dX11_goOrders_99 : decode cX11_goOrders 99 = .ok (.getfield 54, 3) := by decide +kernel
theorem dX11_goOrders_102 : decode cX11_goOrders 102 = .ok (.iload_n 2, 1) := by decide +kernel
theorem dX11_goOrders_103 : decode cX11_goOrders 103 = .ok (.iload_n 3, 1) := by decide +kernel
theorem dX11_goOrders_104 : decode cX11_goOrders 104 = .ok (.iastore, 1) := by decide +kernel
theorem dX11_goOrders_105 : decode cX11_goOrders 105 = .ok (.aload_n 0, 1) := by decide +kernel
theorem dX11_goOrders_106 : decode cX11_goOrders 106 = .ok (.iload_n 1, 1) := by decide +kernel
theorem dX11_goOrders_107 : decode cX11_goOrders 107 = .ok (.iconst 1, 1) := by decide +kernel
theorem dX11_goOrders_108 : decode cX11_goOrders 108 = .ok (.iload_n 3, 1) := by decide +kernel
theorem dX11_goOrders_109 : decode cX11_goOrders 109 = .ok (.ishl, 1) := by decide +kernel
theorem dX11_goOrders_110 : decode cX11_goOrders 110 = .ok (.iconst (-1), 1) := by decide +kernel
theorem dX11_goOrders_111 : decode cX11_goOrders 111 = .ok (.ixor, 1) := by decide +kernel
theorem dX11_goOrders_112 : decode cX11_goOrders 112 = .ok (.iand, 1) := by decide +kernel
theorem dX11_goOrders_113 : decode cX11_goOrders 113 = .ok (.invokevirtual 273, 3) := by decide +kernel
theorem dX11_goOrders_116 : decode cX11_goOrders 116 = .ok (.iinc 3 1, 3) := by decide +kernel
theorem dX11_goOrders_119 : decode cX11_goOrders 119 = .ok (.goto (-49), 3) := by decide +kernel
theorem dX11_goOrders_122 : decode cX11_goOrders 122 = .ok (.return_, 1) := by decide +kernel
theorem dX11_orders_0 : decode cX11_orders 0 = .ok (.aload_n 0, 1) := by decide +kernel
theorem dX11_orders_1 : decode cX11_orders 1 = .ok (.iload_n 2, 1) := by decide +kernel
theorem dX11_orders_2 : decode cX11_orders 2 = .ok (.putfield 258, 3) := by decide +kernel
theorem dX11_orders_5 : decode cX11_orders 5 = .ok (.aload_n 0, 1) := by decide +kernel
theorem dX11_orders_6 : decode cX11_orders 6 = .ok (.iload_n 1, 1) := by decide +kernel
theorem dX11_orders_7 : decode cX11_orders 7 = .ok (.invokestatic 266, 3) := by decide +kernel
theorem dX11_orders_10 : decode cX11_orders 10 = .ok (.putfield 212, 3) := by decide +kernel
theorem dX11_orders_13 : decode cX11_orders 13 = .ok (.aload_n 0, 1) := by decide +kernel
theorem dX11_orders_14 : decode cX11_orders 14 = .ok (.iconst 0, 1) := by decide +kernel
theorem dX11_orders_15 : decode cX11_orders 15 = .ok (.putfield 263, 3) := by decide +kernel
theorem dX11_orders_18 : decode cX11_orders 18 = .ok (.aload_n 0, 1) := by decide +kernel
theorem dX11_orders_19 : decode cX11_orders 19 = .ok (.iload_n 1, 1) := by decide +kernel
theorem dX11_orders_20 : decode cX11_orders 20 = .ok (.invokevirtual 273, 3) := by decide +kernel
theorem dX11_orders_23 : decode cX11_orders 23 = .ok (.aload_n 0, 1) := by decide +kernel
theorem dX11_orders_24 : decode cX11_orders 24 = .ok (.getfield 263, 3) := by decide +kernel
theorem dX11_orders_27 : decode cX11_orders 27 = .ok (.ireturn, 1) := by decide +kernel
theorem dX11_rows_0 : decode cX11_rows 0 = .ok (.aload_n 0, 1) := by decide +kernel
theorem dX11_rows_1 : decode cX11_rows 1 = .ok (.iload_n 1, 1) := by decide +kernel
theorem dX11_rows_2 : decode cX11_rows 2 = .ok (.invokevirtual 276, 3) := by decide +kernel
theorem dX11_rows_5 : decode cX11_rows 5 = .ok (.ifCond .eq 17, 3) := by decide +kernel
theorem dX11_rows_8 : decode cX11_rows 8 = .ok (.iload_n 2, 1) := by decide +kernel
theorem dX11_rows_9 : decode cX11_rows 9 = .ok (.iconst (-1), 1) := by decide +kernel
theorem dX11_rows_10 : decode cX11_rows 10 = .ok (.iload_n 1, 1) := by decide +kernel
theorem dX11_rows_11 : decode cX11_rows 11 = .ok (.invokestatic 266, 3) := by decide +kernel
theorem dX11_rows_14 : decode cX11_rows 14 = .ok (.iconst 1, 1) := by decide +kernel
theorem dX11_rows_15 : decode cX11_rows 15 = .ok (.isub, 1) := by decide +kernel
theorem dX11_rows_16 : decode cX11_rows 16 = .ok (.invokestatic 104, 3) := by decide +kernel
theorem dX11_rows_19 : decode cX11_rows 19 = .ok (.ifCond .ne 5, 3) := by decide +kernel
theorem dX11_rows_22 : decode cX11_rows 22 = .ok (.iconst (-1), 1) := by decide +kernel
theorem dX11_rows_23 : decode cX11_rows 23 = .ok (.ireturn, 1) := by decide +kernel
theorem dX11_rows_24 : decode cX11_rows 24 = .ok (.aload_n 0, 1) := by decide +kernel
theorem dX11_rows_25 : decode cX11_rows 25 = .ok (.iload_n 1, 1) := by decide +kernel
theorem dX11_rows_26 : decode cX11_rows 26 = .ok (.iconst (-1), 1) := by decide +kernel
theorem dX11_rows_27 : decode cX11_rows 27 = .ok (.invokevirtual 279, 3) := by decide +kernel
theorem dX11_rows_30 : decode cX11_rows 30 = .ok (.istore_n 3, 1) := by decide +kernel
theorem dX11_rows_31 : decode cX11_rows 31 = .ok (.iload_n 2, 1) := by decide +kernel
theorem dX11_rows_32 : decode cX11_rows 32 = .ok (.ifCond .ge 7, 3) := by decide +kernel
theorem dX11_rows_35 : decode cX11_rows 35 = .ok (.iload_n 3, 1) := by decide +kernel
theorem dX11_rows_36 : decode cX11_rows 36 = .ok (.goto 18, 3) := by decide +kernel
theorem dX11_rows_39 : decode cX11_rows 39 = .ok (.iload_n 3, 1) := by decide +kernel
theorem dX11_rows_40 : decode cX11_rows 40 = .ok (.ifCond .ne 8, 3) := by decide +kernel
theorem dX11_rows_43 : decode cX11_rows 43 = .ok (.bipush (-2), 2) := by decide +kernel
theorem dX11_rows_45 : decode cX11_rows 45 = .ok (.goto 9, 3) := by decide +kernel
theorem dX11_rows_48 : decode cX11_rows 48 = .ok (.aload_n 0, 1) := by decide +kernel
theorem dX11_rows_49 : decode cX11_rows 49 = .ok (.getfield 57, 3) := by decide +kernel
theorem dX11_rows_52 : decode cX11_rows 52 = .ok (.iload_n 2, 1) := by decide +kernel
theorem dX11_rows_53 : decode cX11_rows 53 = .ok (.iaload, 1) := by decide +kernel
theorem dX11_rows_54 : decode cX11_rows 54 = .ok (.ireturn, 1) := by decide +kernel
theorem dX11_lessAt_0 : decode cX11_lessAt 0 = .ok (.iload_n 1, 1) := by decide +kernel
theorem dX11_lessAt_1 : decode cX11_lessAt 1 = .ok (.iconst 0, 1) := by decide +kernel
theorem dX11_lessAt_2 : decode cX11_lessAt 2 = .ok (.aload_n 0, 1) := by decide +kernel
theorem dX11_lessAt_3 : decode cX11_lessAt 3 = .ok (.getfield 108, 3) := by decide +kernel
theorem dX11_lessAt_6 : decode cX11_lessAt 6 = .ok (.iconst 1, 1) := by decide +kernel
theorem dX11_lessAt_7 : decode cX11_lessAt 7 = .ok (.isub, 1) := by decide +kernel
theorem dX11_lessAt_8 : decode cX11_lessAt 8 = .ok (.invokestatic 104, 3) := by decide +kernel
theorem dX11_lessAt_11 : decode cX11_lessAt 11 = .ok (.ifCond .eq 10, 3) := by decide +kernel
theorem dX11_lessAt_14 : decode cX11_lessAt 14 = .ok (.aload_n 0, 1) := by decide +kernel
theorem dX11_lessAt_15 : decode cX11_lessAt 15 = .ok (.getfield 60, 3) := by decide +kernel
theorem dX11_lessAt_18 : decode cX11_lessAt 18 = .ok (.iload_n 1, 1) := by decide +kernel
theorem dX11_lessAt_19 : decode cX11_lessAt 19 = .ok (.iaload, 1) := by decide +kernel
theorem dX11_lessAt_20 : decode cX11_lessAt 20 = .ok (.ireturn, 1) := by decide +kernel
theorem dX11_lessAt_21 : decode cX11_lessAt 21 = .ok (.aload_n 0, 1) := by decide +kernel
theorem dX11_lessAt_22 : decode cX11_lessAt 22 = .ok (.getfield 119, 3) := by decide +kernel
theorem dX11_lessAt_25 : decode cX11_lessAt 25 = .ok (.ifCond .ne 7, 3) := by decide +kernel
theorem dX11_lessAt_28 : decode cX11_lessAt 28 = .ok (.iconst 0, 1) := by decide +kernel
theorem dX11_lessAt_29 : decode cX11_lessAt 29 = .ok (.goto 22, 3) := by decide +kernel
theorem dX11_lessAt_32 : decode cX11_lessAt 32 = .ok (.aload_n 0, 1) := by decide +kernel
theorem dX11_lessAt_33 : decode cX11_lessAt 33 = .ok (.getfield 60, 3) := by decide +kernel
theorem dX11_lessAt_36 : decode cX11_lessAt 36 = .ok (.iload_n 1, 1) := by decide +kernel
theorem dX11_lessAt_37 : decode cX11_lessAt 37 = .ok (.ifCond .ge 12, 3) := by decide +kernel
theorem dX11_lessAt_40 : decode cX11_lessAt 40 = .ok (.aload_n 0, 1) := by decide +kernel
theorem dX11_lessAt_41 : decode cX11_lessAt 41 = .ok (.getfield 108, 3) := by decide +kernel
theorem dX11_lessAt_44 : decode cX11_lessAt 44 = .ok (.iconst 1, 1) := by decide +kernel
theorem dX11_lessAt_45 : decode cX11_lessAt 45 = .ok (.isub, 1) := by decide +kernel
theorem dX11_lessAt_46 : decode cX11_lessAt 46 = .ok (.goto 4, 3) := by decide +kernel
theorem dX11_lessAt_49 : decode cX11_lessAt 49 = .ok (.iconst 0, 1) := by decide +kernel
theorem dX11_lessAt_50 : decode cX11_lessAt 50 = .ok (.iaload, 1) := by decide +kernel
theorem dX11_lessAt_51 : decode cX11_lessAt 51 = .ok (.ireturn, 1) := by decide +kernel
theorem dX11_findLess_0 : decode cX11_findLess 0 = .ok (.iconst 0, 1) := by decide +kernel
theorem dX11_findLess_1 : decode cX11_findLess 1 = .ok (.istore_n 1, 1) := by decide +kernel
theorem dX11_findLess_2 : decode cX11_findLess 2 = .ok (.iload_n 1, 1) := by decide +kernel
theorem dX11_findLess_3 : decode cX11_findLess 3 = .ok (.aload_n 0, 1) := by decide +kernel
theorem dX11_findLess_4 : decode cX11_findLess 4 = .ok (.getfield 108, 3) := by decide +kernel
theorem dX11_findLess_7 : decode cX11_findLess 7 = .ok (.if_icmp .ge 26, 3) := by decide +kernel
theorem dX11_findLess_10 : decode cX11_findLess 10 = .ok (.aload_n 0, 1) := by decide +kernel
theorem dX11_findLess_11 : decode cX11_findLess 11 = .ok (.getfield 60, 3) := by decide +kernel
theorem dX11_findLess_14 : decode cX11_findLess 14 = .ok (.iload_n 1, 1) := by decide +kernel
theorem dX11_findLess_15 : decode cX11_findLess 15 = .ok (.aload_n 0, 1) := by decide +kernel
theorem dX11_findLess_16 : decode cX11_findLess 16 = .ok (.getfield 7, 3) := by decide +kernel
theorem dX11_findLess_19 : decode cX11_findLess 19 = .ok (.aload_n 0, 1) := by decide +kernel
theorem dX11_findLess_20 : decode cX11_findLess 20 = .ok (.getfield 13, 3) := by decide +kernel
theorem dX11_findLess_23 : decode cX11_findLess 23 = .ok (.iload_n 1, 1) := by decide +kernel
theorem dX11_findLess_24 : decode cX11_findLess 24 = .ok (.iaload, 1) := by decide +kernel
theorem dX11_findLess_25 : decode cX11_findLess 25 = .ok (.iaload, 1) := by decide +kernel
theorem dX11_findLess_26 : decode cX11_findLess 26 = .ok (.iastore, 1) := by decide +kernel
theorem dX11_findLess_27 : decode cX11_findLess 27 = .ok (.iinc 1 1, 3) := by decide +kernel
theorem dX11_findLess_30 : decode cX11_findLess 30 = .ok (.goto (-28), 3) := by decide +kernel
theorem dX11_findLess_33 : decode cX11_findLess 33 = .ok (.iconst 1, 1) := by decide +kernel
theorem dX11_findLess_34 : decode cX11_findLess 34 = .ok (.istore_n 1, 1) := by decide +kernel
theorem dX11_findLess_35 : decode cX11_findLess 35 = .ok (.iload_n 1, 1) := by decide +kernel
theorem dX11_findLess_36 : decode cX11_findLess 36 = .ok (.ifCond .eq 69, 3) := by decide +kernel
theorem dX11_findLess_39 : decode cX11_findLess 39 = .ok (.iconst 0, 1) := by decide +kernel
theorem dX11_findLess_40 : decode cX11_findLess 40 = .ok (.istore_n 1, 1) := by decide +kernel
theorem dX11_findLess_41 : decode cX11_findLess 41 = .ok (.iconst 0, 1) := by decide +kernel
theorem dX11_findLess_42 : decode cX11_findLess 42 = .ok (.istore_n 2, 1) := by decide +kernel
theorem dX11_findLess_43 : decode cX11_findLess 43 = .ok (.iload_n 2, 1) := by decide +kernel
theorem dX11_findLess_44 : decode cX11_findLess 44 = .ok (.aload_n 0, 1) := by decide +kernel
theorem dX11_findLess_45 : decode cX11_findLess 45 = .ok (.getfield 108, 3) := by decide +kernel
theorem dX11_findLess_48 : decode cX11_findLess 48 = .ok (.if_icmp .ge 54, 3) := by decide +kernel
theorem dX11_findLess_51 : decode cX11_findLess 51 = .ok (.aload_n 0, 1) := by decide +kernel
theorem dX11_findLess_52 : decode cX11_findLess 52 = .ok (.iload_n 2, 1) := by decide +kernel
theorem dX11_findLess_53 : decode cX11_findLess 53 = .ok (.iconst 1, 1) := by decide +kernel
theorem dX11_findLess_54 : decode cX11_findLess 54 = .ok (.isub, 1) := by decide +kernel
theorem dX11_findLess_55 : decode cX11_findLess 55 = .ok (.invokevirtual 282, 3) := by decide +kernel
theorem dX11_findLess_58 : decode cX11_findLess 58 = .ok (.aload_n 0, 1) := by decide +kernel
theorem dX11_findLess_59 : decode cX11_findLess 59 = .ok (.iload_n 2, 1) := by decide +kernel
theorem dX11_findLess_60 : decode cX11_findLess 60 = .ok (.iconst 1, 1) := by decide +kernel
theorem dX11_findLess_61 : decode cX11_findLess 61 = .ok (.iadd, 1) := by decide +kernel
theorem dX11_findLess_62 : decode cX11_findLess 62 = .ok (.invokevirtual 282, 3) := by decide +kernel
theorem dX11_findLess_65 : decode cX11_findLess 65 = .ok (.iadd, 1) := by decide +kernel
theorem dX11_findLess_66 : decode cX11_findLess 66 = .ok (.istore_n 3, 1) := by decide +kernel
theorem dX11_findLess_67 : decode cX11_findLess 67 = .ok (.aload_n 0, 1) := by decide +kernel
theorem dX11_findLess_68 : decode cX11_findLess 68 = .ok (.getfield 60, 3) := by decide +kernel
theorem dX11_findLess_71 : decode cX11_findLess 71 = .ok (.iload_n 2, 1) := by decide +kernel
theorem dX11_findLess_72 : decode cX11_findLess 72 = .ok (.iaload, 1) := by decide +kernel
theorem dX11_findLess_73 : decode cX11_findLess 73 = .ok (.iload_n 3, 1) := by decide +kernel
theorem dX11_findLess_74 : decode cX11_findLess 74 = .ok (.if_icmp .gt 6, 3) := by decide +kernel
theorem dX11_findLess_77 : decode cX11_findLess 77 = .ok (.goto 19, 3) := by decide +kernel
theorem dX11_findLess_80 : decode cX11_findLess 80 = .ok (.iload_n 3, 1) := by decide +kernel
theorem dX11_findLess_81 : decode cX11_findLess 81 = .ok (.iconst 1, 1) := by decide +kernel
theorem dX11_findLess_82 : decode cX11_findLess 82 = .ok (.if_icmp .ge 5, 3) := by decide +kernel
theorem dX11_findLess_85 : decode cX11_findLess 85 = .ok (.iconst 0, 1) := by decide +kernel
theorem dX11_findLess_86 : decode cX11_findLess 86 = .ok (.ireturn, 1) := by decide +kernel
theorem dX11_findLess_87 : decode cX11_findLess 87 = .ok (.aload_n 0, 1) := by decide +kernel
theorem dX11_findLess_88 : decode cX11_findLess 88 = .ok (.getfield 60, 3) := by decide +kernel
theorem dX11_findLess_91 : decode cX11_findLess 91 = .ok (.iload_n 2, 1) := by decide +kernel
theorem dX11_findLess_92 : decode cX11_findLess 92 = .ok (.iload_n 3, 1) := by decide +kernel
theorem dX11_findLess_93 : decode cX11_findLess 93 = .ok (.iastore, 1) := by decide +kernel
theorem dX11_findLess_94 : decode cX11_findLess 94 = .ok (.iconst 1, 1) := by decide +kernel
theorem dX11_findLess_95 : decode cX11_findLess 95 = .ok (.istore_n 1, 1) := by decide +kernel
theorem dX11_findLess_96 : decode cX11_findLess 96 = .ok (.iinc 2 1, 3) := by decide +kernel
theorem dX11_findLess_99 : decode cX11_findLess 99 = .ok (.goto (-56), 3) := by decide +kernel
theorem dX11_findLess_102 : decode cX11_findLess 102 = .ok (.goto (-67), 3) := by decide +kernel
theorem dX11_findLess_105 : decode cX11_findLess 105 = .ok (.iconst 1, 1) := by decide +kernel
theorem dX11_findLess_106 : decode cX11_findLess 106 = .ok (.ireturn, 1) := by decide +kernel
theorem dX11_ounces_0 : decode cX11_ounces 0 = .ok (.iload_n 1, 1) := by decide +kernel
theorem dX11_ounces_1 : decode cX11_ounces 1 = .ok (.iconst (-1), 1) := by decide +kernel
theorem dX11_ounces_2 : decode cX11_ounces 2 = .ok (.aload_n 0, 1) := by decide +kernel
theorem dX11_ounces_3 : decode cX11_ounces 3 = .ok (.getfield 108, 3) := by decide +kernel
theorem dX11_ounces_6 : decode cX11_ounces 6 = .ok (.iconst 1, 1) := by decide +kernel
theorem dX11_ounces_7 : decode cX11_ounces 7 = .ok (.isub, 1) := by decide +kernel
theorem dX11_ounces_8 : decode cX11_ounces 8 = .ok (.invokestatic 104, 3) := by decide +kernel
theorem dX11_ounces_11 : decode cX11_ounces 11 = .ok (.ifCond .ne 5, 3) := by decide +kernel
theorem dX11_ounces_14 : decode cX11_ounces 14 = .ok (.iconst (-1), 1) := by decide +kernel
theorem dX11_ounces_15 : decode cX11_ounces 15 = .ok (.ireturn, 1) := by decide +kernel
theorem dX11_ounces_16 : decode cX11_ounces 16 = .ok (.aload_n 0, 1) := by decide +kernel
theorem dX11_ounces_17 : decode cX11_ounces 17 = .ok (.invokevirtual 285, 3) := by decide +kernel
theorem dX11_ounces_20 : decode cX11_ounces 20 = .ok (.ifCond .ne 6, 3) := by decide +kernel
theorem dX11_ounces_23 : decode cX11_ounces 23 = .ok (.bipush (-2), 2) := by decide +kernel
theorem dX11_ounces_25 : decode cX11_ounces 25 = .ok (.ireturn, 1) := by decide +kernel
theorem dX11_ounces_26 : decode cX11_ounces 26 = .ok (.iload_n 1, 1) := by decide +kernel
theorem dX11_ounces_27 : decode cX11_ounces 27 = .ok (.ifCond .lt 10, 3) := by decide +kernel
theorem dX11_ounces_30 : decode cX11_ounces 30 = .ok (.aload_n 0, 1) := by decide +kernel
theorem dX11_ounces_31 : decode cX11_ounces 31 = .ok (.getfield 60, 3) := by decide +kernel
theorem dX11_ounces_34 : decode cX11_ounces 34 = .ok (.iload_n 1, 1) := by decide +kernel
theorem dX11_ounces_35 : decode cX11_ounces 35 = .ok (.iaload, 1) := by decide +kernel
theorem dX11_ounces_36 : decode cX11_ounces 36 = .ok (.ireturn, 1) := by decide +kernel
theorem dX11_ounces_37 : decode cX11_ounces 37 = .ok (.iconst 0, 1) := by decide +kernel
theorem dX11_ounces_38 : decode cX11_ounces 38 = .ok (.istore_n 2, 1) := by decide +kernel
theorem dX11_ounces_39 : decode cX11_ounces 39 = .ok (.iconst 0, 1) := by decide +kernel
theorem dX11_ounces_40 : decode cX11_ounces 40 = .ok (.istore_n 3, 1) := by decide +kernel
theorem dX11_ounces_41 : decode cX11_ounces 41 = .ok (.iload_n 3, 1) := by decide +kernel
theorem dX11_ounces_42 : decode cX11_ounces 42 = .ok (.aload_n 0, 1) := by decide +kernel
theorem dX11_ounces_43 : decode cX11_ounces 43 = .ok (.getfield 108, 3) := by decide +kernel
theorem dX11_ounces_46 : decode cX11_ounces 46 = .ok (.if_icmp .ge 30, 3) := by decide +kernel
theorem dX11_ounces_49 : decode cX11_ounces 49 = .ok (.iload_n 2, 1) := by decide +kernel
theorem dX11_ounces_50 : decode cX11_ounces 50 = .ok (.aload_n 0, 1) := by decide +kernel
theorem dX11_ounces_51 : decode cX11_ounces 51 = .ok (.getfield 7, 3) := by decide +kernel
theorem dX11_ounces_54 : decode cX11_ounces 54 = .ok (.aload_n 0, 1) := by decide +kernel
theorem dX11_ounces_55 : decode cX11_ounces 55 = .ok (.getfield 13, 3) := by decide +kernel
theorem dX11_ounces_58 : decode cX11_ounces 58 = .ok (.iload_n 3, 1) := by decide +kernel
theorem dX11_ounces_59 : decode cX11_ounces 59 = .ok (.iaload, 1) := by decide +kernel
theorem dX11_ounces_60 : decode cX11_ounces 60 = .ok (.iaload, 1) := by decide +kernel
theorem dX11_ounces_61 : decode cX11_ounces 61 = .ok (.aload_n 0, 1) := by decide +kernel
theorem dX11_ounces_62 : decode cX11_ounces 62 = .ok (.getfield 60, 3) := by decide +kernel
theorem dX11_ounces_65 : decode cX11_ounces 65 = .ok (.iload_n 3, 1) := by decide +kernel
theorem dX11_ounces_66 : decode cX11_ounces 66 = .ok (.iaload, 1) := by decide +kernel
theorem dX11_ounces_67 : decode cX11_ounces 67 = .ok (.isub, 1) := by decide +kernel
theorem dX11_ounces_68 : decode cX11_ounces 68 = .ok (.iadd, 1) := by decide +kernel
theorem dX11_ounces_69 : decode cX11_ounces 69 = .ok (.istore_n 2, 1) := by decide +kernel
theorem dX11_ounces_70 : decode cX11_ounces 70 = .ok (.iinc 3 1, 3) := by decide +kernel
theorem dX11_ounces_73 : decode cX11_ounces 73 = .ok (.goto (-32), 3) := by decide +kernel
theorem dX11_ounces_76 : decode cX11_ounces 76 = .ok (.iload_n 2, 1) := by decide +kernel
theorem dX11_ounces_77 : decode cX11_ounces 77 = .ok (.ireturn, 1) := by decide +kernel
theorem dX11_isMadeUp_0 : decode cX11_isMadeUp 0 = .ok (.aload_n 0, 1) := by decide +kernel
theorem dX11_isMadeUp_1 : decode cX11_isMadeUp 1 = .ok (.getfield 7, 3) := by decide +kernel
theorem dX11_isMadeUp_4 : decode cX11_isMadeUp 4 = .ok (.bipush 8, 2) := by decide +kernel
theorem dX11_isMadeUp_6 : decode cX11_isMadeUp 6 = .ok (.iload_n 1, 1) := by decide +kernel
theorem dX11_isMadeUp_7 : decode cX11_isMadeUp 7 = .ok (.iastore, 1) := by decide +kernel
theorem dX11_isMadeUp_8 : decode cX11_isMadeUp 8 = .ok (.aload_n 0, 1) := by decide +kernel
theorem dX11_isMadeUp_9 : decode cX11_isMadeUp 9 = .ok (.aload_n 0, 1) := by decide +kernel
theorem dX11_isMadeUp_10 : decode cX11_isMadeUp 10 = .ok (.getfield 108, 3) := by decide +kernel
theorem dX11_isMadeUp_13 : decode cX11_isMadeUp 13 = .ok (.iconst 1, 1) := by decide +kernel
theorem dX11_isMadeUp_14 : decode cX11_isMadeUp 14 = .ok (.iadd, 1) := by decide +kernel
theorem dX11_isMadeUp_15 : decode cX11_isMadeUp 15 = .ok (.putfield 212, 3) := by decide +kernel
theorem dX11_isMadeUp_18 : decode cX11_isMadeUp 18 = .ok (.iconst 0, 1) := by decide +kernel
theorem dX11_isMadeUp_19 : decode cX11_isMadeUp 19 = .ok (.istore_n 3, 1) := by decide +kernel
theorem dX11_isMadeUp_20 : decode cX11_isMadeUp 20 = .ok (.iload_n 3, 1) := by decide +kernel
theorem dX11_isMadeUp_21 : decode cX11_isMadeUp 21 = .ok (.aload_n 0, 1) := by decide +kernel
theorem dX11_isMadeUp_22 : decode cX11_isMadeUp 22 = .ok (.getfield 212, 3) := by decide +kernel
theorem dX11_isMadeUp_25 : decode cX11_isMadeUp 25 = .ok (.if_icmp .ge 47, 3) := by decide +kernel
theorem dX11_isMadeUp_28 : decode cX11_isMadeUp 28 = .ok (.aload_n 0, 1) := by decide +kernel
theorem dX11_isMadeUp_29 : decode cX11_isMadeUp 29 = .ok (.getfield 54, 3) := by decide +kernel
theorem dX11_isMadeUp_32 : decode cX11_isMadeUp 32 = .ok (.iload_n 3, 1) := by decide +kernel
theorem dX11_isMadeUp_33 : decode cX11_isMadeUp 33 = .ok (.iload_n 3, 1) := by decide +kernel
theorem dX11_isMadeUp_34 : decode cX11_isMadeUp 34 = .ok (.iload_n 2, 1) := by decide +kernel
theorem dX11_isMadeUp_35 : decode cX11_isMadeUp 35 = .ok (.if_icmp .ge 12, 3) := by decide +kernel
theorem dX11_isMadeUp_38 : decode cX11_isMadeUp 38 = .ok (.aload_n 0, 1) := by decide +kernel
theorem dX11_isMadeUp_39 : decode cX11_isMadeUp 39 = .ok (.getfield 13, 3) := by decide +kernel
theorem dX11_isMadeUp_42 : decode cX11_isMadeUp 42 = .ok (.iload_n 3, 1) := by decide +kernel
theorem dX11_isMadeUp_43 : decode cX11_isMadeUp 43 = .ok (.iaload, 1) := by decide +kernel
theorem dX11_isMadeUp_44 : decode cX11_isMadeUp 44 = .ok (.goto 21, 3) := by decide +kernel
theorem dX11_isMadeUp_47 : decode cX11_isMadeUp 47 = .ok (.iload_n 3, 1) := by decide +kernel
theorem dX11_isMadeUp_48 : decode cX11_isMadeUp 48 = .ok (.iload_n 2, 1) := by decide +kernel
theorem dX11_isMadeUp_49 : decode cX11_isMadeUp 49 = .ok (.if_icmp .ne 8, 3) := by decide +kernel
theorem dX11_isMadeUp_52 : decode cX11_isMadeUp 52 = .ok (.bipush 8, 2) := by decide +kernel
theorem dX11_isMadeUp_54 : decode cX11_isMadeUp 54 = .ok (.goto 11, 3) := by decide +kernel
theorem dX11_isMadeUp_57 : decode cX11_isMadeUp 57 = .ok (.aload_n 0, 1) := by decide +kernel
theorem dX11_isMadeUp_58 : decode cX11_isMadeUp 58 = .ok (.getfield 13, 3) := by decide +kernel
theorem dX11_isMadeUp_61 : decode cX11_isMadeUp 61 = .ok (.iload_n 3, 1) := by decide +kernel
theorem dX11_isMadeUp_62 : decode cX11_isMadeUp 62 = .ok (.iconst 1, 1) := by decide +kernel
theorem dX11_isMadeUp_63 : decode cX11_isMadeUp 63 = .ok (.isub, 1) := by decide +kernel
theorem dX11_isMadeUp_64 : decode cX11_isMadeUp 64 = .ok (.iaload, 1) := by decide +kernel
theorem dX11_isMadeUp_65 : decode cX11_isMadeUp 65 = .ok (.iastore, 1) := by decide +kernel
theorem dX11_isMadeUp_66 : decode cX11_isMadeUp 66 = .ok (.iinc 3 1, 3) := by decide +kernel
theorem dX11_isMadeUp_69 : decode cX11_isMadeUp 69 = .ok (.goto (-49), 3) := by decide +kernel
theorem dX11_isMadeUp_72 : decode cX11_isMadeUp 72 = .ok (.aload_n 0, 1) := by decide +kernel
theorem dX11_isMadeUp_73 : decode cX11_isMadeUp 73 = .ok (.invokevirtual 230, 3) := by decide +kernel
theorem dX11_isMadeUp_76 : decode cX11_isMadeUp 76 = .ok (.ireturn, 1) := by decide +kernel
theorem dX11_makeUp_0 : decode cX11_makeUp 0 = .ok (.iload_n 1, 1) := by decide +kernel
theorem dX11_makeUp_1 : decode cX11_makeUp 1 = .ok (.iconst 0, 1) := by decide +kernel
theorem dX11_makeUp_2 : decode cX11_makeUp 2 = .ok (.iconst 1, 1) := by decide +kernel
theorem dX11_makeUp_3 : decode cX11_makeUp 3 = .ok (.invokestatic 104, 3) := by decide +kernel
theorem dX11_makeUp_6 : decode cX11_makeUp 6 = .ok (.ifCond .ne 5, 3) := by decide +kernel
theorem dX11_makeUp_9 : decode cX11_makeUp 9 = .ok (.iconst (-1), 1) := by decide +kernel
theorem dX11_makeUp_10 : decode cX11_makeUp 10 = .ok (.ireturn, 1) := by decide +kernel
theorem dX11_makeUp_11 : decode cX11_makeUp 11 = .ok (.iconst 1, 1) := by decide +kernel
theorem dX11_makeUp_12 : decode cX11_makeUp 12 = .ok (.istore_n 2, 1) := by decide +kernel
theorem dX11_makeUp_13 : decode cX11_makeUp 13 = .ok (.iload_n 2, 1) := by decide +kernel
theorem dX11_makeUp_14 : decode cX11_makeUp 14 = .ok (.bipush 99, 2) := by decide +kernel
theorem dX11_makeUp_16 : decode cX11_makeUp 16 = .ok (.if_icmp .gt 44, 3) := by decide +kernel
theorem dX11_makeUp_19 : decode cX11_makeUp 19 = .ok (.iconst 0, 1) := by decide +kernel
theorem dX11_makeUp_20 : decode cX11_makeUp 20 = .ok (.istore_n 3, 1) := by decide +kernel
theorem dX11_makeUp_21 : decode cX11_makeUp 21 = .ok (.iload_n 3, 1) := by decide +kernel
theorem dX11_makeUp_22 : decode cX11_makeUp 22 = .ok (.aload_n 0, 1) := by decide +kernel
theorem dX11_makeUp_23 : decode cX11_makeUp 23 = .ok (.getfield 108, 3) := by decide +kernel
theorem dX11_makeUp_26 : decode cX11_makeUp 26 = .ok (.if_icmp .gt 28, 3) := by decide +kernel
theorem dX11_makeUp_29 : decode cX11_makeUp 29 = .ok (.aload_n 0, 1) := by decide +kernel
theorem dX11_makeUp_30 : decode cX11_makeUp 30 = .ok (.iload_n 2, 1) := by decide +kernel
theorem dX11_makeUp_31 : decode cX11_makeUp 31 = .ok (.iload_n 3, 1) := by decide +kernel
theorem dX11_makeUp_32 : decode cX11_makeUp 32 = .ok (.invokevirtual 288, 3) := by decide +kernel
theorem dX11_makeUp_35 : decode cX11_makeUp 35 = .ok (.ifCond .eq 13, 3) := by decide +kernel
theorem dX11_makeUp_38 : decode cX11_makeUp 38 = .ok (.iload_n 1, 1) := by decide +kernel
theorem dX11_makeUp_39 : decode cX11_makeUp 39 = .ok (.ifCond .ne 7, 3) := by decide +kernel
theorem dX11_makeUp_42 : decode cX11_makeUp 42 = .ok (.iload_n 2, 1) := by decide +kernel
theorem dX11_makeUp_43 : decode cX11_makeUp 43 = .ok (.goto 4, 3) := by decide +kernel
theorem dX11_makeUp_46 : decode cX11_makeUp 46 = .ok (.iload_n 3, 1) := by decide +kernel
theorem dX11_makeUp_47 : decode cX11_makeUp 47 = .ok (.ireturn, 1) := by decide +kernel
theorem dX11_makeUp_48 : decode cX11_makeUp 48 = .ok (.iinc 3 1, 3) := by decide +kernel
theorem dX11_makeUp_51 : decode cX11_makeUp 51 = .ok (.goto (-30), 3) := by decide +kernel
theorem dX11_makeUp_54 : decode cX11_makeUp 54 = .ok (.iinc 2 1, 3) := by decide +kernel
theorem dX11_makeUp_57 : decode cX11_makeUp 57 = .ok (.goto (-44), 3) := by decide +kernel
theorem dX11_makeUp_60 : decode cX11_makeUp 60 = .ok (.bipush (-2), 2) := by decide +kernel
theorem dX11_makeUp_62 : decode cX11_makeUp 62 = .ok (.ireturn, 1) := by decide +kernel
theorem dX11_layEnds_0 : decode cX11_layEnds 0 = .ok (.iconst 0, 1) := by decide +kernel
theorem dX11_layEnds_1 : decode cX11_layEnds 1 = .ok (.istore_n 3, 1) := by decide +kernel
theorem dX11_layEnds_2 : decode cX11_layEnds 2 = .ok (.iconst 0, 1) := by decide +kernel
theorem dX11_layEnds_3 : decode cX11_layEnds 3 = .ok (.istore 4, 2) := by decide +kernel
theorem dX11_layEnds_5 : decode cX11_layEnds 5 = .ok (.iconst 0, 1) := by decide +kernel
theorem dX11_layEnds_6 : decode cX11_layEnds 6 = .ok (.istore 5, 2) := by decide +kernel
theorem dX11_layEnds_8 : decode cX11_layEnds 8 = .ok (.iload 5, 2) := by decide +kernel
theorem dX11_layEnds_10 : decode cX11_layEnds 10 = .ok (.aload_n 0, 1) := by decide +kernel
theorem dX11_layEnds_11 : decode cX11_layEnds 11 = .ok (.getfield 101, 3) := by decide +kernel
theorem dX11_layEnds_14 : decode cX11_layEnds 14 = .ok (.if_icmp .ge 41, 3) := by decide +kernel
theorem dX11_layEnds_17 : decode cX11_layEnds 17 = .ok (.iload_n 1, 1) := by decide +kernel
theorem dX11_layEnds_18 : decode cX11_layEnds 18 = .ok (.iload 5, 2) := by decide +kernel
theorem dX11_layEnds_20 : decode cX11_layEnds 20 = .ok (.ishr, 1) := by decide +kernel
theorem dX11_layEnds_21 : decode cX11_layEnds 21 = .ok (.iconst 1, 1) := by decide +kernel
theorem dX11_layEnds_22 : decode cX11_layEnds 22 = .ok (.iand, 1) := by decide +kernel
theorem dX11_layEnds_23 : decode cX11_layEnds 23 = .ok (.ifCond .ne 6, 3) := by decide +kernel
theorem dX11_layEnds_26 : decode cX11_layEnds 26 = .ok (.goto 23, 3) := by decide +kernel
theorem dX11_layEnds_29 : decode cX11_layEnds 29 = .ok (.iload 4, 2) := by decide +kernel
theorem dX11_layEnds_31 : decode cX11_layEnds 31 = .ok (.ifCond .le 15, 3) := by decide +kernel
theorem dX11_layEnds_34 : decode cX11_layEnds 34 = .ok (.iload_n 2, 1) := by decide +kernel
theorem dX11_layEnds_35 : decode cX11_layEnds 35 = .ok (.iload 4, 2) := by decide +kernel
theorem dX11_layEnds_37 : decode cX11_layEnds 37 = .ok (.ishr, 1) := by decide +kernel
theorem dX11_layEnds_38 : decode cX11_layEnds 38 = .ok (.iconst 1, 1) := by decide +kernel
theorem dX11_layEnds_39 : decode cX11_layEnds 39 = .ok (.iand, 1) := by decide +kernel
theorem dX11_layEnds_40 : decode cX11_layEnds 40 = .ok (.ifCond .ne 6, 3) := by decide +kernel
theorem dX11_layEnds_43 : decode cX11_layEnds 43 = .ok (.iinc 3 1, 3) := by decide +kernel
theorem dX11_layEnds_46 : decode cX11_layEnds 46 = .ok (.iinc 4 1, 3) := by decide +kernel
theorem dX11_layEnds_49 : decode cX11_layEnds 49 = .ok (.iinc 5 1, 3) := by decide +kernel
theorem dX11_layEnds_52 : decode cX11_layEnds 52 = .ok (.goto (-44), 3) := by decide +kernel
theorem dX11_layEnds_55 : decode cX11_layEnds 55 = .ok (.aload_n 0, 1) := by decide +kernel
theorem dX11_layEnds_56 : decode cX11_layEnds 56 = .ok (.iload 4, 2) := by decide +kernel
theorem dX11_layEnds_58 : decode cX11_layEnds 58 = .ok (.putfield 212, 3) := by decide +kernel
theorem dX11_layEnds_61 : decode cX11_layEnds 61 = .ok (.iload_n 3, 1) := by decide +kernel
theorem dX11_layEnds_62 : decode cX11_layEnds 62 = .ok (.istore 5, 2) := by decide +kernel
theorem dX11_layEnds_64 : decode cX11_layEnds 64 = .ok (.iload_n 3, 1) := by decide +kernel
theorem dX11_layEnds_65 : decode cX11_layEnds 65 = .ok (.istore 6, 2) := by decide +kernel
theorem dX11_layEnds_67 : decode cX11_layEnds 67 = .ok (.iconst 0, 1) := by decide +kernel
theorem dX11_layEnds_68 : decode cX11_layEnds 68 = .ok (.istore 4, 2) := by decide +kernel
theorem dX11_layEnds_70 : decode cX11_layEnds 70 = .ok (.iconst 0, 1) := by decide +kernel
theorem dX11_layEnds_71 : decode cX11_layEnds 71 = .ok (.istore 7, 2) := by decide +kernel
theorem dX11_layEnds_73 : decode cX11_layEnds 73 = .ok (.iload 7, 2) := by decide +kernel
theorem dX11_layEnds_75 : decode cX11_layEnds 75 = .ok (.aload_n 0, 1) := by decide +kernel
theorem dX11_layEnds_76 : decode cX11_layEnds 76 = .ok (.getfield 101, 3) := by decide +kernel
theorem dX11_layEnds_79 : decode cX11_layEnds 79 = .ok (.if_icmp .ge 77, 3) := by decide +kernel
theorem dX11_layEnds_82 : decode cX11_layEnds 82 = .ok (.iload_n 1, 1) := by decide +kernel
theorem dX11_layEnds_83 : decode cX11_layEnds 83 = .ok (.iload 7, 2) := by decide +kernel
theorem dX11_layEnds_85 : decode cX11_layEnds 85 = .ok (.ishr, 1) := by decide +kernel
theorem dX11_layEnds_86 : decode cX11_layEnds 86 = .ok (.iconst 1, 1) := by decide +kernel
theorem dX11_layEnds_87 : decode cX11_layEnds 87 = .ok (.iand, 1) := by decide +kernel
theorem dX11_layEnds_88 : decode cX11_layEnds 88 = .ok (.ifCond .ne 6, 3) := by decide +kernel
theorem dX11_layEnds_91 : decode cX11_layEnds 91 = .ok (.goto 59, 3) := by decide +kernel
theorem dX11_layEnds_94 : decode cX11_layEnds 94 = .ok (.iload 4, 2) := by decide +kernel
theorem dX11_layEnds_96 : decode cX11_layEnds 96 = .ok (.ifCond .ne 14, 3) := by decide +kernel
theorem dX11_layEnds_99 : decode cX11_layEnds 99 = .ok (.aload_n 0, 1) := by decide +kernel
theorem dX11_layEnds_100 : decode cX11_layEnds 100 = .ok (.getfield 54, 3) := by decide +kernel
theorem dX11_layEnds_103 : decode cX11_layEnds 103 = .ok (.iload_n 3, 1) := by decide +kernel
theorem dX11_layEnds_104 : decode cX11_layEnds 104 = .ok (.iload 7, 2) := by decide +kernel
theorem dX11_layEnds_106 : decode cX11_layEnds 106 = .ok (.iastore, 1) := by decide +kernel
theorem dX11_layEnds_107 : decode cX11_layEnds 107 = .ok (.goto 40, 3) := by decide +kernel
theorem dX11_layEnds_110 : decode cX11_layEnds 110 = .ok (.iload_n 2, 1) := by decide +kernel
theorem dX11_layEnds_111 : decode cX11_layEnds 111 = .ok (.iload 4, 2) := by decide +kernel
theorem dX11_layEnds_113 : decode cX11_layEnds 113 = .ok (.ishr, 1) := by decide +kernel
theorem dX11_layEnds_114 : decode cX11_layEnds 114 = .ok (.iconst 1, 1) := by decide +kernel
theorem dX11_layEnds_115 : decode cX11_layEnds 115 = .ok (.iand, 1) := by decide +kernel
theorem dX11_layEnds_116 : decode cX11_layEnds 116 = .ok (.iconst 1, 1) := by decide +kernel
theorem dX11_layEnds_117 : decode cX11_layEnds 117 = .ok (.if_icmp .ne 18, 3) := by decide +kernel
theorem dX11_layEnds_120 : decode cX11_layEnds 120 = .ok (.iinc 6 1, 3) := by decide +kernel
theorem dX11_layEnds_123 : decode cX11_layEnds 123 = .ok (.aload_n 0, 1) := by decide +kernel
theorem dX11_layEnds_124 : decode cX11_layEnds 124 = .ok (.getfield 54, 3) := by decide +kernel
theorem dX11_layEnds_127 : decode cX11_layEnds 127 = .ok (.iload 6, 2) := by decide +kernel
theorem dX11_layEnds_129 : decode cX11_layEnds 129 = .ok (.iload 7, 2) := by decide +kernel
theorem dX11_layEnds_131 : decode cX11_layEnds 131 = .ok (.iastore, 1) := by decide +kernel
theorem dX11_layEnds_132 : decode cX11_layEnds 132 = .ok (.goto 15, 3) := by decide +kernel
theorem dX11_layEnds_135 : decode cX11_layEnds 135 = .ok (.iinc 5 (-1), 3) := by decide +kernel
theorem dX11_layEnds_138 : decode cX11_layEnds 138 = .ok (.aload_n 0, 1) := by decide +kernel
theorem dX11_layEnds_139 : decode cX11_layEnds 139 = .ok (.getfield 54, 3) := by decide +kernel
theorem dX11_layEnds_142 : decode cX11_layEnds 142 = .ok (.iload 5, 2) := by decide +kernel
theorem dX11_layEnds_144 : decode cX11_layEnds 144 = .ok (.iload 7, 2) := by decide +kernel
theorem dX11_layEnds_146 : decode cX11_layEnds 146 = .ok (.iastore, 1) := by decide +kernel
theorem dX11_layEnds_147 : decode cX11_layEnds 147 = .ok (.iinc 4 1, 3) := by decide +kernel
theorem dX11_layEnds_150 : decode cX11_layEnds 150 = .ok (.iinc 7 1, 3) := by decide +kernel
theorem dX11_layEnds_153 : decode cX11_layEnds 153 = .ok (.goto (-80), 3) := by decide +kernel
theorem dX11_layEnds_156 : decode cX11_layEnds 156 = .ok (.return_, 1) := by decide +kernel
theorem dX11_endsOf_0 : decode cX11_endsOf 0 = .ok (.iload_n 1, 1) := by decide +kernel
theorem dX11_endsOf_1 : decode cX11_endsOf 1 = .ok (.ifCond .ne 5, 3) := by decide +kernel
theorem dX11_endsOf_4 : decode cX11_endsOf 4 = .ok (.iconst 0, 1) := by decide +kernel
theorem dX11_endsOf_5 : decode cX11_endsOf 5 = .ok (.ireturn, 1) := by decide +kernel
theorem dX11_endsOf_6 : decode cX11_endsOf 6 = .ok (.iconst 0, 1) := by decide +kernel
theorem dX11_endsOf_7 : decode cX11_endsOf 7 = .ok (.istore_n 2, 1) := by decide +kernel
theorem dX11_endsOf_8 : decode cX11_endsOf 8 = .ok (.iload_n 2, 1) := by decide +kernel
theorem dX11_endsOf_9 : decode cX11_endsOf 9 = .ok (.iconst 1, 1) := by decide +kernel
theorem dX11_endsOf_10 : decode cX11_endsOf 10 = .ok (.iload_n 1, 1) := by decide +kernel
theorem dX11_endsOf_11 : decode cX11_endsOf 11 = .ok (.invokestatic 266, 3) := by decide +kernel
theorem dX11_endsOf_14 : decode cX11_endsOf 14 = .ok (.ishl, 1) := by decide +kernel
theorem dX11_endsOf_15 : decode cX11_endsOf 15 = .ok (.if_icmp .ge 24, 3) := by decide +kernel
theorem dX11_endsOf_18 : decode cX11_endsOf 18 = .ok (.aload_n 0, 1) := by decide +kernel
theorem dX11_endsOf_19 : decode cX11_endsOf 19 = .ok (.iload_n 1, 1) := by decide +kernel
theorem dX11_endsOf_20 : decode cX11_endsOf 20 = .ok (.iload_n 2, 1) := by decide +kernel
theorem dX11_endsOf_21 : decode cX11_endsOf 21 = .ok (.invokevirtual 291, 3) := by decide +kernel
theorem dX11_endsOf_24 : decode cX11_endsOf 24 = .ok (.aload_n 0, 1) := by decide +kernel
theorem dX11_endsOf_25 : decode cX11_endsOf 25 = .ok (.invokevirtual 230, 3) := by decide +kernel
theorem dX11_endsOf_28 : decode cX11_endsOf 28 = .ok (.ifCond .eq 5, 3) := by decide +kernel
theorem dX11_endsOf_31 : decode cX11_endsOf 31 = .ok (.iload_n 2, 1) := by decide +kernel
theorem dX11_endsOf_32 : decode cX11_endsOf 32 = .ok (.ireturn, 1) := by decide +kernel
theorem dX11_endsOf_33 : decode cX11_endsOf 33 = .ok (.iinc 2 2, 3) := by decide +kernel
theorem dX11_endsOf_36 : decode cX11_endsOf 36 = .ok (.goto (-28), 3) := by decide +kernel
theorem dX11_endsOf_39 : decode cX11_endsOf 39 = .ok (.bipush (-2), 2) := by decide +kernel
theorem dX11_endsOf_41 : decode cX11_endsOf 41 = .ok (.ireturn, 1) := by decide +kernel
theorem dX11_ends_0 : decode cX11_ends 0 = .ok (.aload_n 0, 1) := by decide +kernel
theorem dX11_ends_1 : decode cX11_ends 1 = .ok (.iload_n 1, 1) := by decide +kernel
theorem dX11_ends_2 : decode cX11_ends 2 = .ok (.invokevirtual 276, 3) := by decide +kernel
theorem dX11_ends_5 : decode cX11_ends 5 = .ok (.ifCond .eq 15, 3) := by decide +kernel
theorem dX11_ends_8 : decode cX11_ends 8 = .ok (.iload_n 1, 1) := by decide +kernel
theorem dX11_ends_9 : decode cX11_ends 9 = .ok (.ifCond .le 11, 3) := by decide +kernel
theorem dX11_ends_12 : decode cX11_ends 12 = .ok (.aload_n 0, 1) := by decide +kernel
theorem dX11_ends_13 : decode cX11_ends 13 = .ok (.iload_n 1, 1) := by decide +kernel
theorem dX11_ends_14 : decode cX11_ends 14 = .ok (.invokevirtual 294, 3) := by decide +kernel
theorem dX11_ends_17 : decode cX11_ends 17 = .ok (.goto 4, 3) := by decide +kernel
theorem dX11_ends_20 : decode cX11_ends 20 = .ok (.iconst (-1), 1) := by decide +kernel
theorem dX11_ends_21 : decode cX11_ends 21 = .ok (.ireturn, 1) := by decide +kernel
theorem dX11_aside_0 : decode cX11_aside 0 = .ok (.aload_n 0, 1) := by decide +kernel
theorem dX11_aside_1 : decode cX11_aside 1 = .ok (.iload_n 1, 1) := by decide +kernel
theorem dX11_aside_2 : decode cX11_aside 2 = .ok (.invokevirtual 276, 3) := by decide +kernel
theorem dX11_aside_5 : decode cX11_aside 5 = .ok (.ifCond .eq 7, 3) := by decide +kernel
theorem dX11_aside_8 : decode cX11_aside 8 = .ok (.iload_n 1, 1) := by decide +kernel
theorem dX11_aside_9 : decode cX11_aside 9 = .ok (.ifCond .ne 5, 3) := by decide +kernel
theorem dX11_aside_12 : decode cX11_aside 12 = .ok (.iconst (-1), 1) := by decide +kernel
theorem dX11_aside_13 : decode cX11_aside 13 = .ok (.ireturn, 1) := by decide +kernel
theorem dX11_aside_14 : decode cX11_aside 14 = .ok (.iload_n 1, 1) := by decide +kernel
theorem dX11_aside_15 : decode cX11_aside 15 = .ok (.istore_n 2, 1) := by decide +kernel
theorem dX11_aside_16 : decode cX11_aside 16 = .ok (.iconst 0, 1) := by decide +kernel
theorem dX11_aside_17 : decode cX11_aside 17 = .ok (.istore_n 3, 1) := by decide +kernel
theorem dX11_aside_18 : decode cX11_aside 18 = .ok (.iload_n 3, 1) := by decide +kernel
theorem dX11_aside_19 : decode cX11_aside 19 = .ok (.iload_n 1, 1) := by decide +kernel
theorem dX11_aside_20 : decode cX11_aside 20 = .ok (.if_icmp .ge 42, 3) := by decide +kernel
theorem dX11_aside_23 : decode cX11_aside 23 = .ok (.iload_n 3, 1) := by decide +kernel
theorem dX11_aside_24 : decode cX11_aside 24 = .ok (.iload_n 1, 1) := by decide +kernel
theorem dX11_aside_25 : decode cX11_aside 25 = .ok (.iconst (-1), 1) := by decide +kernel
theorem dX11_aside_26 : decode cX11_aside 26 = .ok (.ixor, 1) := by decide +kernel
theorem dX11_aside_27 : decode cX11_aside 27 = .ok (.iand, 1) := by decide +kernel
theorem dX11_aside_28 : decode cX11_aside 28 = .ok (.ifCond .ne 28, 3) := by decide +kernel
theorem dX11_aside_31 : decode cX11_aside 31 = .ok (.iload_n 3, 1) := by decide +kernel
theorem dX11_aside_32 : decode cX11_aside 32 = .ok (.invokestatic 266, 3) := by decide +kernel
theorem dX11_aside_35 : decode cX11_aside 35 = .ok (.iload_n 2, 1) := by decide +kernel
theorem dX11_aside_36 : decode cX11_aside 36 = .ok (.invokestatic 266, 3) := by decide +kernel
theorem dX11_aside_39 : decode cX11_aside 39 = .ok (.if_icmp .ge 17, 3) := by decide +kernel
theorem dX11_aside_42 : decode cX11_aside 42 = .ok (.aload_n 0, 1) := by decide +kernel
theorem dX11_aside_43 : decode cX11_aside 43 = .ok (.iload_n 1, 1) := by decide +kernel
theorem dX11_aside_44 : decode cX11_aside 44 = .ok (.iload_n 3, 1) := by decide +kernel
theorem dX11_aside_45 : decode cX11_aside 45 = .ok (.iconst (-1), 1) := by decide +kernel
theorem dX11_aside_46 : decode cX11_aside 46 = .ok (.ixor, 1) := by decide +kernel
theorem dX11_aside_47 : decode cX11_aside 47 = .ok (.iand, 1) := by decide +kernel
theorem dX11_aside_48 : decode cX11_aside 48 = .ok (.invokevirtual 294, 3) := by decide +kernel
theorem dX11_aside_51 : decode cX11_aside 51 = .ok (.ifCond .lt 5, 3) := by decide +kernel
theorem dX11_aside_54 : decode cX11_aside 54 = .ok (.iload_n 3, 1) := by decide +kernel
theorem dX11_aside_55 : decode cX11_aside 55 = .ok (.istore_n 2, 1) := by decide +kernel
theorem dX11_aside_56 : decode cX11_aside 56 = .ok (.iinc 3 1, 3) := by decide +kernel
theorem dX11_aside_59 : decode cX11_aside 59 = .ok (.goto (-41), 3) := by decide +kernel
theorem dX11_aside_62 : decode cX11_aside 62 = .ok (.iload_n 2, 1) := by decide +kernel
theorem dX11_aside_63 : decode cX11_aside 63 = .ok (.ireturn, 1) := by decide +kernel
theorem dX11_isLawfulWithout_0 : decode cX11_isLawfulWithout 0 = .ok (.aload_n 0, 1) := by decide +kernel
theorem dX11_isLawfulWithout_1 : decode cX11_isLawfulWithout 1 = .ok (.iload_n 1, 1) := by decide +kernel
theorem dX11_isLawfulWithout_2 : decode cX11_isLawfulWithout 2 = .ok (.invokevirtual 254, 3) := by decide +kernel
theorem dX11_isLawfulWithout_5 : decode cX11_isLawfulWithout 5 = .ok (.aload_n 0, 1) := by decide +kernel
theorem dX11_isLawfulWithout_6 : decode cX11_isLawfulWithout 6 = .ok (.invokevirtual 230, 3) := by decide +kernel
theorem dX11_isLawfulWithout_9 : decode cX11_isLawfulWithout 9 = .ok (.ireturn, 1) := by decide +kernel
theorem dX11_standing_0 : decode cX11_standing 0 = .ok (.iconst 0, 1) := by decide +kernel
theorem dX11_standing_1 : decode cX11_standing 1 = .ok (.istore_n 1, 1) := by decide +kernel
theorem dX11_standing_2 : decode cX11_standing 2 = .ok (.iconst 0, 1) := by decide +kernel
theorem dX11_standing_3 : decode cX11_standing 3 = .ok (.istore_n 2, 1) := by decide +kernel
theorem dX11_standing_4 : decode cX11_standing 4 = .ok (.iload_n 2, 1) := by decide +kernel
theorem dX11_standing_5 : decode cX11_standing 5 = .ok (.aload_n 0, 1) := by decide +kernel
theorem dX11_standing_6 : decode cX11_standing 6 = .ok (.getfield 108, 3) := by decide +kernel
theorem dX11_standing_9 : decode cX11_standing 9 = .ok (.if_icmp .ge 20, 3) := by decide +kernel
theorem dX11_standing_12 : decode cX11_standing 12 = .ok (.iload_n 1, 1) := by decide +kernel
theorem dX11_standing_13 : decode cX11_standing 13 = .ok (.iconst 1, 1) := by decide +kernel
theorem dX11_standing_14 : decode cX11_standing 14 = .ok (.aload_n 0, 1) := by decide +kernel
theorem dX11_standing_15 : decode cX11_standing 15 = .ok (.getfield 13, 3) := by decide +kernel
theorem dX11_standing_18 : decode cX11_standing 18 = .ok (.iload_n 2, 1) := by decide +kernel
theorem dX11_standing_19 : decode cX11_standing 19 = .ok (.iaload, 1) := by decide +kernel
theorem dX11_standing_20 : decode cX11_standing 20 = .ok (.ishl, 1) := by decide +kernel
theorem dX11_standing_21 : decode cX11_standing 21 = .ok (.ior, 1) := by decide +kernel
theorem dX11_standing_22 : decode cX11_standing 22 = .ok (.istore_n 1, 1) := by decide +kernel
theorem dX11_standing_23 : decode cX11_standing 23 = .ok (.iinc 2 1, 3) := by decide +kernel
theorem dX11_standing_26 : decode cX11_standing 26 = .ok (.goto (-22), 3) := by decide +kernel
theorem dX11_standing_29 : decode cX11_standing 29 = .ok (.iload_n 1, 1) := by decide +kernel
theorem dX11_standing_30 : decode cX11_standing 30 = .ok (.ireturn, 1) := by decide +kernel
theorem dX11_findMost_0 : decode cX11_findMost 0 = .ok (.aload_n 0, 1) := by decide +kernel
theorem dX11_findMost_1 : decode cX11_findMost 1 = .ok (.invokevirtual 297, 3) := by decide +kernel
theorem dX11_findMost_4 : decode cX11_findMost 4 = .ok (.istore_n 1, 1) := by decide +kernel
theorem dX11_findMost_5 : decode cX11_findMost 5 = .ok (.sipush 255, 3) := by decide +kernel
theorem dX11_findMost_8 : decode cX11_findMost 8 = .ok (.istore_n 2, 1) := by decide +kernel
theorem dX11_findMost_9 : decode cX11_findMost 9 = .ok (.iload_n 2, 1) := by decide +kernel
theorem dX11_findMost_10 : decode cX11_findMost 10 = .ok (.ifCond .lt 109, 3) := by decide +kernel
theorem dX11_findMost_13 : decode cX11_findMost 13 = .ok (.aload_n 0, 1) := by decide +kernel
theorem dX11_findMost_14 : decode cX11_findMost 14 = .ok (.getfield 63, 3) := by decide +kernel
theorem dX11_findMost_17 : decode cX11_findMost 17 = .ok (.iload_n 2, 1) := by decide +kernel
theorem dX11_findMost_18 : decode cX11_findMost 18 = .ok (.iconst 0, 1) := by decide +kernel
theorem dX11_findMost_19 : decode cX11_findMost 19 = .ok (.iastore, 1) := by decide +kernel
theorem dX11_findMost_20 : decode cX11_findMost 20 = .ok (.iload_n 2, 1) := by decide +kernel
theorem dX11_findMost_21 : decode cX11_findMost 21 = .ok (.iload_n 1, 1) := by decide +kernel
theorem dX11_findMost_22 : decode cX11_findMost 22 = .ok (.iconst (-1), 1) := by decide +kernel
theorem dX11_findMost_23 : decode cX11_findMost 23 = .ok (.ixor, 1) := by decide +kernel
theorem dX11_findMost_24 : decode cX11_findMost 24 = .ok (.iand, 1) := by decide +kernel
theorem dX11_findMost_25 : decode cX11_findMost 25 = .ok (.ifCond .eq 6, 3) := by decide +kernel
theorem dX11_findMost_28 : decode cX11_findMost 28 = .ok (.goto 85, 3) := by decide +kernel
theorem dX11_findMost_31 : decode cX11_findMost 31 = .ok (.iconst 0, 1) := by decide +kernel
theorem dX11_findMost_32 : decode cX11_findMost 32 = .ok (.istore_n 3, 1) := by decide +kernel
theorem dX11_findMost_33 : decode cX11_findMost 33 = .ok (.iload_n 3, 1) := by decide +kernel
theorem dX11_findMost_34 : decode cX11_findMost 34 = .ok (.aload_n 0, 1) := by decide +kernel
theorem dX11_findMost_35 : decode cX11_findMost 35 = .ok (.getfield 101, 3) := by decide +kernel
theorem dX11_findMost_38 : decode cX11_findMost 38 = .ok (.if_icmp .ge 75, 3) := by decide +kernel
theorem dX11_findMost_41 : decode cX11_findMost 41 = .ok (.iload_n 2, 1) := by decide +kernel
theorem dX11_findMost_42 : decode cX11_findMost 42 = .ok (.iconst 1, 1) := by decide +kernel
theorem dX11_findMost_43 : decode cX11_findMost 43 = .ok (.iload_n 3, 1) := by decide +kernel
theorem dX11_findMost_44 : decode cX11_findMost 44 = .ok (.ishl, 1) := by decide +kernel
theorem dX11_findMost_45 : decode cX11_findMost 45 = .ok (.ior, 1) := by decide +kernel
theorem dX11_findMost_46 : decode cX11_findMost 46 = .ok (.istore 4, 2) := by decide +kernel
theorem dX11_findMost_48 : decode cX11_findMost 48 = .ok (.iload_n 1, 1) := by decide +kernel
theorem dX11_findMost_49 : decode cX11_findMost 49 = .ok (.iload_n 3, 1) := by decide +kernel
theorem dX11_findMost_50 : decode cX11_findMost 50 = .ok (.ishr, 1) := by decide +kernel
theorem dX11_findMost_51 : decode cX11_findMost 51 = .ok (.iconst 1, 1) := by decide +kernel
theorem dX11_findMost_52 : decode cX11_findMost 52 = .ok (.iand, 1) := by decide +kernel
theorem dX11_findMost_53 : decode cX11_findMost 53 = .ok (.ifCond .eq 54, 3) := by decide +kernel
theorem dX11_findMost_56 : decode cX11_findMost 56 = .ok (.iload 4, 2) := by decide +kernel
theorem dX11_findMost_58 : decode cX11_findMost 58 = .ok (.iload_n 2, 1) := by decide +kernel
theorem dX11_findMost_59 : decode cX11_findMost 59 = .ok (.if_icmp .eq 48, 3) := by decide +kernel
theorem dX11_findMost_62 : decode cX11_findMost 62 = .ok (.aload_n 0, 1) := by decide +kernel
theorem dX11_findMost_63 : decode cX11_findMost 63 = .ok (.iload 4, 2) := by decide +kernel
theorem dX11_findMost_65 : decode cX11_findMost 65 = .ok (.invokevirtual 300, 3) := by decide +kernel
theorem dX11_findMost_68 : decode cX11_findMost 68 = .ok (.ifCond .ne 6, 3) := by decide +kernel
theorem dX11_findMost_71 : decode cX11_findMost 71 = .ok (.goto 36, 3) := by decide +kernel
theorem dX11_findMost_74 : decode cX11_findMost 74 = .ok (.iconst 1, 1) := by decide +kernel
theorem dX11_findMost_75 : decode cX11_findMost 75 = .ok (.aload_n 0, 1) := by decide +kernel
theorem dX11_findMost_76 : decode cX11_findMost 76 = .ok (.getfield 63, 3) := by decide +kernel
theorem dX11_findMost_79 : decode cX11_findMost 79 = .ok (.iload 4, 2) := by decide +kernel
theorem dX11_findMost_81 : decode cX11_findMost 81 = .ok (.iaload, 1) := by decide +kernel
theorem dX11_findMost_82 : decode cX11_findMost 82 = .ok (.iadd, 1) := by decide +kernel
theorem dX11_findMost_83 : decode cX11_findMost 83 = .ok (.aload_n 0, 1) := by decide +kernel
theorem dX11_findMost_84 : decode cX11_findMost 84 = .ok (.getfield 63, 3) := by decide +kernel
theorem dX11_findMost_87 : decode cX11_findMost 87 = .ok (.iload_n 2, 1) := by decide +kernel
theorem dX11_findMost_88 : decode cX11_findMost 88 = .ok (.iaload, 1) := by decide +kernel
theorem dX11_findMost_89 : decode cX11_findMost 89 = .ok (.if_icmp .le 18, 3) := by decide +kernel
theorem dX11_findMost_92 : decode cX11_findMost 92 = .ok (.aload_n 0, 1) := by decide +kernel
theorem dX11_findMost_93 : decode cX11_findMost 93 = .ok (.getfield 63, 3) := by decide +kernel
theorem dX11_findMost_96 : decode cX11_findMost 96 = .ok (.iload_n 2, 1) := by decide +kernel
theorem dX11_findMost_97 : decode cX11_findMost 97 = .ok (.iconst 1, 1) := by decide +kernel
theorem dX11_findMost_98 : decode cX11_findMost 98 = .ok (.aload_n 0, 1) := by decide +kernel
theorem dX11_findMost_99 : decode cX11_findMost 99 = .ok (.getfield 63, 3) := by decide +kernel
theorem dX11_findMost_102 : decode cX11_findMost 102 = .ok (.iload 4, 2) := by decide +kernel
theorem dX11_findMost_104 : decode cX11_findMost 104 = .ok (.iaload, 1) := by decide +kernel
theorem dX11_findMost_105 : decode cX11_findMost 105 = .ok (.iadd, 1) := by decide +kernel
theorem dX11_findMost_106 : decode cX11_findMost 106 = .ok (.iastore, 1) := by decide +kernel
theorem dX11_findMost_107 : decode cX11_findMost 107 = .ok (.iinc 3 1, 3) := by decide +kernel
theorem dX11_findMost_110 : decode cX11_findMost 110 = .ok (.goto (-77), 3) := by decide +kernel
theorem dX11_findMost_113 : decode cX11_findMost 113 = .ok (.iinc 2 (-1), 3) := by decide +kernel
theorem dX11_findMost_116 : decode cX11_findMost 116 = .ok (.goto (-107), 3) := by decide +kernel
theorem dX11_findMost_119 : decode cX11_findMost 119 = .ok (.return_, 1) := by decide +kernel
theorem dX11_soldOn_0 : decode cX11_soldOn 0 = .ok (.iload_n 1, 1) := by decide +kernel
theorem dX11_soldOn_1 : decode cX11_soldOn 1 = .ok (.iconst (-1), 1) := by decide +kernel
theorem dX11_soldOn_2 : decode cX11_soldOn 2 = .ok (.if_icmp .ge 5, 3) := by decide +kernel
theorem dX11_soldOn_5 : decode cX11_soldOn 5 = .ok (.iconst (-1), 1) := by decide +kernel
theorem dX11_soldOn_6 : decode cX11_soldOn 6 = .ok (.ireturn, 1) := by decide +kernel
theorem dX11_soldOn_7 : decode cX11_soldOn 7 = .ok (.aload_n 0, 1) := by decide +kernel
theorem dX11_soldOn_8 : decode cX11_soldOn 8 = .ok (.invokevirtual 303, 3) := by decide +kernel
theorem dX11_soldOn_11 : decode cX11_soldOn 11 = .ok (.iload_n 1, 1) := by decide +kernel
theorem dX11_soldOn_12 : decode cX11_soldOn 12 = .ok (.ifCond .ge 10, 3) := by decide +kernel
theorem dX11_soldOn_15 : decode cX11_soldOn 15 = .ok (.aload_n 0, 1) := by decide +kernel
theorem dX11_soldOn_16 : decode cX11_soldOn 16 = .ok (.getfield 63, 3) := by decide +kernel
theorem dX11_soldOn_19 : decode cX11_soldOn 19 = .ok (.iconst 0, 1) := by decide +kernel
theorem dX11_soldOn_20 : decode cX11_soldOn 20 = .ok (.iaload, 1) := by decide +kernel
theorem dX11_soldOn_21 : decode cX11_soldOn 21 = .ok (.ireturn, 1) := by decide +kernel
theorem dX11_soldOn_22 : decode cX11_soldOn 22 = .ok (.iload_n 1, 1) := by decide +kernel
theorem dX11_soldOn_23 : decode cX11_soldOn 23 = .ok (.aload_n 0, 1) := by decide +kernel
theorem dX11_soldOn_24 : decode cX11_soldOn 24 = .ok (.getfield 63, 3) := by decide +kernel
theorem dX11_soldOn_27 : decode cX11_soldOn 27 = .ok (.iconst 0, 1) := by decide +kernel
theorem dX11_soldOn_28 : decode cX11_soldOn 28 = .ok (.iaload, 1) := by decide +kernel
theorem dX11_soldOn_29 : decode cX11_soldOn 29 = .ok (.if_icmp .lt 6, 3) := by decide +kernel
theorem dX11_soldOn_32 : decode cX11_soldOn 32 = .ok (.bipush (-2), 2) := by decide +kernel
theorem dX11_soldOn_34 : decode cX11_soldOn 34 = .ok (.ireturn, 1) := by decide +kernel
theorem dX11_soldOn_35 : decode cX11_soldOn 35 = .ok (.iconst 0, 1) := by decide +kernel
theorem dX11_soldOn_36 : decode cX11_soldOn 36 = .ok (.istore_n 2, 1) := by decide +kernel
theorem dX11_soldOn_37 : decode cX11_soldOn 37 = .ok (.bipush (-2), 2) := by decide +kernel
theorem dX11_soldOn_39 : decode cX11_soldOn 39 = .ok (.istore_n 3, 1) := by decide +kernel
theorem dX11_soldOn_40 : decode cX11_soldOn 40 = .ok (.iconst 0, 1) := by decide +kernel
theorem dX11_soldOn_41 : decode cX11_soldOn 41 = .ok (.istore 4, 2) := by decide +kernel
theorem dX11_soldOn_43 : decode cX11_soldOn 43 = .ok (.iload 4, 2) := by decide +kernel
theorem dX11_soldOn_45 : decode cX11_soldOn 45 = .ok (.iload_n 1, 1) := by decide +kernel
theorem dX11_soldOn_46 : decode cX11_soldOn 46 = .ok (.if_icmp .gt 32, 3) := by decide +kernel
theorem dX11_soldOn_49 : decode cX11_soldOn 49 = .ok (.iconst 0, 1) := by decide +kernel
theorem dX11_soldOn_50 : decode cX11_soldOn 50 = .ok (.istore_n 3, 1) := by decide +kernel
theorem dX11_soldOn_51 : decode cX11_soldOn 51 = .ok (.aload_n 0, 1) := by decide +kernel
theorem dX11_soldOn_52 : decode cX11_soldOn 52 = .ok (.iload_n 2, 1) := by decide +kernel
theorem dX11_soldOn_53 : decode cX11_soldOn 53 = .ok (.iload_n 3, 1) := by decide +kernel
theorem dX11_soldOn_54 : decode cX11_soldOn 54 = .ok (.invokevirtual 306, 3) := by decide +kernel
theorem dX11_soldOn_57 : decode cX11_soldOn 57 = .ok (.ifCond .ne 9, 3) := by decide +kernel
theorem dX11_soldOn_60 : decode cX11_soldOn 60 = .ok (.iinc 3 1, 3) := by decide +kernel
theorem dX11_soldOn_63 : decode cX11_soldOn 63 = .ok (.goto (-12), 3) := by decide +kernel
theorem dX11_soldOn_66 : decode cX11_soldOn 66 = .ok (.iload_n 2, 1) := by decide +kernel
theorem dX11_soldOn_67 : decode cX11_soldOn 67 = .ok (.iconst 1, 1) := by decide +kernel
theorem dX11_soldOn_68 : decode cX11_soldOn 68 = .ok (.iload_n 3, 1) := by decide +kernel
theorem dX11_soldOn_69 : decode cX11_soldOn 69 = .ok (.ishl, 1) := by decide +kernel
theorem dX11_soldOn_70 : decode cX11_soldOn 70 = .ok (.ior, 1) := by decide +kernel
theorem dX11_soldOn_71 : decode cX11_soldOn 71 = .ok (.istore_n 2, 1) := by decide +kernel
theorem dX11_soldOn_72 : decode cX11_soldOn 72 = .ok (.iinc 4 1, 3) := by decide +kernel
theorem dX11_soldOn_75 : decode cX11_soldOn 75 = .ok (.goto (-32), 3) := by decide +kernel
theorem dX11_soldOn_78 : decode cX11_soldOn 78 = .ok (.iload_n 3, 1) := by decide +kernel
theorem dX11_soldOn_79 : decode cX11_soldOn 79 = .ok (.ireturn, 1) := by decide +kernel
theorem dX11_isNextSale_0 : decode cX11_isNextSale 0 = .ok (.iload_n 1, 1) := by decide +kernel
theorem dX11_isNextSale_1 : decode cX11_isNextSale 1 = .ok (.iconst 1, 1) := by decide +kernel
theorem dX11_isNextSale_2 : decode cX11_isNextSale 2 = .ok (.iload_n 2, 1) := by decide +kernel
theorem dX11_isNextSale_3 : decode cX11_isNextSale 3 = .ok (.ishl, 1) := by decide +kernel
theorem dX11_isNextSale_4 : decode cX11_isNextSale 4 = .ok (.ior, 1) := by decide +kernel
theorem dX11_isNextSale_5 : decode cX11_isNextSale 5 = .ok (.istore_n 3, 1) := by decide +kernel
theorem dX11_isNextSale_6 : decode cX11_isNextSale 6 = .ok (.aload_n 0, 1) := by decide +kernel
theorem dX11_isNextSale_7 : decode cX11_isNextSale 7 = .ok (.invokevirtual 297, 3) := by decide +kernel
theorem dX11_isNextSale_10 : decode cX11_isNextSale 10 = .ok (.iload_n 2, 1) := by decide +kernel
theorem dX11_isNextSale_11 : decode cX11_isNextSale 11 = .ok (.ishr, 1) := by decide +kernel
theorem dX11_isNextSale_12 : decode cX11_isNextSale 12 = .ok (.iconst 1, 1) := by decide +kernel
theorem dX11_isNextSale_13 : decode cX11_isNextSale 13 = .ok (.iand, 1) := by decide +kernel
theorem dX11_isNextSale_14 : decode cX11_isNextSale 14 = .ok (.iconst 1, 1) := by decide +kernel
theorem dX11_isNextSale_15 : decode cX11_isNextSale 15 = .ok (.if_icmp .ne 37, 3) := by decide +kernel
theorem dX11_isNextSale_18 : decode cX11_isNextSale 18 = .ok (.iload_n 3, 1) := by decide +kernel
theorem dX11_isNextSale_19 : decode cX11_isNextSale 19 = .ok (.iload_n 1, 1) := by decide +kernel
theorem dX11_isNextSale_20 : decode cX11_isNextSale 20 = .ok (.if_icmp .eq 32, 3) := by decide +kernel
theorem dX11_isNextSale_23 : decode cX11_isNextSale 23 = .ok (.aload_n 0, 1) := by decide +kernel
theorem dX11_isNextSale_24 : decode cX11_isNextSale 24 = .ok (.iload_n 3, 1) := by decide +kernel
theorem dX11_isNextSale_25 : decode cX11_isNextSale 25 = .ok (.invokevirtual 300, 3) := by decide +kernel
theorem dX11_isNextSale_28 : decode cX11_isNextSale 28 = .ok (.ifCond .eq 24, 3) := by decide +kernel
theorem dX11_isNextSale_31 : decode cX11_isNextSale 31 = .ok (.iconst 1, 1) := by decide +kernel
theorem dX11_isNextSale_32 : decode cX11_isNextSale 32 = .ok (.aload_n 0, 1) := by decide +kernel
theorem dX11_isNextSale_33 : decode cX11_isNextSale 33 = .ok (.getfield 63, 3) := by decide +kernel
theorem dX11_isNextSale_36 : decode cX11_isNextSale 36 = .ok (.iload_n 3, 1) := by decide +kernel
theorem dX11_isNextSale_37 : decode cX11_isNextSale 37 = .ok (.iaload, 1) := by decide +kernel
theorem dX11_isNextSale_38 : decode cX11_isNextSale 38 = .ok (.iadd, 1) := by decide +kernel
theorem dX11_isNextSale_39 : decode cX11_isNextSale 39 = .ok (.aload_n 0, 1) := by decide +kernel
theorem dX11_isNextSale_40 : decode cX11_isNextSale 40 = .ok (.getfield 63, 3) := by decide +kernel
theorem dX11_isNextSale_43 : decode cX11_isNextSale 43 = .ok (.iload_n 1, 1) := by decide +kernel
theorem dX11_isNextSale_44 : decode cX11_isNextSale 44 = .ok (.iaload, 1) := by decide +kernel
theorem dX11_isNextSale_45 : decode cX11_isNextSale 45 = .ok (.if_icmp .ne 7, 3) := by decide +kernel
theorem dX11_isNextSale_48 : decode cX11_isNextSale 48 = .ok (.iconst 1, 1) := by decide +kernel
theorem dX11_isNextSale_49 : decode cX11_isNextSale 49 = .ok (.goto 4, 3) := by decide +kernel
theorem dX11_isNextSale_52 : decode cX11_isNextSale 52 = .ok (.iconst 0, 1) := by decide +kernel
theorem dX11_isNextSale_53 : decode cX11_isNextSale 53 = .ok (.ireturn, 1) := by decide +kernel
theorem dX11_worth_0 : decode cX11_worth 0 = .ok (.aload_n 0, 1) := by decide +kernel
theorem dX11_worth_1 : decode cX11_worth 1 = .ok (.iload_n 1, 1) := by decide +kernel
theorem dX11_worth_2 : decode cX11_worth 2 = .ok (.invokevirtual 276, 3) := by decide +kernel
theorem dX11_worth_5 : decode cX11_worth 5 = .ok (.ifCond .eq 19, 3) := by decide +kernel
theorem dX11_worth_8 : decode cX11_worth 8 = .ok (.aload_n 0, 1) := by decide +kernel
theorem dX11_worth_9 : decode cX11_worth 9 = .ok (.iload_n 2, 1) := by decide +kernel
theorem dX11_worth_10 : decode cX11_worth 10 = .ok (.invokevirtual 136, 3) := by decide +kernel
theorem dX11_worth_13 : decode cX11_worth 13 = .ok (.ifCond .eq 11, 3) := by decide +kernel
theorem dX11_worth_16 : decode cX11_worth 16 = .ok (.iload_n 1, 1) := by decide +kernel
theorem dX11_worth_17 : decode cX11_worth 17 = .ok (.iload_n 2, 1) := by decide +kernel
theorem dX11_worth_18 : decode cX11_worth 18 = .ok (.ishr, 1) := by decide +kernel
theorem dX11_worth_19 : decode cX11_worth 19 = .ok (.iconst 1, 1) := by decide +kernel
theorem dX11_worth_20 : decode cX11_worth 20 = .ok (.iand, 1) := by decide +kernel
theorem dX11_worth_21 : decode cX11_worth 21 = .ok (.ifCond .ne 7, 3) := by decide +kernel
theorem dX11_worth_24 : decode cX11_worth 24 = .ok (.ldc_w 309, 3) := by decide +kernel
theorem dX11_worth_27 : decode cX11_worth 27 = .ok (.ireturn, 1) := by decide +kernel
theorem dX11_worth_28 : decode cX11_worth 28 = .ok (.aload_n 0, 1) := by decide +kernel
theorem dX11_worth_29 : decode cX11_worth 29 = .ok (.iload_n 1, 1) := by decide +kernel
theorem dX11_worth_30 : decode cX11_worth 30 = .ok (.iconst (-1), 1) := by decide +kernel
theorem dX11_worth_31 : decode cX11_worth 31 = .ok (.invokevirtual 279, 3) := by decide +kernel
theorem dX11_worth_34 : decode cX11_worth 34 = .ok (.istore_n 3, 1) := by decide +kernel
theorem dX11_worth_35 : decode cX11_worth 35 = .ok (.iload_n 3, 1) := by decide +kernel
theorem dX11_worth_36 : decode cX11_worth 36 = .ok (.aload_n 0, 1) := by decide +kernel
theorem dX11_worth_37 : decode cX11_worth 37 = .ok (.iload_n 1, 1) := by decide +kernel
theorem dX11_worth_38 : decode cX11_worth 38 = .ok (.iconst 1, 1) := by decide +kernel
theorem dX11_worth_39 : decode cX11_worth 39 = .ok (.iload_n 2, 1) := by decide +kernel
theorem dX11_worth_40 : decode cX11_worth 40 = .ok (.ishl, 1) := by decide +kernel
theorem dX11_worth_41 : decode cX11_worth 41 = .ok (.iconst (-1), 1) := by decide +kernel
theorem dX11_worth_42 : decode cX11_worth 42 = .ok (.ixor, 1) := by decide +kernel
theorem dX11_worth_43 : decode cX11_worth 43 = .ok (.iand, 1) := by decide +kernel
theorem dX11_worth_44 : decode cX11_worth 44 = .ok (.iconst (-1), 1) := by decide +kernel
theorem dX11_worth_45 : decode cX11_worth 45 = .ok (.invokevirtual 279, 3) := by decide +kernel
theorem dX11_worth_48 : decode cX11_worth 48 = .ok (.isub, 1) := by decide +kernel
theorem dX11_worth_49 : decode cX11_worth 49 = .ok (.ireturn, 1) := by decide +kernel
theorem dX11_ways1_0 : decode cX11_ways1 0 = .ok (.iconst 1, 1) := by decide +kernel
theorem dX11_ways1_1 : decode cX11_ways1 1 = .ok (.istore_n 1, 1) := by decide +kernel
theorem dX11_ways1_2 : decode cX11_ways1 2 = .ok (.iconst 2, 1) := by decide +kernel
theorem dX11_ways1_3 : decode cX11_ways1 3 = .ok (.istore_n 2, 1) := by decide +kernel
theorem dX11_ways1_4 : decode cX11_ways1 4 = .ok (.iload_n 2, 1) := by decide +kernel
theorem dX11_ways1_5 : decode cX11_ways1 5 = .ok (.iload_n 0, 1) := by decide +kernel
theorem dX11_ways1_6 : decode cX11_ways1 6 = .ok (.if_icmp .gt 13, 3) := by decide +kernel
theorem dX11_ways1_9 : decode cX11_ways1 9 = .ok (.iload_n 1, 1) := by decide +kernel
theorem dX11_ways1_10 : decode cX11_ways1 10 = .ok (.iload_n 2, 1) := by decide +kernel
theorem dX11_ways1_11 : decode cX11_ways1 11 = .ok (.imul, 1) := by decide +kernel
theorem dX11_ways1_12 : decode cX11_ways1 12 = .ok (.istore_n 1, 1) := by decide +kernel
theorem dX11_ways1_13 : decode cX11_ways1 13 = .ok (.iinc 2 1, 3) := by decide +kernel
theorem dX11_ways1_16 : decode cX11_ways1 16 = .ok (.goto (-12), 3) := by decide +kernel
theorem dX11_ways1_19 : decode cX11_ways1 19 = .ok (.iload_n 1, 1) := by decide +kernel
theorem dX11_ways1_20 : decode cX11_ways1 20 = .ok (.ireturn, 1) := by decide +kernel
theorem dX11_rankOf_0 : decode cX11_rankOf 0 = .ok (.iconst 0, 1) := by decide +kernel
theorem dX11_rankOf_1 : decode cX11_rankOf 1 = .ok (.istore_n 1, 1) := by decide +kernel
theorem dX11_rankOf_2 : decode cX11_rankOf 2 = .ok (.iconst 0, 1) := by decide +kernel
theorem dX11_rankOf_3 : decode cX11_rankOf 3 = .ok (.istore_n 2, 1) := by decide +kernel
theorem dX11_rankOf_4 : decode cX11_rankOf 4 = .ok (.iload_n 2, 1) := by decide +kernel
theorem dX11_rankOf_5 : decode cX11_rankOf 5 = .ok (.aload_n 0, 1) := by decide +kernel
theorem dX11_rankOf_6 : decode cX11_rankOf 6 = .ok (.getfield 212, 3) := by decide +kernel
theorem dX11_rankOf_9 : decode cX11_rankOf 9 = .ok (.if_icmp .ge 66, 3) := by decide +kernel
theorem dX11_rankOf_12 : decode cX11_rankOf 12 = .ok (.iconst 0, 1) := by decide +kernel
theorem dX11_rankOf_13 : decode cX11_rankOf 13 = .ok (.istore_n 3, 1) := by decide +kernel
theorem dX11_rankOf_14 : decode cX11_rankOf 14 = .ok (.iload_n 2, 1) := by decide +kernel
theorem dX11_rankOf_15 : decode cX11_rankOf 15 = .ok (.iconst 1, 1) := by decide +kernel
theorem dX11_rankOf_16 : decode cX11_rankOf 16 = .ok (.iadd, 1) := by decide +kernel
theorem dX11_rankOf_17 : decode cX11_rankOf 17 = .ok (.istore 4, 2) := by decide +kernel
theorem dX11_rankOf_19 : decode cX11_rankOf 19 = .ok (.iload 4, 2) := by decide +kernel
theorem dX11_rankOf_21 : decode cX11_rankOf 21 = .ok (.aload_n 0, 1) := by decide +kernel
theorem dX11_rankOf_22 : decode cX11_rankOf 22 = .ok (.getfield 212, 3) := by decide +kernel
theorem dX11_rankOf_25 : decode cX11_rankOf 25 = .ok (.if_icmp .ge 28, 3) := by decide +kernel
theorem dX11_rankOf_28 : decode cX11_rankOf 28 = .ok (.aload_n 0, 1) := by decide +kernel
theorem dX11_rankOf_29 : decode cX11_rankOf 29 = .ok (.getfield 54, 3) := by decide +kernel
theorem dX11_rankOf_32 : decode cX11_rankOf 32 = .ok (.iload 4, 2) := by decide +kernel
theorem dX11_rankOf_34 : decode cX11_rankOf 34 = .ok (.iaload, 1) := by decide +kernel
theorem dX11_rankOf_35 : decode cX11_rankOf 35 = .ok (.aload_n 0, 1) := by decide +kernel
theorem dX11_rankOf_36 : decode cX11_rankOf 36 = .ok (.getfield 54, 3) := by decide +kernel
theorem dX11_rankOf_39 : decode cX11_rankOf 39 = .ok (.iload_n 2, 1) := by decide +kernel
theorem dX11_rankOf_40 : decode cX11_rankOf 40 = .ok (.iaload, 1) := by decide +kernel
theorem dX11_rankOf_41 : decode cX11_rankOf 41 = .ok (.if_icmp .ge 6, 3) := by decide +kernel
theorem dX11_rankOf_44 : decode cX11_rankOf 44 = .ok (.iinc 3 1, 3) := by decide +kernel
theorem dX11_rankOf_47 : decode cX11_rankOf 47 = .ok (.iinc 4 1, 3) := by decide +kernel
theorem dX11_rankOf_50 : decode cX11_rankOf 50 = .ok (.goto (-31), 3) := by decide +kernel
theorem dX11_rankOf_53 : decode cX11_rankOf 53 = .ok (.iload_n 1, 1) := by decide +kernel
theorem dX11_rankOf_54 : decode cX11_rankOf 54 = .ok (.iload_n 3, 1) := by decide +kernel
theorem dX11_rankOf_55 : decode cX11_rankOf 55 = .ok (.aload_n 0, 1) := by decide +kernel
theorem dX11_rankOf_56 : decode cX11_rankOf 56 = .ok (.getfield 212, 3) := by decide +kernel
theorem dX11_rankOf_59 : decode cX11_rankOf 59 = .ok (.iload_n 2, 1) := by decide +kernel
theorem dX11_rankOf_60 : decode cX11_rankOf 60 = .ok (.isub, 1) := by decide +kernel
theorem dX11_rankOf_61 : decode cX11_rankOf 61 = .ok (.iconst 1, 1) := by decide +kernel
theorem dX11_rankOf_62 : decode cX11_rankOf 62 = .ok (.isub, 1) := by decide +kernel
theorem dX11_rankOf_63 : decode cX11_rankOf 63 = .ok (.invokestatic 310, 3) := by decide +kernel
theorem dX11_rankOf_66 : decode cX11_rankOf 66 = .ok (.imul, 1) := by decide +kernel
theorem dX11_rankOf_67 : decode cX11_rankOf 67 = .ok (.iadd, 1) := by decide +kernel
theorem dX11_rankOf_68 : decode cX11_rankOf 68 = .ok (.istore_n 1, 1) := by decide +kernel
theorem dX11_rankOf_69 : decode cX11_rankOf 69 = .ok (.iinc 2 1, 3) := by decide +kernel
theorem dX11_rankOf_72 : decode cX11_rankOf 72 = .ok (.goto (-68), 3) := by decide +kernel
theorem dX11_rankOf_75 : decode cX11_rankOf 75 = .ok (.iload_n 1, 1) := by decide +kernel
theorem dX11_rankOf_76 : decode cX11_rankOf 76 = .ok (.ireturn, 1) := by decide +kernel
theorem dX11_layRank_0 : decode cX11_layRank 0 = .ok (.iconst 0, 1) := by decide +kernel
theorem dX11_layRank_1 : decode cX11_layRank 1 = .ok (.istore_n 2, 1) := by decide +kernel
theorem dX11_layRank_2 : decode cX11_layRank 2 = .ok (.iload_n 1, 1) := by decide +kernel
theorem dX11_layRank_3 : decode cX11_layRank 3 = .ok (.istore_n 3, 1) := by decide +kernel
theorem dX11_layRank_4 : decode cX11_layRank 4 = .ok (.iconst 0, 1) := by decide +kernel
theorem dX11_layRank_5 : decode cX11_layRank 5 = .ok (.istore 4, 2) := by decide +kernel
theorem dX11_layRank_7 : decode cX11_layRank 7 = .ok (.iload 4, 2) := by decide +kernel
theorem dX11_layRank_9 : decode cX11_layRank 9 = .ok (.aload_n 0, 1) := by decide +kernel
theorem dX11_layRank_10 : decode cX11_layRank 10 = .ok (.getfield 212, 3) := by decide +kernel
theorem dX11_layRank_13 : decode cX11_layRank 13 = .ok (.if_icmp .ge 117, 3) := by decide +kernel
theorem dX11_layRank_16 : decode cX11_layRank 16 = .ok (.iload_n 3, 1) := by decide +kernel
theorem dX11_layRank_17 : decode cX11_layRank 17 = .ok (.aload_n 0, 1) := by decide +kernel
theorem dX11_layRank_18 : decode cX11_layRank 18 = .ok (.getfield 212, 3) := by decide +kernel
theorem dX11_layRank_21 : decode cX11_layRank 21 = .ok (.iload 4, 2) := by decide +kernel
theorem dX11_layRank_23 : decode cX11_layRank 23 = .ok (.isub, 1) := by decide +kernel
theorem dX11_layRank_24 : decode cX11_layRank 24 = .ok (.iconst 1, 1) := by decide +kernel
theorem dX11_layRank_25 : decode cX11_layRank 25 = .ok (.isub, 1) := by decide +kernel
theorem dX11_layRank_26 : decode cX11_layRank 26 = .ok (.invokestatic 310, 3) := by decide +kernel
theorem dX11_layRank_29 : decode cX11_layRank 29 = .ok (.idiv, 1) := by decide +kernel
theorem dX11_layRank_30 : decode cX11_layRank 30 = .ok (.istore 5, 2) := by decide +kernel
theorem dX11_layRank_32 : decode cX11_layRank 32 = .ok (.iload_n 3, 1) := by decide +kernel
theorem dX11_layRank_33 : decode cX11_layRank 33 = .ok (.aload_n 0, 1) := by decide +kernel
theorem dX11_layRank_34 : decode cX11_layRank 34 = .ok (.getfield 212, 3) := by decide +kernel
theorem dX11_layRank_37 : decode cX11_layRank 37 = .ok (.iload 4, 2) := by decide +kernel
theorem dX11_layRank_39 : decode cX11_layRank 39 = .ok (.isub, 1) := by decide +kernel
theorem dX11_layRank_40 : decode cX11_layRank 40 = .ok (.iconst 1, 1) := by decide +kernel
theorem dX11_layRank_41 : decode cX11_layRank 41 = .ok (.isub, 1) := by decide +kernel
theorem dX11_layRank_42 : decode cX11_layRank 42 = .ok (.invokestatic 310, 3) := by decide +kernel
theorem dX11_layRank_45 : decode cX11_layRank 45 = .ok (.irem, 1) := by decide +kernel
theorem dX11_layRank_46 : decode cX11_layRank 46 = .ok (.istore_n 3, 1) := by decide +kernel
theorem dX11_layRank_47 : decode cX11_layRank 47 = .ok (.iconst 0, 1) := by decide +kernel
theorem dX11_layRank_48 : decode cX11_layRank 48 = .ok (.istore 6, 2) := by decide +kernel
theorem dX11_layRank_50 : decode cX11_layRank 50 = .ok (.aload_n 0, 1) := by decide +kernel
theorem dX11_layRank_51 : decode cX11_layRank 51 = .ok (.invokevirtual 297, 3) := by decide +kernel
theorem dX11_layRank_54 : decode cX11_layRank 54 = .ok (.iload 6, 2) := by decide +kernel
theorem dX11_layRank_56 : decode cX11_layRank 56 = .ok (.ishr, 1) := by decide +kernel
theorem dX11_layRank_57 : decode cX11_layRank 57 = .ok (.iconst 1, 1) := by decide +kernel
theorem dX11_layRank_58 : decode cX11_layRank 58 = .ok (.iand, 1) := by decide +kernel
theorem dX11_layRank_59 : decode cX11_layRank 59 = .ok (.ifCond .eq 18, 3) := by decide +kernel
theorem dX11_layRank_62 : decode cX11_layRank 62 = .ok (.iload_n 2, 1) := by decide +kernel
theorem dX11_layRank_63 : decode cX11_layRank 63 = .ok (.iload 6, 2) := by decide +kernel
theorem dX11_layRank_65 : decode cX11_layRank 65 = .ok (.ishr, 1) := by decide +kernel
theorem dX11_layRank_66 : decode cX11_layRank 66 = .ok (.iconst 1, 1) := by decide +kernel
theorem dX11_layRank_67 : decode cX11_layRank 67 = .ok (.iand, 1) := by decide +kernel
theorem dX11_layRank_68 : decode cX11_layRank 68 = .ok (.iconst 1, 1) := by decide +kernel
theorem dX11_layRank_69 : decode cX11_layRank 69 = .ok (.if_icmp .eq 8, 3) := by decide +kernel
theorem dX11_layRank_72 : decode cX11_layRank 72 = .ok (.iload 5, 2) := by decide +kernel
theorem dX11_layRank_74 : decode cX11_layRank 74 = .ok (.ifCond .le 34, 3) := by decide +kernel
theorem dX11_layRank_77 : decode cX11_layRank 77 = .ok (.aload_n 0, 1) := by decide +kernel
theorem dX11_layRank_78 : decode cX11_layRank 78 = .ok (.invokevirtual 297, 3) := by decide +kernel
theorem dX11_layRank_81 : decode cX11_layRank 81 = .ok (.iload 6, 2) := by decide +kernel
theorem dX11_layRank_83 : decode cX11_layRank 83 = .ok (.ishr, 1) := by decide +kernel
theorem dX11_layRank_84 : decode cX11_layRank 84 = .ok (.iconst 1, 1) := by decide +kernel
theorem dX11_layRank_85 : decode cX11_layRank 85 = .ok (.iand, 1) := by decide +kernel
theorem dX11_layRank_86 : decode cX11_layRank 86 = .ok (.iconst 1, 1) := by decide +kernel
theorem dX11_layRank_87 : decode cX11_layRank 87 = .ok (.if_icmp .ne 15, 3) := by decide +kernel
theorem dX11_layRank_90 : decode cX11_layRank 90 = .ok (.iload_n 2, 1) := by decide +kernel
theorem dX11_layRank_91 : decode cX11_layRank 91 = .ok (.iload 6, 2) := by decide +kernel
theorem dX11_layRank_93 : decode cX11_layRank 93 = .ok (.ishr, 1) := by decide +kernel
theorem dX11_layRank_94 : decode cX11_layRank 94 = .ok (.iconst 1, 1) := by decide +kernel
theorem dX11_layRank_95 : decode cX11_layRank 95 = .ok (.iand, 1) := by decide +kernel
theorem dX11_layRank_96 : decode cX11_layRank 96 = .ok (.ifCond .ne 6, 3) := by decide +kernel
theorem dX11_layRank_99 : decode cX11_layRank 99 = .ok (.iinc 5 (-1), 3) := by decide +kernel
theorem dX11_layRank_102 : decode cX11_layRank 102 = .ok (.iinc 6 1, 3) := by decide +kernel
theorem dX11_layRank_105 : decode cX11_layRank 105 = .ok (.goto (-55), 3) := by decide +kernel
theorem dX11_layRank_108 : decode cX11_layRank 108 = .ok (.aload_n 0, 1) := by decide +kernel
theorem dX11_layRank_109 : decode cX11_layRank 109 = .ok (.getfield 54, 3) := by decide +kernel
theorem dX11_layRank_112 : decode cX11_layRank 112 = .ok (.iload 4, 2) := by decide +kernel
theorem dX11_layRank_114 : decode cX11_layRank 114 = .ok (.iload 6, 2) := by decide +kernel
theorem dX11_layRank_116 : decode cX11_layRank 116 = .ok (.iastore, 1) := by decide +kernel
theorem dX11_layRank_117 : decode cX11_layRank 117 = .ok (.iload_n 2, 1) := by decide +kernel
theorem dX11_layRank_118 : decode cX11_layRank 118 = .ok (.iconst 1, 1) := by decide +kernel
theorem dX11_layRank_119 : decode cX11_layRank 119 = .ok (.iload 6, 2) := by decide +kernel
theorem dX11_layRank_121 : decode cX11_layRank 121 = .ok (.ishl, 1) := by decide +kernel
theorem dX11_layRank_122 : decode cX11_layRank 122 = .ok (.ior, 1) := by decide +kernel
theorem dX11_layRank_123 : decode cX11_layRank 123 = .ok (.istore_n 2, 1) := by decide +kernel
theorem dX11_layRank_124 : decode cX11_layRank 124 = .ok (.iinc 4 1, 3) := by decide +kernel
theorem dX11_layRank_127 : decode cX11_layRank 127 = .ok (.goto (-120), 3) := by decide +kernel
theorem dX11_layRank_130 : decode cX11_layRank 130 = .ok (.return_, 1) := by decide +kernel
theorem dX11_goTurns_0 : decode cX11_goTurns 0 = .ok (.iconst 0, 1) := by decide +kernel
theorem dX11_goTurns_1 : decode cX11_goTurns 1 = .ok (.istore_n 2, 1) := by decide +kernel
theorem dX11_goTurns_2 : decode cX11_goTurns 2 = .ok (.iload_n 2, 1) := by decide +kernel
theorem dX11_goTurns_3 : decode cX11_goTurns 3 = .ok (.sipush 720, 3) := by decide +kernel
theorem dX11_goTurns_6 : decode cX11_goTurns 6 = .ok (.if_icmp .ge 16, 3) := by decide +kernel
theorem dX11_goTurns_9 : decode cX11_goTurns 9 = .ok (.aload_n 0, 1) := by decide +kernel
theorem dX11_goTurns_10 : decode cX11_goTurns 10 = .ok (.getfield 66, 3) := by decide +kernel
theorem dX11_goTurns_13 : decode cX11_goTurns 13 = .ok (.iload_n 2, 1) := by decide +kernel
theorem dX11_goTurns_14 : decode cX11_goTurns 14 = .ok (.iconst (-1), 1) := by decide +kernel
theorem dX11_goTurns_15 : decode cX11_goTurns 15 = .ok (.sastore, 1) := by decide +kernel
theorem dX11_goTurns_16 : decode cX11_goTurns 16 = .ok (.iinc 2 1, 3) := by decide +kernel
theorem dX11_goTurns_19 : decode cX11_goTurns 19 = .ok (.goto (-17), 3) := by decide +kernel
theorem dX11_goTurns_22 : decode cX11_goTurns 22 = .ok (.aload_n 0, 1) := by decide +kernel
theorem dX11_goTurns_23 : decode cX11_goTurns 23 = .ok (.invokevirtual 227, 3) := by decide +kernel
theorem dX11_goTurns_26 : decode cX11_goTurns 26 = .ok (.aload_n 0, 1) := by decide +kernel
theorem dX11_goTurns_27 : decode cX11_goTurns 27 = .ok (.invokevirtual 313, 3) := by decide +kernel
theorem dX11_goTurns_30 : decode cX11_goTurns 30 = .ok (.istore_n 2, 1) := by decide +kernel
theorem dX11_goTurns_31 : decode cX11_goTurns 31 = .ok (.aload_n 0, 1) := by decide +kernel
theorem dX11_goTurns_32 : decode cX11_goTurns 32 = .ok (.getfield 66, 3) := by decide +kernel
theorem dX11_goTurns_35 : decode cX11_goTurns 35 = .ok (.iload_n 2, 1) := by decide +kernel
theorem dX11_goTurns_36 : decode cX11_goTurns 36 = .ok (.iconst 0, 1) := by decide +kernel
theorem dX11_goTurns_37 : decode cX11_goTurns 37 = .ok (.sastore, 1) := by decide +kernel
theorem dX11_goTurns_38 : decode cX11_goTurns 38 = .ok (.aload_n 0, 1) := by decide +kernel
theorem dX11_goTurns_39 : decode cX11_goTurns 39 = .ok (.getfield 69, 3) := by decide +kernel
theorem dX11_goTurns_42 : decode cX11_goTurns 42 = .ok (.iconst 0, 1) := by decide +kernel
theorem dX11_goTurns_43 : decode cX11_goTurns 43 = .ok (.iload_n 2, 1) := by decide +kernel
theorem dX11_goTurns_44 : decode cX11_goTurns 44 = .ok (.i2s, 1) := by decide +kernel
theorem dX11_goTurns_45 : decode cX11_goTurns 45 = .ok (.sastore, 1) := by decide +kernel
theorem dX11_goTurns_46 : decode cX11_goTurns 46 = .ok (.iconst 1, 1) := by decide +kernel
theorem dX11_goTurns_47 : decode cX11_goTurns 47 = .ok (.istore_n 3, 1) := by decide +kernel
theorem dX11_goTurns_48 : decode cX11_goTurns 48 = .ok (.iconst 0, 1) := by decide +kernel
theorem dX11_goTurns_49 : decode cX11_goTurns 49 = .ok (.istore 4, 2) := by decide +kernel
theorem dX11_goTurns_51 : decode cX11_goTurns 51 = .ok (.iload 4, 2) := by decide +kernel
theorem dX11_goTurns_53 : decode cX11_goTurns 53 = .ok (.iload_n 3, 1) := by decide +kernel
theorem dX11_goTurns_54 : decode cX11_goTurns 54 = .ok (.if_icmp .ge 140, 3) := by decide +kernel
theorem dX11_goTurns_57 : decode cX11_goTurns 57 = .ok (.aload_n 0, 1) := by decide +kernel
theorem dX11_goTurns_58 : decode cX11_goTurns 58 = .ok (.getfield 69, 3) := by decide +kernel
theorem dX11_goTurns_61 : decode cX11_goTurns 61 = .ok (.iload 4, 2) := by decide +kernel
theorem dX11_goTurns_63 : decode cX11_goTurns 63 = .ok (.saload, 1) := by decide +kernel
theorem dX11_goTurns_64 : decode cX11_goTurns 64 = .ok (.istore 5, 2) := by decide +kernel
theorem dX11_goTurns_66 : decode cX11_goTurns 66 = .ok (.iload 5, 2) := by decide +kernel
theorem dX11_goTurns_68 : decode cX11_goTurns 68 = .ok (.iload_n 1, 1) := by decide +kernel
theorem dX11_goTurns_69 : decode cX11_goTurns 69 = .ok (.if_icmp .ne 11, 3) := by decide +kernel
theorem dX11_goTurns_72 : decode cX11_goTurns 72 = .ok (.aload_n 0, 1) := by decide +kernel
theorem dX11_goTurns_73 : decode cX11_goTurns 73 = .ok (.getfield 66, 3) := by decide +kernel
theorem dX11_goTurns_76 : decode cX11_goTurns 76 = .ok (.iload 5, 2) := by decide +kernel
theorem dX11_goTurns_78 : decode cX11_goTurns 78 = .ok (.saload, 1) := by decide +kernel
theorem dX11_goTurns_79 : decode cX11_goTurns 79 = .ok (.ireturn, 1) := by decide +kernel
theorem dX11_goTurns_80 : decode cX11_goTurns 80 = .ok (.iconst 0, 1) := by decide +kernel
theorem dX11_goTurns_81 : decode cX11_goTurns 81 = .ok (.istore 6, 2) := by decide +kernel
theorem dX11_goTurns_83 : decode cX11_goTurns 83 = .ok (.iload 6, 2) := by decide +kernel
theorem dX11_goTurns_85 : decode cX11_goTurns 85 = .ok (.aload_n 0, 1) := by decide +kernel
theorem dX11_goTurns_86 : decode cX11_goTurns 86 = .ok (.getfield 108, 3) := by decide +kernel
theorem dX11_goTurns_89 : decode cX11_goTurns 89 = .ok (.if_icmp .ge 99, 3) := by decide +kernel
theorem dX11_goTurns_92 : decode cX11_goTurns 92 = .ok (.iload 6, 2) := by decide +kernel
theorem dX11_goTurns_94 : decode cX11_goTurns 94 = .ok (.iconst 1, 1) := by decide +kernel
theorem dX11_goTurns_95 : decode cX11_goTurns 95 = .ok (.iadd, 1) := by decide +kernel
theorem dX11_goTurns_96 : decode cX11_goTurns 96 = .ok (.istore 7, 2) := by decide +kernel
theorem dX11_goTurns_98 : decode cX11_goTurns 98 = .ok (.iload 7, 2) := by decide +kernel
theorem dX11_goTurns_100 : decode cX11_goTurns 100 = .ok (.aload_n 0, 1) := by decide +kernel
theorem dX11_goTurns_101 : decode cX11_goTurns 101 = .ok (.getfield 108, 3) := by decide +kernel
theorem dX11_goTurns_104 : decode cX11_goTurns 104 = .ok (.if_icmp .ge 78, 3) := by decide +kernel
theorem dX11_goTurns_107 : decode cX11_goTurns 107 = .ok (.aload_n 0, 1) := by decide +kernel
theorem dX11_goTurns_108 : decode cX11_goTurns 108 = .ok (.iload 5, 2) := by decide +kernel
theorem dX11_goTurns_110 : decode cX11_goTurns 110 = .ok (.invokevirtual 316, 3) := by decide +kernel
theorem dX11_goTurns_113 : decode cX11_goTurns 113 = .ok (.aload_n 0, 1) := by decide +kernel
theorem dX11_goTurns_114 : decode cX11_goTurns 114 = .ok (.iload 6, 2) := by decide +kernel
theorem dX11_goTurns_116 : decode cX11_goTurns 116 = .ok (.iload 7, 2) := by decide +kernel
theorem dX11_goTurns_118 : decode cX11_goTurns 118 = .ok (.invokevirtual 251, 3) := by decide +kernel
theorem dX11_goTurns_121 : decode cX11_goTurns 121 = .ok (.aload_n 0, 1) := by decide +kernel
theorem dX11_goTurns_122 : decode cX11_goTurns 122 = .ok (.invokevirtual 313, 3) := by decide +kernel
theorem dX11_goTurns_125 : decode cX11_goTurns 125 = .ok (.istore 8, 2) := by decide +kernel
theorem dX11_goTurns_127 : decode cX11_goTurns 127 = .ok (.aload_n 0, 1) := by decide +kernel
theorem dX11_goTurns_128 : decode cX11_goTurns 128 = .ok (.getfield 66, 3) := by decide +kernel
theorem dX11_goTurns_131 : decode cX11_goTurns 131 = .ok (.iload 8, 2) := by decide +kernel
theorem dX11_goTurns_133 : decode cX11_goTurns 133 = .ok (.saload, 1) := by decide +kernel
theorem dX11_goTurns_134 : decode cX11_goTurns 134 = .ok (.ifCond .ge 42, 3) := by decide +kernel
theorem dX11_goTurns_137 : decode cX11_goTurns 137 = .ok (.aload_n 0, 1) := by decide +kernel
theorem dX11_goTurns_138 : decode cX11_goTurns 138 = .ok (.invokevirtual 230, 3) := by decide +kernel
theorem dX11_goTurns_141 : decode cX11_goTurns 141 = .ok (.ifCond .ne 6, 3) := by decide +kernel
theorem dX11_goTurns_144 : decode cX11_goTurns 144 = .ok (.goto 32, 3) := by decide +kernel
theorem dX11_goTurns_147 : decode cX11_goTurns 147 = .ok (.aload_n 0, 1) := by decide +kernel
theorem dX11_goTurns_148 : decode cX11_goTurns 148 = .ok (.getfield 66, 3) := by decide +kernel
theorem dX11_goTurns_151 : decode cX11_goTurns 151 = .ok (.iload 8, 2) := by decide +kernel
theorem dX11_goTurns_153 : decode cX11_goTurns 153 = .ok (.aload_n 0, 1) := by decide +kernel
theorem dX11_goTurns_154 : decode cX11_goTurns 154 = .ok (.getfield 66, 3) := by decide +kernel
theorem dX11_goTurns_157 : decode cX11_goTurns 157 = .ok (.iload 5, 2) := by decide +kernel
theorem dX11_goTurns_159 : decode cX11_goTurns 159 = .ok (.saload, 1) := by decide +kernel
theorem dX11_goTurns_160 : decode cX11_goTurns 160 = .ok (.iconst 1, 1) := by decide +kernel
theorem dX11_goTurns_161 : decode cX11_goTurns 161 = .ok (.iadd, 1) := by decide +kernel
theorem dX11_goTurns_162 : decode cX11_goTurns 162 = .ok (.i2s, 1) := by decide +kernel
theorem dX11_goTurns_163 : decode cX11_goTurns 163 = .ok (.sastore, 1) := by decide +kernel
theorem dX11_goTurns_164 : decode cX11_goTurns 164 = .ok (.aload_n 0, 1) := by decide +kernel
theorem dX11_goTurns_165 : decode cX11_goTurns 165 = .ok (.getfield 69, 3) := by decide +kernel
theorem dX11_goTurns_168 : decode cX11_goTurns 168 = .ok (.iload_n 3, 1) := by decide +kernel
theorem dX11_goTurns_169 : decode cX11_goTurns 169 = .ok (.iload 8, 2) := by decide +kernel
theorem dX11_goTurns_171 : decode cX11_goTurns 171 = .ok (.i2s, 1) := by decide +kernel
theorem dX11_goTurns_172 : decode cX11_goTurns 172 = .ok (.sastore, 1) := by decide +kernel
theorem dX11_goTurns_173 : decode cX11_goTurns 173 = .ok (.iinc 3 1, 3) := by decide +kernel
theorem dX11_goTurns_176 : decode cX11_goTurns 176 = .ok (.iinc 7 1, 3) := by decide +kernel
theorem dX11_goTurns_179 : decode cX11_goTurns 179 = .ok (.goto (-81), 3) := by decide +kernel
theorem dX11_goTurns_182 : decode cX11_goTurns 182 = .ok (.iinc 6 1, 3) := by decide +kernel
theorem dX11_goTurns_185 : decode cX11_goTurns 185 = .ok (.goto (-102), 3) := by decide +kernel
theorem dX11_goTurns_188 : decode cX11_goTurns 188 = .ok (.iinc 4 1, 3) := by decide +kernel
theorem dX11_goTurns_191 : decode cX11_goTurns 191 = .ok (.goto (-140), 3) := by decide +kernel
theorem dX11_goTurns_194 : decode cX11_goTurns 194 = .ok (.bipush (-2), 2) := by decide +kernel
theorem dX11_goTurns_196 : decode cX11_goTurns 196 = .ok (.ireturn, 1) := by decide +kernel
theorem dX11_rowFault_0 : decode cX11_rowFault 0 = .ok (.aload_n 0, 1) := by decide +kernel
theorem dX11_rowFault_1 : decode cX11_rowFault 1 = .ok (.getfield 84, 3) := by decide +kernel
theorem dX11_rowFault_4 : decode cX11_rowFault 4 = .ok (.iload_n 1, 1) := by decide +kernel
theorem dX11_rowFault_5 : decode cX11_rowFault 5 = .ok (.iaload, 1) := by decide +kernel
theorem dX11_rowFault_6 : decode cX11_rowFault 6 = .ok (.iconst (-1), 1) := by decide +kernel
theorem dX11_rowFault_7 : decode cX11_rowFault 7 = .ok (.if_icmp .ne 8, 3) := by decide +kernel
theorem dX11_rowFault_10 : decode cX11_rowFault 10 = .ok (.bipush (-11), 2) := by decide +kernel
theorem dX11_rowFault_12 : decode cX11_rowFault 12 = .ok (.goto 20, 3) := by decide +kernel
theorem dX11_rowFault_15 : decode cX11_rowFault 15 = .ok (.aload_n 0, 1) := by decide +kernel
theorem dX11_rowFault_16 : decode cX11_rowFault 16 = .ok (.getfield 84, 3) := by decide +kernel
theorem dX11_rowFault_19 : decode cX11_rowFault 19 = .ok (.iload_n 1, 1) := by decide +kernel
theorem dX11_rowFault_20 : decode cX11_rowFault 20 = .ok (.iaload, 1) := by decide +kernel
theorem dX11_rowFault_21 : decode cX11_rowFault 21 = .ok (.bipush (-2), 2) := by decide +kernel
theorem dX11_rowFault_23 : decode cX11_rowFault 23 = .ok (.if_icmp .ne 7, 3) := by decide +kernel
theorem dX11_rowFault_26 : decode cX11_rowFault 26 = .ok (.iconst 0, 1) := by decide +kernel
theorem dX11_rowFault_27 : decode cX11_rowFault 27 = .ok (.goto 5, 3) := by decide +kernel
theorem dX11_rowFault_30 : decode cX11_rowFault 30 = .ok (.bipush (-12), 2) := by decide +kernel
theorem dX11_rowFault_32 : decode cX11_rowFault 32 = .ok (.ireturn, 1) := by decide +kernel
theorem dX11_fewest_0 : decode cX11_fewest 0 = .ok (.iload_n 1, 1) := by decide +kernel
theorem dX11_fewest_1 : decode cX11_fewest 1 = .ok (.invokestatic 115, 3) := by decide +kernel
theorem dX11_fewest_4 : decode cX11_fewest 4 = .ok (.ifCond .ne 5, 3) := by decide +kernel
theorem dX11_fewest_7 : decode cX11_fewest 7 = .ok (.iconst (-1), 1) := by decide +kernel
theorem dX11_fewest_8 : decode cX11_fewest 8 = .ok (.ireturn, 1) := by decide +kernel
theorem dX11_fewest_9 : decode cX11_fewest 9 = .ok (.aload_n 0, 1) := by decide +kernel
theorem dX11_fewest_10 : decode cX11_fewest 10 = .ok (.iload_n 1, 1) := by decide +kernel
theorem dX11_fewest_11 : decode cX11_fewest 11 = .ok (.invokevirtual 319, 3) := by decide +kernel
theorem dX11_fewest_14 : decode cX11_fewest 14 = .ok (.ifCond .ge 9, 3) := by decide +kernel
theorem dX11_fewest_17 : decode cX11_fewest 17 = .ok (.aload_n 0, 1) := by decide +kernel
theorem dX11_fewest_18 : decode cX11_fewest 18 = .ok (.iload_n 1, 1) := by decide +kernel
theorem dX11_fewest_19 : decode cX11_fewest 19 = .ok (.invokevirtual 319, 3) := by decide +kernel
theorem dX11_fewest_22 : decode cX11_fewest 22 = .ok (.ireturn, 1) := by decide +kernel
theorem dX11_fewest_23 : decode cX11_fewest 23 = .ok (.aload_n 0, 1) := by decide +kernel
theorem dX11_fewest_24 : decode cX11_fewest 24 = .ok (.getfield 108, 3) := by decide +kernel
theorem dX11_fewest_27 : decode cX11_fewest 27 = .ok (.bipush 6, 2) := by decide +kernel
theorem dX11_fewest_29 : decode cX11_fewest 29 = .ok (.if_icmp .gt 16, 3) := by decide +kernel
theorem dX11_fewest_32 : decode cX11_fewest 32 = .ok (.aload_n 0, 1) := by decide +kernel
theorem dX11_fewest_33 : decode cX11_fewest 33 = .ok (.getfield 87, 3) := by decide +kernel
theorem dX11_fewest_36 : decode cX11_fewest 36 = .ok (.iload_n 1, 1) := by decide +kernel
theorem dX11_fewest_37 : decode cX11_fewest 37 = .ok (.iaload, 1) := by decide +kernel
theorem dX11_fewest_38 : decode cX11_fewest 38 = .ok (.aload_n 0, 1) := by decide +kernel
theorem dX11_fewest_39 : decode cX11_fewest 39 = .ok (.getfield 108, 3) := by decide +kernel
theorem dX11_fewest_42 : decode cX11_fewest 42 = .ok (.if_icmp .eq 6, 3) := by decide +kernel
theorem dX11_fewest_45 : decode cX11_fewest 45 = .ok (.bipush (-5), 2) := by decide +kernel
theorem dX11_fewest_47 : decode cX11_fewest 47 = .ok (.ireturn, 1) := by decide +kernel
theorem dX11_fewest_48 : decode cX11_fewest 48 = .ok (.iconst 0, 1) := by decide +kernel
theorem dX11_fewest_49 : decode cX11_fewest 49 = .ok (.istore_n 2, 1) := by decide +kernel
theorem dX11_fewest_50 : decode cX11_fewest 50 = .ok (.iconst 0, 1) := by decide +kernel
theorem dX11_fewest_51 : decode cX11_fewest 51 = .ok (.istore_n 3, 1) := by decide +kernel
theorem dX11_fewest_52 : decode cX11_fewest 52 = .ok (.iload_n 3, 1) := by decide +kernel
theorem dX11_fewest_53 : decode cX11_fewest 53 = .ok (.aload_n 0, 1) := by decide +kernel
theorem dX11_fewest_54 : decode cX11_fewest 54 = .ok (.getfield 108, 3) := by decide +kernel
theorem dX11_fewest_57 : decode cX11_fewest 57 = .ok (.if_icmp .ge 69, 3) := by decide +kernel
theorem dX11_fewest_60 : decode cX11_fewest 60 = .ok (.aload_n 0, 1) := by decide +kernel
theorem dX11_fewest_61 : decode cX11_fewest 61 = .ok (.getfield 90, 3) := by decide +kernel
theorem dX11_fewest_64 : decode cX11_fewest 64 = .ok (.bipush 60, 2) := by decide +kernel
theorem dX11_fewest_66 : decode cX11_fewest 66 = .ok (.iload_n 1, 1) := by decide +kernel
theorem dX11_fewest_67 : decode cX11_fewest 67 = .ok (.imul, 1) := by decide +kernel
theorem dX11_fewest_68 : decode cX11_fewest 68 = .ok (.iload_n 3, 1) := by decide +kernel
theorem dX11_fewest_69 : decode cX11_fewest 69 = .ok (.iadd, 1) := by decide +kernel
theorem dX11_fewest_70 : decode cX11_fewest 70 = .ok (.laload, 1) := by decide +kernel
theorem dX11_fewest_71 : decode cX11_fewest 71 = .ok (.l2i, 1) := by decide +kernel
theorem dX11_fewest_72 : decode cX11_fewest 72 = .ok (.istore 4, 2) := by decide +kernel
theorem dX11_fewest_74 : decode cX11_fewest 74 = .ok (.aload_n 0, 1) := by decide +kernel
theorem dX11_fewest_75 : decode cX11_fewest 75 = .ok (.iload 4, 2) := by decide +kernel
theorem dX11_fewest_77 : decode cX11_fewest 77 = .ok (.invokevirtual 136, 3) := by decide +kernel
theorem dX11_fewest_80 : decode cX11_fewest 80 = .ok (.ifCond .eq 22, 3) := by decide +kernel
theorem dX11_fewest_83 : decode cX11_fewest 83 = .ok (.aload_n 0, 1) := by decide +kernel
theorem dX11_fewest_84 : decode cX11_fewest 84 = .ok (.iload 4, 2) := by decide +kernel
theorem dX11_fewest_86 : decode cX11_fewest 86 = .ok (.invokevirtual 233, 3) := by decide +kernel
theorem dX11_fewest_89 : decode cX11_fewest 89 = .ok (.ifCond .lt 13, 3) := by decide +kernel
theorem dX11_fewest_92 : decode cX11_fewest 92 = .ok (.iload_n 2, 1) := by decide +kernel
theorem dX11_fewest_93 : decode cX11_fewest 93 = .ok (.iload 4, 2) := by decide +kernel
theorem dX11_fewest_95 : decode cX11_fewest 95 = .ok (.ishr, 1) := by decide +kernel
theorem dX11_fewest_96 : decode cX11_fewest 96 = .ok (.iconst 1, 1) := by decide +kernel
theorem dX11_fewest_97 : decode cX11_fewest 97 = .ok (.iand, 1) := by decide +kernel
theorem dX11_fewest_98 : decode cX11_fewest 98 = .ok (.iconst 1, 1) := by decide +kernel
theorem dX11_fewest_99 : decode cX11_fewest 99 = .ok (.if_icmp .ne 6, 3) := by decide +kernel
theorem dX11_fewest_102 : decode cX11_fewest 102 = .ok (.bipush (-5), 2) := by decide +kernel
theorem dX11_fewest_104 : decode cX11_fewest 104 = .ok (.ireturn, 1) := by decide +kernel
theorem dX11_fewest_105 : decode cX11_fewest 105 = .ok (.iload_n 2, 1) := by decide +kernel
theorem dX11_fewest_106 : decode cX11_fewest 106 = .ok (.iconst 1, 1) := by decide +kernel
theorem dX11_fewest_107 : decode cX11_fewest 107 = .ok (.iload 4, 2) := by decide +kernel
theorem dX11_fewest_109 : decode cX11_fewest 109 = .ok (.ishl, 1) := by decide +kernel
theorem dX11_fewest_110 : decode cX11_fewest 110 = .ok (.ior, 1) := by decide +kernel
theorem dX11_fewest_111 : decode cX11_fewest 111 = .ok (.istore_n 2, 1) := by decide +kernel
theorem dX11_fewest_112 : decode cX11_fewest 112 = .ok (.aload_n 0, 1) := by decide +kernel
theorem dX11_fewest_113 : decode cX11_fewest 113 = .ok (.getfield 72, 3) := by decide +kernel
theorem dX11_fewest_116 : decode cX11_fewest 116 = .ok (.iload_n 3, 1) := by decide +kernel
theorem dX11_fewest_117 : decode cX11_fewest 117 = .ok (.iload 4, 2) := by decide +kernel
theorem dX11_fewest_119 : decode cX11_fewest 119 = .ok (.iastore, 1) := by decide +kernel
theorem dX11_fewest_120 : decode cX11_fewest 120 = .ok (.iinc 3 1, 3) := by decide +kernel
theorem dX11_fewest_123 : decode cX11_fewest 123 = .ok (.goto (-71), 3) := by decide +kernel
theorem dX11_fewest_126 : decode cX11_fewest 126 = .ok (.aload_n 0, 1) := by decide +kernel
theorem dX11_fewest_127 : decode cX11_fewest 127 = .ok (.aload_n 0, 1) := by decide +kernel
theorem dX11_fewest_128 : decode cX11_fewest 128 = .ok (.getfield 108, 3) := by decide +kernel
theorem dX11_fewest_131 : decode cX11_fewest 131 = .ok (.putfield 212, 3) := by decide +kernel
theorem dX11_fewest_134 : decode cX11_fewest 134 = .ok (.iconst 0, 1) := by decide +kernel
theorem dX11_fewest_135 : decode cX11_fewest 135 = .ok (.istore_n 3, 1) := by decide +kernel
theorem dX11_fewest_136 : decode cX11_fewest 136 = .ok (.iload_n 3, 1) := by decide +kernel
theorem dX11_fewest_137 : decode cX11_fewest 137 = .ok (.aload_n 0, 1) := by decide +kernel
theorem dX11_fewest_138 : decode cX11_fewest 138 = .ok (.getfield 108, 3) := by decide +kernel
theorem dX11_fewest_141 : decode cX11_fewest 141 = .ok (.if_icmp .ge 21, 3) := by decide +kernel
theorem dX11_fewest_144 : decode cX11_fewest 144 = .ok (.aload_n 0, 1) := by decide +kernel
theorem dX11_fewest_145 : decode cX11_fewest 145 = .ok (.getfield 54, 3) := by decide +kernel
theorem dX11_fewest_148 : decode cX11_fewest 148 = .ok (.iload_n 3, 1) := by decide +kernel
theorem dX11_fewest_149 : decode cX11_fewest 149 = .ok (.aload_n 0, 1) := by decide +kernel
theorem dX11_fewest_150 : decode cX11_fewest 150 = .ok (.getfield 72, 3) := by decide +kernel
theorem dX11_fewest_153 : decode cX11_fewest 153 = .ok (.iload_n 3, 1) := by decide +kernel
theorem dX11_fewest_154 : decode cX11_fewest 154 = .ok (.iaload, 1) := by decide +kernel
theorem dX11_fewest_155 : decode cX11_fewest 155 = .ok (.iastore, 1) := by decide +kernel
theorem dX11_fewest_156 : decode cX11_fewest 156 = .ok (.iinc 3 1, 3) := by decide +kernel
theorem dX11_fewest_159 : decode cX11_fewest 159 = .ok (.goto (-23), 3) := by decide +kernel
theorem dX11_fewest_162 : decode cX11_fewest 162 = .ok (.aload_n 0, 1) := by decide +kernel
theorem dX11_fewest_163 : decode cX11_fewest 163 = .ok (.aload_n 0, 1) := by decide +kernel
theorem dX11_fewest_164 : decode cX11_fewest 164 = .ok (.invokevirtual 313, 3) := by decide +kernel
theorem dX11_fewest_167 : decode cX11_fewest 167 = .ok (.invokevirtual 322, 3) := by decide +kernel
theorem dX11_fewest_170 : decode cX11_fewest 170 = .ok (.ireturn, 1) := by decide +kernel
theorem dX11_book_0 : decode cX11_book 0 = .ok (.iload_n 1, 1) := by decide +kernel
theorem dX11_book_1 : decode cX11_book 1 = .ok (.invokestatic 115, 3) := by decide +kernel
theorem dX11_book_4 : decode cX11_book 4 = .ok (.ifCond .eq 17, 3) := by decide +kernel
theorem dX11_book_7 : decode cX11_book 7 = .ok (.iload_n 2, 1) := by decide +kernel
theorem dX11_book_8 : decode cX11_book 8 = .ok (.iconst (-1), 1) := by decide +kernel
theorem dX11_book_9 : decode cX11_book 9 = .ok (.aload_n 0, 1) := by decide +kernel
theorem dX11_book_10 : decode cX11_book 10 = .ok (.getfield 108, 3) := by decide +kernel
theorem dX11_book_13 : decode cX11_book 13 = .ok (.iconst 1, 1) := by decide +kernel
theorem dX11_book_14 : decode cX11_book 14 = .ok (.isub, 1) := by decide +kernel
theorem dX11_book_15 : decode cX11_book 15 = .ok (.invokestatic 104, 3) := by decide +kernel
theorem dX11_book_18 : decode cX11_book 18 = .ok (.ifCond .ne 5, 3) := by decide +kernel
theorem dX11_book_21 : decode cX11_book 21 = .ok (.iconst (-1), 1) := by decide +kernel
theorem dX11_book_22 : decode cX11_book 22 = .ok (.ireturn, 1) := by decide +kernel
theorem dX11_book_23 : decode cX11_book 23 = .ok (.aload_n 0, 1) := by decide +kernel
theorem dX11_book_24 : decode cX11_book 24 = .ok (.iload_n 1, 1) := by decide +kernel
theorem dX11_book_25 : decode cX11_book 25 = .ok (.invokevirtual 319, 3) := by decide +kernel
theorem dX11_book_28 : decode cX11_book 28 = .ok (.ifCond .ge 9, 3) := by decide +kernel
theorem dX11_book_31 : decode cX11_book 31 = .ok (.aload_n 0, 1) := by decide +kernel
theorem dX11_book_32 : decode cX11_book 32 = .ok (.iload_n 1, 1) := by decide +kernel
theorem dX11_book_33 : decode cX11_book 33 = .ok (.invokevirtual 319, 3) := by decide +kernel
theorem dX11_book_36 : decode cX11_book 36 = .ok (.ireturn, 1) := by decide +kernel
theorem dX11_book_37 : decode cX11_book 37 = .ok (.aload_n 0, 1) := by decide +kernel
theorem dX11_book_38 : decode cX11_book 38 = .ok (.aload_n 0, 1) := by decide +kernel
theorem dX11_book_39 : decode cX11_book 39 = .ok (.invokevirtual 297, 3) := by decide +kernel
theorem dX11_book_42 : decode cX11_book 42 = .ok (.iload_n 1, 1) := by decide +kernel
theorem dX11_book_43 : decode cX11_book 43 = .ok (.invokevirtual 279, 3) := by decide +kernel
theorem dX11_book_46 : decode cX11_book 46 = .ok (.istore_n 3, 1) := by decide +kernel
theorem dX11_book_47 : decode cX11_book 47 = .ok (.iload_n 2, 1) := by decide +kernel
theorem dX11_book_48 : decode cX11_book 48 = .ok (.ifCond .ge 7, 3) := by decide +kernel
theorem dX11_book_51 : decode cX11_book 51 = .ok (.iload_n 3, 1) := by decide +kernel
theorem dX11_book_52 : decode cX11_book 52 = .ok (.goto 18, 3) := by decide +kernel
theorem dX11_book_55 : decode cX11_book 55 = .ok (.iload_n 3, 1) := by decide +kernel
theorem dX11_book_56 : decode cX11_book 56 = .ok (.ifCond .ne 8, 3) := by decide +kernel
theorem dX11_book_59 : decode cX11_book 59 = .ok (.bipush (-2), 2) := by decide +kernel
theorem dX11_book_61 : decode cX11_book 61 = .ok (.goto 9, 3) := by decide +kernel
theorem dX11_book_64 : decode cX11_book 64 = .ok (.aload_n 0, 1) := by decide +kernel
theorem dX11_book_65 : decode cX11_book 65 = .ok (.getfield 57, 3) := by decide +kernel
theorem dX11_book_68 : decode cX11_book 68 = .ok (.iload_n 2, 1) := by decide +kernel
theorem dX11_book_69 : decode cX11_book 69 = .ok (.iaload, 1) := by decide +kernel
theorem dX11_book_70 : decode cX11_book 70 = .ok (.ireturn, 1) := by decide +kernel
theorem dX11_mixed_0 : decode cX11_mixed 0 = .ok (.iload_n 2, 1) := by decide +kernel
theorem dX11_mixed_1 : decode cX11_mixed 1 = .ok (.iconst 1, 1) := by decide +kernel
theorem dX11_mixed_2 : decode cX11_mixed 2 = .ok (.bipush 50, 2) := by decide +kernel
theorem dX11_mixed_4 : decode cX11_mixed 4 = .ok (.invokestatic 104, 3) := by decide +kernel
theorem dX11_mixed_7 : decode cX11_mixed 7 = .ok (.ifCond .eq 24, 3) := by decide +kernel
theorem dX11_mixed_10 : decode cX11_mixed 10 = .ok (.iload_n 3, 1) := by decide +kernel
theorem dX11_mixed_11 : decode cX11_mixed 11 = .ok (.iconst (-1), 1) := by decide +kernel
theorem dX11_mixed_12 : decode cX11_mixed 12 = .ok (.if_icmp .eq 21, 3) := by decide +kernel
theorem dX11_mixed_15 : decode cX11_mixed 15 = .ok (.aload_n 0, 1) := by decide +kernel
theorem dX11_mixed_16 : decode cX11_mixed 16 = .ok (.iload_n 3, 1) := by decide +kernel
theorem dX11_mixed_17 : decode cX11_mixed 17 = .ok (.invokevirtual 136, 3) := by decide +kernel
theorem dX11_mixed_20 : decode cX11_mixed 20 = .ok (.ifCond .eq 11, 3) := by decide +kernel
theorem dX11_mixed_23 : decode cX11_mixed 23 = .ok (.aload_n 0, 1) := by decide +kernel
theorem dX11_mixed_24 : decode cX11_mixed 24 = .ok (.iload_n 3, 1) := by decide +kernel
theorem dX11_mixed_25 : decode cX11_mixed 25 = .ok (.invokevirtual 233, 3) := by decide +kernel
theorem dX11_mixed_28 : decode cX11_mixed 28 = .ok (.ifCond .ge 5, 3) := by decide +kernel
theorem dX11_mixed_31 : decode cX11_mixed 31 = .ok (.iconst (-1), 1) := by decide +kernel
theorem dX11_mixed_32 : decode cX11_mixed 32 = .ok (.ireturn, 1) := by decide +kernel
theorem dX11_mixed_33 : decode cX11_mixed 33 = .ok (.iload_n 1, 1) := by decide +kernel
theorem dX11_mixed_34 : decode cX11_mixed 34 = .ok (.istore 4, 2) := by decide +kernel
theorem dX11_mixed_36 : decode cX11_mixed 36 = .ok (.iconst 0, 1) := by decide +kernel
theorem dX11_mixed_37 : decode cX11_mixed 37 = .ok (.istore 5, 2) := by decide +kernel
theorem dX11_mixed_39 : decode cX11_mixed 39 = .ok (.iconst 0, 1) := by decide +kernel
theorem dX11_mixed_40 : decode cX11_mixed 40 = .ok (.istore 6, 2) := by decide +kernel
theorem dX11_mixed_42 : decode cX11_mixed 42 = .ok (.iload 6, 2) := by decide +kernel
theorem dX11_mixed_44 : decode cX11_mixed 44 = .ok (.iload_n 2, 1) := by decide +kernel
theorem dX11_mixed_45 : decode cX11_mixed 45 = .ok (.if_icmp .ge 128, 3) := by decide +kernel
theorem dX11_mixed_48 : decode cX11_mixed 48 = .ok (.aload_n 0, 1) := by decide +kernel
theorem dX11_mixed_49 : decode cX11_mixed 49 = .ok (.invokevirtual 227, 3) := by decide +kernel
theorem dX11_mixed_52 : decode cX11_mixed 52 = .ok (.aload_n 0, 1) := by decide +kernel
theorem dX11_mixed_53 : decode cX11_mixed 53 = .ok (.getfield 108, 3) := by decide +kernel
theorem dX11_mixed_56 : decode cX11_mixed 56 = .ok (.iconst 1, 1) := by decide +kernel
theorem dX11_mixed_57 : decode cX11_mixed 57 = .ok (.isub, 1) := by decide +kernel
theorem dX11_mixed_58 : decode cX11_mixed 58 = .ok (.istore 7, 2) := by decide +kernel
theorem dX11_mixed_60 : decode cX11_mixed 60 = .ok (.iload 7, 2) := by decide +kernel
theorem dX11_mixed_62 : decode cX11_mixed 62 = .ok (.iconst 1, 1) := by decide +kernel
theorem dX11_mixed_63 : decode cX11_mixed 63 = .ok (.if_icmp .lt 37, 3) := by decide +kernel
theorem dX11_mixed_66 : decode cX11_mixed 66 = .ok (.iload 4, 2) := by decide +kernel
theorem dX11_mixed_68 : decode cX11_mixed 68 = .ok (.ldc_w 325, 3) := by decide +kernel
theorem dX11_mixed_71 : decode cX11_mixed 71 = .ok (.imul, 1) := by decide +kernel
theorem dX11_mixed_72 : decode cX11_mixed 72 = .ok (.sipush 12345, 3) := by decide +kernel
theorem dX11_mixed_75 : decode cX11_mixed 75 = .ok (.iadd, 1) := by decide +kernel
theorem dX11_mixed_76 : decode cX11_mixed 76 = .ok (.istore 4, 2) := by decide +kernel
theorem dX11_mixed_78 : decode cX11_mixed 78 = .ok (.aload_n 0, 1) := by decide +kernel
theorem dX11_mixed_79 : decode cX11_mixed 79 = .ok (.iload 7, 2) := by decide +kernel
theorem dX11_mixed_81 : decode cX11_mixed 81 = .ok (.iload 4, 2) := by decide +kernel
theorem dX11_mixed_83 : decode cX11_mixed 83 = .ok (.bipush 8, 2) := by decide +kernel
theorem dX11_mixed_85 : decode cX11_mixed 85 = .ok (.iushr, 1) := by decide +kernel
theorem dX11_mixed_86 : decode cX11_mixed 86 = .ok (.iload 7, 2) := by decide +kernel
theorem dX11_mixed_88 : decode cX11_mixed 88 = .ok (.iconst 1, 1) := by decide +kernel
theorem dX11_mixed_89 : decode cX11_mixed 89 = .ok (.iadd, 1) := by decide +kernel
theorem dX11_mixed_90 : decode cX11_mixed 90 = .ok (.irem, 1) := by decide +kernel
theorem dX11_mixed_91 : decode cX11_mixed 91 = .ok (.invokevirtual 224, 3) := by decide +kernel
theorem dX11_mixed_94 : decode cX11_mixed 94 = .ok (.iinc 7 (-1), 3) := by decide +kernel
theorem dX11_mixed_97 : decode cX11_mixed 97 = .ok (.goto (-37), 3) := by decide +kernel
theorem dX11_mixed_100 : decode cX11_mixed 100 = .ok (.iload_n 3, 1) := by decide +kernel
theorem dX11_mixed_101 : decode cX11_mixed 101 = .ok (.ifCond .ge 14, 3) := by decide +kernel
theorem dX11_mixed_104 : decode cX11_mixed 104 = .ok (.aload_n 0, 1) := by decide +kernel
theorem dX11_mixed_105 : decode cX11_mixed 105 = .ok (.invokevirtual 230, 3) := by decide +kernel
theorem dX11_mixed_108 : decode cX11_mixed 108 = .ok (.ifCond .eq 7, 3) := by decide +kernel
theorem dX11_mixed_111 : decode cX11_mixed 111 = .ok (.iconst 1, 1) := by decide +kernel
theorem dX11_mixed_112 : decode cX11_mixed 112 = .ok (.goto 4, 3) := by decide +kernel
theorem dX11_mixed_115 : decode cX11_mixed 115 = .ok (.iconst 0, 1) := by decide +kernel
theorem dX11_mixed_116 : decode cX11_mixed 116 = .ok (.istore 7, 2) := by decide +kernel
theorem dX11_mixed_118 : decode cX11_mixed 118 = .ok (.iconst 0, 1) := by decide +kernel
theorem dX11_mixed_119 : decode cX11_mixed 119 = .ok (.istore 8, 2) := by decide +kernel
theorem dX11_mixed_121 : decode cX11_mixed 121 = .ok (.iload 8, 2) := by decide +kernel
theorem dX11_mixed_123 : decode cX11_mixed 123 = .ok (.aload_n 0, 1) := by decide +kernel
theorem dX11_mixed_124 : decode cX11_mixed 124 = .ok (.getfield 108, 3) := by decide +kernel
theorem dX11_mixed_127 : decode cX11_mixed 127 = .ok (.if_icmp .ge 32, 3) := by decide +kernel
theorem dX11_mixed_130 : decode cX11_mixed 130 = .ok (.aload_n 0, 1) := by decide +kernel
theorem dX11_mixed_131 : decode cX11_mixed 131 = .ok (.getfield 54, 3) := by decide +kernel
theorem dX11_mixed_134 : decode cX11_mixed 134 = .ok (.iload 8, 2) := by decide +kernel
theorem dX11_mixed_136 : decode cX11_mixed 136 = .ok (.iaload, 1) := by decide +kernel
theorem dX11_mixed_137 : decode cX11_mixed 137 = .ok (.iload_n 3, 1) := by decide +kernel
theorem dX11_mixed_138 : decode cX11_mixed 138 = .ok (.if_icmp .ne 15, 3) := by decide +kernel
theorem dX11_mixed_141 : decode cX11_mixed 141 = .ok (.aload_n 0, 1) := by decide +kernel
theorem dX11_mixed_142 : decode cX11_mixed 142 = .ok (.iload 8, 2) := by decide +kernel
theorem dX11_mixed_144 : decode cX11_mixed 144 = .ok (.invokevirtual 221, 3) := by decide +kernel
theorem dX11_mixed_147 : decode cX11_mixed 147 = .ok (.ifCond .eq 6, 3) := by decide +kernel
theorem dX11_mixed_150 : decode cX11_mixed 150 = .ok (.iconst 1, 1) := by decide +kernel
theorem dX11_mixed_151 : decode cX11_mixed 151 = .ok (.istore 7, 2) := by decide +kernel
theorem dX11_mixed_153 : decode cX11_mixed 153 = .ok (.iinc 8 1, 3) := by decide +kernel
theorem dX11_mixed_156 : decode cX11_mixed 156 = .ok (.goto (-35), 3) := by decide +kernel
theorem dX11_mixed_159 : decode cX11_mixed 159 = .ok (.iload 7, 2) := by decide +kernel
theorem dX11_mixed_161 : decode cX11_mixed 161 = .ok (.ifCond .eq 6, 3) := by decide +kernel
theorem dX11_mixed_164 : decode cX11_mixed 164 = .ok (.iinc 5 1, 3) := by decide +kernel
theorem dX11_mixed_167 : decode cX11_mixed 167 = .ok (.iinc 6 1, 3) := by decide +kernel
theorem dX11_mixed_170 : decode cX11_mixed 170 = .ok (.goto (-128), 3) := by decide +kernel
theorem dX11_mixed_173 : decode cX11_mixed 173 = .ok (.iload 5, 2) := by decide +kernel
theorem dX11_mixed_175 : decode cX11_mixed 175 = .ok (.ireturn, 1) := by decide +kernel
theorem dX11_image_0 : decode cX11_image 0 = .ok (.aload_n 0, 1) := by decide +kernel
theorem dX11_image_1 : decode cX11_image 1 = .ok (.iconst 1, 1) := by decide +kernel
theorem dX11_image_2 : decode cX11_image 2 = .ok (.putfield 326, 3) := by decide +kernel
theorem dX11_image_5 : decode cX11_image 5 = .ok (.aload_n 0, 1) := by decide +kernel
theorem dX11_image_6 : decode cX11_image 6 = .ok (.aload_n 0, 1) := by decide +kernel
theorem dX11_image_7 : decode cX11_image 7 = .ok (.getfield 108, 3) := by decide +kernel
theorem dX11_image_10 : decode cX11_image 10 = .ok (.putfield 329, 3) := by decide +kernel
theorem dX11_image_13 : decode cX11_image 13 = .ok (.aload_n 0, 1) := by decide +kernel
theorem dX11_image_14 : decode cX11_image 14 = .ok (.aload_n 0, 1) := by decide +kernel
theorem dX11_image_15 : decode cX11_image 15 = .ok (.getfield 242, 3) := by decide +kernel
theorem dX11_image_18 : decode cX11_image 18 = .ok (.putfield 332, 3) := by decide +kernel
theorem dX11_image_21 : decode cX11_image 21 = .ok (.aload_n 0, 1) := by decide +kernel
theorem dX11_image_22 : decode cX11_image 22 = .ok (.aload_n 0, 1) := by decide +kernel
theorem dX11_image_23 : decode cX11_image 23 = .ok (.getfield 245, 3) := by decide +kernel
theorem dX11_image_26 : decode cX11_image 26 = .ok (.putfield 335, 3) := by decide +kernel
theorem dX11_image_29 : decode cX11_image 29 = .ok (.iconst 0, 1) := by decide +kernel
theorem dX11_image_30 : decode cX11_image 30 = .ok (.istore_n 1, 1) := by decide +kernel
theorem dX11_image_31 : decode cX11_image 31 = .ok (.iload_n 1, 1) := by decide +kernel
theorem dX11_image_32 : decode cX11_image 32 = .ok (.aload_n 0, 1) := by decide +kernel
theorem dX11_image_33 : decode cX11_image 33 = .ok (.getfield 108, 3) := by decide +kernel
theorem dX11_image_36 : decode cX11_image 36 = .ok (.if_icmp .ge 21, 3) := by decide +kernel
theorem dX11_image_39 : decode cX11_image 39 = .ok (.aload_n 0, 1) := by decide +kernel
theorem dX11_image_40 : decode cX11_image 40 = .ok (.getfield 75, 3) := by decide +kernel
theorem dX11_image_43 : decode cX11_image 43 = .ok (.iload_n 1, 1) := by decide +kernel
theorem dX11_image_44 : decode cX11_image 44 = .ok (.aload_n 0, 1) := by decide +kernel
theorem dX11_image_45 : decode cX11_image 45 = .ok (.getfield 13, 3) := by decide +kernel
theorem dX11_image_48 : decode cX11_image 48 = .ok (.iload_n 1, 1) := by decide +kernel
theorem dX11_image_49 : decode cX11_image 49 = .ok (.iaload, 1) := by decide +kernel
theorem dX11_image_50 : decode cX11_image 50 = .ok (.iastore, 1) := by decide +kernel
theorem dX11_image_51 : decode cX11_image 51 = .ok (.iinc 1 1, 3) := by decide +kernel
theorem dX11_image_54 : decode cX11_image 54 = .ok (.goto (-23), 3) := by decide +kernel
theorem dX11_image_57 : decode cX11_image 57 = .ok (.aload_n 0, 1) := by decide +kernel
theorem dX11_image_58 : decode cX11_image 58 = .ok (.getfield 108, 3) := by decide +kernel
theorem dX11_image_61 : decode cX11_image 61 = .ok (.ireturn, 1) := by decide +kernel
theorem dX11_back_0 : decode cX11_back 0 = .ok (.aload_n 0, 1) := by decide +kernel
theorem dX11_back_1 : decode cX11_back 1 = .ok (.getfield 326, 3) := by decide +kernel
theorem dX11_back_4 : decode cX11_back 4 = .ok (.ifCond .ne 6, 3) := by decide +kernel
theorem dX11_back_7 : decode cX11_back 7 = .ok (.bipush (-5), 2) := by decide +kernel
theorem dX11_back_9 : decode cX11_back 9 = .ok (.ireturn, 1) := by decide +kernel
theorem dX11_back_10 : decode cX11_back 10 = .ok (.aload_n 0, 1) := by decide +kernel
theorem dX11_back_11 : decode cX11_back 11 = .ok (.aload_n 0, 1) := by decide +kernel
theorem dX11_back_12 : decode cX11_back 12 = .ok (.getfield 329, 3) := by decide +kernel
theorem dX11_back_15 : decode cX11_back 15 = .ok (.putfield 108, 3) := by decide +kernel
theorem dX11_back_18 : decode cX11_back 18 = .ok (.aload_n 0, 1) := by decide +kernel
theorem dX11_back_19 : decode cX11_back 19 = .ok (.aload_n 0, 1) := by decide +kernel
theorem dX11_back_20 : decode cX11_back 20 = .ok (.getfield 332, 3) := by decide +kernel
theorem dX11_back_23 : decode cX11_back 23 = .ok (.putfield 242, 3) := by decide +kernel
theorem dX11_back_26 : decode cX11_back 26 = .ok (.aload_n 0, 1) := by decide +kernel
theorem dX11_back_27 : decode cX11_back 27 = .ok (.aload_n 0, 1) := by decide +kernel
theorem dX11_back_28 : decode cX11_back 28 = .ok (.getfield 335, 3) := by decide +kernel
theorem dX11_back_31 : decode cX11_back 31 = .ok (.putfield 245, 3) := by decide +kernel
theorem dX11_back_34 : decode cX11_back 34 = .ok (.iconst 0, 1) := by decide +kernel
theorem dX11_back_35 : decode cX11_back 35 = .ok (.istore_n 1, 1) := by decide +kernel
theorem dX11_back_36 : decode cX11_back 36 = .ok (.iload_n 1, 1) := by decide +kernel
theorem dX11_back_37 : decode cX11_back 37 = .ok (.aload_n 0, 1) := by decide +kernel
theorem dX11_back_38 : decode cX11_back 38 = .ok (.getfield 108, 3) := by decide +kernel
theorem dX11_back_41 : decode cX11_back 41 = .ok (.if_icmp .ge 21, 3) := by decide +kernel
theorem dX11_back_44 : decode cX11_back 44 = .ok (.aload_n 0, 1) := by decide +kernel
theorem dX11_back_45 : decode cX11_back 45 = .ok (.getfield 13, 3) := by decide +kernel
theorem dX11_back_48 : decode cX11_back 48 = .ok (.iload_n 1, 1) := by decide +kernel
theorem dX11_back_49 : decode cX11_back 49 = .ok (.aload_n 0, 1) := by decide +kernel
theorem dX11_back_50 : decode cX11_back 50 = .ok (.getfield 75, 3) := by decide +kernel
theorem dX11_back_53 : decode cX11_back 53 = .ok (.iload_n 1, 1) := by decide +kernel
theorem dX11_back_54 : decode cX11_back 54 = .ok (.iaload, 1) := by decide +kernel
theorem dX11_back_55 : decode cX11_back 55 = .ok (.iastore, 1) := by decide +kernel
theorem dX11_back_56 : decode cX11_back 56 = .ok (.iinc 1 1, 3) := by decide +kernel
theorem dX11_back_59 : decode cX11_back 59 = .ok (.goto (-23), 3) := by decide +kernel
theorem dX11_back_62 : decode cX11_back 62 = .ok (.aload_n 0, 1) := by decide +kernel
theorem dX11_back_63 : decode cX11_back 63 = .ok (.getfield 108, 3) := by decide +kernel
theorem dX11_back_66 : decode cX11_back 66 = .ok (.ireturn, 1) := by decide +kernel
theorem dX11_isBody_0 : decode cX11_isBody 0 = .ok (.iload_n 1, 1) := by decide +kernel
theorem dX11_isBody_1 : decode cX11_isBody 1 = .ok (.iconst 0, 1) := by decide +kernel
theorem dX11_isBody_2 : decode cX11_isBody 2 = .ok (.aload_n 0, 1) := by decide +kernel
theorem dX11_isBody_3 : decode cX11_isBody 3 = .ok (.getfield 338, 3) := by decide +kernel
theorem dX11_isBody_6 : decode cX11_isBody 6 = .ok (.iconst 1, 1) := by decide +kernel
theorem dX11_isBody_7 : decode cX11_isBody 7 = .ok (.isub, 1) := by decide +kernel
theorem dX11_isBody_8 : decode cX11_isBody 8 = .ok (.invokestatic 104, 3) := by decide +kernel
theorem dX11_isBody_11 : decode cX11_isBody 11 = .ok (.ireturn, 1) := by decide +kernel
theorem dX11_ran_0 : decode cX11_ran 0 = .ok (.aload_n 0, 1) := by decide +kernel
theorem dX11_ran_1 : decode cX11_ran 1 = .ok (.getfield 341, 3) := by decide +kernel
theorem dX11_ran_4 : decode cX11_ran 4 = .ok (.bipush 24, 2) := by decide +kernel
theorem dX11_ran_6 : decode cX11_ran 6 = .ok (.if_icmp .ge 13, 3) := by decide +kernel
theorem dX11_ran_9 : decode cX11_ran 9 = .ok (.aload_n 0, 1) := by decide +kernel
theorem dX11_ran_10 : decode cX11_ran 10 = .ok (.getfield 81, 3) := by decide +kernel
theorem dX11_ran_13 : decode cX11_ran 13 = .ok (.aload_n 0, 1) := by decide +kernel
theorem dX11_ran_14 : decode cX11_ran 14 = .ok (.getfield 341, 3) := by decide +kernel
theorem dX11_ran_17 : decode cX11_ran 17 = .ok (.iload_n 1, 1) := by decide +kernel
theorem dX11_ran_18 : decode cX11_ran 18 = .ok (.iastore, 1) := by decide +kernel
theorem dX11_ran_19 : decode cX11_ran 19 = .ok (.aload_n 0, 1) := by decide +kernel
theorem dX11_ran_20 : decode cX11_ran 20 = .ok (.dup, 1) := by decide +kernel
theorem dX11_ran_21 : decode cX11_ran 21 = .ok (.getfield 341, 3) := by decide +kernel
theorem dX11_ran_24 : decode cX11_ran 24 = .ok (.iconst 1, 1) := by decide +kernel
theorem dX11_ran_25 : decode cX11_ran 25 = .ok (.iadd, 1) := by decide +kernel
theorem dX11_ran_26 : decode cX11_ran 26 = .ok (.putfield 341, 3) := by decide +kernel
theorem dX11_ran_29 : decode cX11_ran 29 = .ok (.return_, 1) := by decide +kernel
theorem dX11_trace_0 : decode cX11_trace 0 = .ok (.iload_n 1, 1) := by decide +kernel
theorem dX11_trace_1 : decode cX11_trace 1 = .ok (.ifCond .lt 26, 3) := by decide +kernel
theorem dX11_trace_4 : decode cX11_trace 4 = .ok (.iload_n 1, 1) := by decide +kernel
theorem dX11_trace_5 : decode cX11_trace 5 = .ok (.aload_n 0, 1) := by decide +kernel
theorem dX11_trace_6 : decode cX11_trace 6 = .ok (.getfield 341, 3) := by decide +kernel
theorem dX11_trace_9 : decode cX11_trace 9 = .ok (.if_icmp .ge 18, 3) := by decide +kernel
theorem dX11_trace_12 : decode cX11_trace 12 = .ok (.iload_n 1, 1) := by decide +kernel
theorem dX11_trace_13 : decode cX11_trace 13 = .ok (.bipush 24, 2) := by decide +kernel
theorem dX11_trace_15 : decode cX11_trace 15 = .ok (.if_icmp .ge 12, 3) := by decide +kernel
theorem dX11_trace_18 : decode cX11_trace 18 = .ok (.aload_n 0, 1) := by decide +kernel
theorem dX11_trace_19 : decode cX11_trace 19 = .ok (.getfield 81, 3) := by decide +kernel
theorem dX11_trace_22 : decode cX11_trace 22 = .ok (.iload_n 1, 1) := by decide +kernel
theorem dX11_trace_23 : decode cX11_trace 23 = .ok (.iaload, 1) := by decide +kernel
theorem dX11_trace_24 : decode cX11_trace 24 = .ok (.goto 4, 3) := by decide +kernel
theorem dX11_trace_27 : decode cX11_trace 27 = .ok (.iconst (-1), 1) := by decide +kernel
theorem dX11_trace_28 : decode cX11_trace 28 = .ok (.ireturn, 1) := by decide +kernel
theorem dX11_body_0 : decode cX11_body 0 = .ok (.iload_n 1, 1) := by decide +kernel
theorem dX11_body_1 : decode cX11_body 1 = .ok (.iconst 0, 1) := by decide +kernel
theorem dX11_body_2 : decode cX11_body 2 = .ok (.bipush 7, 2) := by decide +kernel
theorem dX11_body_4 : decode cX11_body 4 = .ok (.invokestatic 104, 3) := by decide +kernel
theorem dX11_body_7 : decode cX11_body 7 = .ok (.ifCond .ne 5, 3) := by decide +kernel
theorem dX11_body_10 : decode cX11_body 10 = .ok (.iconst (-1), 1) := by decide +kernel
theorem dX11_body_11 : decode cX11_body 11 = .ok (.ireturn, 1) := by decide +kernel
theorem dX11_body_12 : decode cX11_body 12 = .ok (.aload_n 0, 1) := by decide +kernel
theorem dX11_body_13 : decode cX11_body 13 = .ok (.getfield 338, 3) := by decide +kernel
theorem dX11_body_16 : decode cX11_body 16 = .ok (.bipush 50, 2) := by decide +kernel
theorem dX11_body_18 : decode cX11_body 18 = .ok (.if_icmp .ne 6, 3) := by decide +kernel
theorem dX11_body_21 : decode cX11_body 21 = .ok (.bipush (-3), 2) := by decide +kernel
theorem dX11_body_23 : decode cX11_body 23 = .ok (.ireturn, 1) := by decide +kernel
theorem dX11_body_24 : decode cX11_body 24 = .ok (.aload_n 0, 1) := by decide +kernel
theorem dX11_body_25 : decode cX11_body 25 = .ok (.getfield 78, 3) := by decide +kernel
theorem dX11_body_28 : decode cX11_body 28 = .ok (.aload_n 0, 1) := by decide +kernel
theorem dX11_body_29 : decode cX11_body 29 = .ok (.getfield 338, 3) := by decide +kernel
theorem dX11_body_32 : decode cX11_body 32 = .ok (.iload_n 1, 1) := by decide +kernel
theorem dX11_body_33 : decode cX11_body 33 = .ok (.iastore, 1) := by decide +kernel
theorem dX11_body_34 : decode cX11_body 34 = .ok (.aload_n 0, 1) := by decide +kernel
theorem dX11_body_35 : decode cX11_body 35 = .ok (.dup, 1) := by decide +kernel
theorem dX11_body_36 : decode cX11_body 36 = .ok (.getfield 338, 3) := by decide +kernel
theorem dX11_body_39 : decode cX11_body 39 = .ok (.iconst 1, 1) := by decide +kernel
theorem dX11_body_40 : decode cX11_body 40 = .ok (.iadd, 1) := by decide +kernel
theorem dX11_body_41 : decode cX11_body 41 = .ok (.putfield 338, 3) := by decide +kernel
theorem dX11_body_44 : decode cX11_body 44 = .ok (.aload_n 0, 1) := by decide +kernel
theorem dX11_body_45 : decode cX11_body 45 = .ok (.getfield 338, 3) := by decide +kernel
theorem dX11_body_48 : decode cX11_body 48 = .ok (.iconst 1, 1) := by decide +kernel
theorem dX11_body_49 : decode cX11_body 49 = .ok (.isub, 1) := by decide +kernel
theorem dX11_body_50 : decode cX11_body 50 = .ok (.ireturn, 1) := by decide +kernel
theorem dX11_isUnder_0 : decode cX11_isUnder 0 = .ok (.iload_n 1, 1) := by decide +kernel
theorem dX11_isUnder_1 : decode cX11_isUnder 1 = .ok (.ifCond .eq 55, 3) := by decide +kernel
theorem dX11_isUnder_4 : decode cX11_isUnder 4 = .ok (.iload_n 0, 1) := by decide +kernel
theorem dX11_isUnder_5 : decode cX11_isUnder 5 = .ok (.iload_n 1, 1) := by decide +kernel
theorem dX11_isUnder_6 : decode cX11_isUnder 6 = .ok (.if_icmp .eq 50, 3) := by decide +kernel
theorem dX11_isUnder_9 : decode cX11_isUnder 9 = .ok (.iload_n 1, 1) := by decide +kernel
theorem dX11_isUnder_10 : decode cX11_isUnder 10 = .ok (.iconst 1, 1) := by decide +kernel
theorem dX11_isUnder_11 : decode cX11_isUnder 11 = .ok (.if_icmp .ne 8, 3) := by decide +kernel
theorem dX11_isUnder_14 : decode cX11_isUnder 14 = .ok (.iload_n 0, 1) := by decide +kernel
theorem dX11_isUnder_15 : decode cX11_isUnder 15 = .ok (.iconst 4, 1) := by decide +kernel
theorem dX11_isUnder_16 : decode cX11_isUnder 16 = .ok (.if_icmp .eq 40, 3) := by decide +kernel
theorem dX11_isUnder_19 : decode cX11_isUnder 19 = .ok (.iload_n 1, 1) := by decide +kernel
theorem dX11_isUnder_20 : decode cX11_isUnder 20 = .ok (.iconst 2, 1) := by decide +kernel
theorem dX11_isUnder_21 : decode cX11_isUnder 21 = .ok (.if_icmp .ne 13, 3) := by decide +kernel
theorem dX11_isUnder_24 : decode cX11_isUnder 24 = .ok (.iload_n 0, 1) := by decide +kernel
theorem dX11_isUnder_25 : decode cX11_isUnder 25 = .ok (.iconst 3, 1) := by decide +kernel
theorem dX11_isUnder_26 : decode cX11_isUnder 26 = .ok (.if_icmp .eq 30, 3) := by decide +kernel
theorem dX11_isUnder_29 : decode cX11_isUnder 29 = .ok (.iload_n 0, 1) := by decide +kernel
theorem dX11_isUnder_30 : decode cX11_isUnder 30 = .ok (.iconst 5, 1) := by decide +kernel
theorem dX11_isUnder_31 : decode cX11_isUnder 31 = .ok (.if_icmp .eq 25, 3) := by decide +kernel
theorem dX11_isUnder_34 : decode cX11_isUnder 34 = .ok (.iload_n 1, 1) := by decide +kernel
theorem dX11_isUnder_35 : decode cX11_isUnder 35 = .ok (.iconst 3, 1) := by decide +kernel
theorem dX11_isUnder_36 : decode cX11_isUnder 36 = .ok (.if_icmp .ne 8, 3) := by decide +kernel
theorem dX11_isUnder_39 : decode cX11_isUnder 39 = .ok (.iload_n 0, 1) := by decide +kernel
theorem dX11_isUnder_40 : decode cX11_isUnder 40 = .ok (.iconst 5, 1) := by decide +kernel
theorem dX11_isUnder_41 : decode cX11_isUnder 41 = .ok (.if_icmp .eq 15, 3) := by decide +kernel
theorem dX11_isUnder_44 : decode cX11_isUnder 44 = .ok (.iload_n 1, 1) := by decide +kernel
theorem dX11_isUnder_45 : decode cX11_isUnder 45 = .ok (.bipush 6, 2) := by decide +kernel
theorem dX11_isUnder_47 : decode cX11_isUnder 47 = .ok (.if_icmp .ne 13, 3) := by decide +kernel
theorem dX11_isUnder_50 : decode cX11_isUnder 50 = .ok (.iload_n 0, 1) := by decide +kernel
theorem dX11_isUnder_51 : decode cX11_isUnder 51 = .ok (.bipush 7, 2) := by decide +kernel
theorem dX11_isUnder_53 : decode cX11_isUnder 53 = .ok (.if_icmp .ne 7, 3) := by decide +kernel
theorem dX11_isUnder_56 : decode cX11_isUnder 56 = .ok (.iconst 1, 1) := by decide +kernel
theorem dX11_isUnder_57 : decode cX11_isUnder 57 = .ok (.goto 4, 3) := by decide +kernel
theorem dX11_isUnder_60 : decode cX11_isUnder 60 = .ok (.iconst 0, 1) := by decide +kernel
theorem dX11_isUnder_61 : decode cX11_isUnder 61 = .ok (.ireturn, 1) := by decide +kernel
theorem dX11_plainStands_0 : decode cX11_plainStands 0 = .ok (.aload_n 0, 1) := by decide +kernel
theorem dX11_plainStands_1 : decode cX11_plainStands 1 = .ok (.iconst 1, 1) := by decide +kernel
theorem dX11_plainStands_2 : decode cX11_plainStands 2 = .ok (.invokevirtual 344, 3) := by decide +kernel
theorem dX11_plainStands_5 : decode cX11_plainStands 5 = .ok (.iload_n 2, 1) := by decide +kernel
theorem dX11_plainStands_6 : decode cX11_plainStands 6 = .ok (.iload_n 1, 1) := by decide +kernel
theorem dX11_plainStands_7 : decode cX11_plainStands 7 = .ok (.iadd, 1) := by decide +kernel
theorem dX11_plainStands_8 : decode cX11_plainStands 8 = .ok (.ireturn, 1) := by decide +kernel
theorem dX11_chippedStands_0 : decode cX11_chippedStands 0 = .ok (.aload_n 0, 1) := by decide +kernel
theorem dX11_chippedStands_1 : decode cX11_chippedStands 1 = .ok (.bipush 70, 2) := by decide +kernel
theorem dX11_chippedStands_3 : decode cX11_chippedStands 3 = .ok (.invokevirtual 344, 3) := by decide +kernel
theorem dX11_chippedStands_6 : decode cX11_chippedStands 6 = .ok (.aload_n 0, 1) := by decide +kernel
