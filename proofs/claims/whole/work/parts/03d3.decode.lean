/-! decode rows, by program out of what TURN prints -/
theorem dX11_brandOf_13 : decode cX11_brandOf 13 = .ok (.iconst 0, 1) := by decide +kernel
theorem dX11_brandOf_14 : decode cX11_brandOf 14 = .ok (.istore 6, 2) := by decide +kernel
theorem dX11_brandOf_16 : decode cX11_brandOf 16 = .ok (.iload_n 3, 1) := by decide +kernel
theorem dX11_brandOf_17 : decode cX11_brandOf 17 = .ok (.ifCond .lt 227, 3) := by decide +kernel
theorem dX11_brandOf_20 : decode cX11_brandOf 20 = .ok (.iload 6, 2) := by decide +kernel
theorem dX11_brandOf_22 : decode cX11_brandOf 22 = .ok (.aload_n 0, 1) := by decide +kernel
theorem dX11_brandOf_23 : decode cX11_brandOf 23 = .ok (.getfield 16, 3) := by decide +kernel
theorem dX11_brandOf_26 : decode cX11_brandOf 26 = .ok (.iload_n 3, 1) := by decide +kernel
theorem dX11_brandOf_27 : decode cX11_brandOf 27 = .ok (.iaload, 1) := by decide +kernel
theorem dX11_brandOf_28 : decode cX11_brandOf 28 = .ok (.if_icmp .ge 216, 3) := by decide +kernel
theorem dX11_brandOf_31 : decode cX11_brandOf 31 = .ok (.aload_n 0, 1) := by decide +kernel
theorem dX11_brandOf_32 : decode cX11_brandOf 32 = .ok (.getfield 19, 3) := by decide +kernel
theorem dX11_brandOf_35 : decode cX11_brandOf 35 = .ok (.bipush 60, 2) := by decide +kernel
theorem dX11_brandOf_37 : decode cX11_brandOf 37 = .ok (.iload_n 3, 1) := by decide +kernel
theorem dX11_brandOf_38 : decode cX11_brandOf 38 = .ok (.imul, 1) := by decide +kernel
theorem dX11_brandOf_39 : decode cX11_brandOf 39 = .ok (.iload 6, 2) := by decide +kernel
theorem dX11_brandOf_41 : decode cX11_brandOf 41 = .ok (.iadd, 1) := by decide +kernel
theorem dX11_brandOf_42 : decode cX11_brandOf 42 = .ok (.iaload, 1) := by decide +kernel
theorem dX11_brandOf_43 : decode cX11_brandOf 43 = .ok (.istore 7, 2) := by decide +kernel
theorem dX11_brandOf_45 : decode cX11_brandOf 45 = .ok (.iload 7, 2) := by decide +kernel
theorem dX11_brandOf_47 : decode cX11_brandOf 47 = .ok (.bipush 65, 2) := by decide +kernel
theorem dX11_brandOf_49 : decode cX11_brandOf 49 = .ok (.bipush 70, 2) := by decide +kernel
theorem dX11_brandOf_51 : decode cX11_brandOf 51 = .ok (.invokestatic 94, 3) := by decide +kernel
theorem dX11_brandOf_54 : decode cX11_brandOf 54 = .ok (.ifCond .eq 27, 3) := by decide +kernel
theorem dX11_brandOf_57 : decode cX11_brandOf 57 = .ok (.iload 5, 2) := by decide +kernel
theorem dX11_brandOf_59 : decode cX11_brandOf 59 = .ok (.ifCond .eq 6, 3) := by decide +kernel
theorem dX11_brandOf_62 : decode cX11_brandOf 62 = .ok (.iload 4, 2) := by decide +kernel
theorem dX11_brandOf_64 : decode cX11_brandOf 64 = .ok (.ireturn, 1) := by decide +kernel
theorem dX11_brandOf_65 : decode cX11_brandOf 65 = .ok (.iload 7, 2) := by decide +kernel
theorem dX11_brandOf_67 : decode cX11_brandOf 67 = .ok (.bipush 65, 2) := by decide +kernel
theorem dX11_brandOf_69 : decode cX11_brandOf 69 = .ok (.isub, 1) := by decide +kernel
theorem dX11_brandOf_70 : decode cX11_brandOf 70 = .ok (.istore 4, 2) := by decide +kernel
theorem dX11_brandOf_72 : decode cX11_brandOf 72 = .ok (.iconst 1, 1) := by decide +kernel
theorem dX11_brandOf_73 : decode cX11_brandOf 73 = .ok (.istore 5, 2) := by decide +kernel
theorem dX11_brandOf_75 : decode cX11_brandOf 75 = .ok (.iinc 6 2, 3) := by decide +kernel
theorem dX11_brandOf_78 : decode cX11_brandOf 78 = .ok (.goto 163, 3) := by decide +kernel
theorem dX11_brandOf_81 : decode cX11_brandOf 81 = .ok (.iload 7, 2) := by decide +kernel
theorem dX11_brandOf_83 : decode cX11_brandOf 83 = .ok (.invokestatic 102, 3) := by decide +kernel
theorem dX11_brandOf_86 : decode cX11_brandOf 86 = .ok (.ifCond .eq 152, 3) := by decide +kernel
theorem dX11_brandOf_89 : decode cX11_brandOf 89 = .ok (.aload_n 0, 1) := by decide +kernel
theorem dX11_brandOf_90 : decode cX11_brandOf 90 = .ok (.getfield 19, 3) := by decide +kernel
theorem dX11_brandOf_93 : decode cX11_brandOf 93 = .ok (.bipush 60, 2) := by decide +kernel
theorem dX11_brandOf_95 : decode cX11_brandOf 95 = .ok (.iload_n 3, 1) := by decide +kernel
theorem dX11_brandOf_96 : decode cX11_brandOf 96 = .ok (.imul, 1) := by decide +kernel
theorem dX11_brandOf_97 : decode cX11_brandOf 97 = .ok (.iload 6, 2) := by decide +kernel
theorem dX11_brandOf_99 : decode cX11_brandOf 99 = .ok (.iadd, 1) := by decide +kernel
theorem dX11_brandOf_100 : decode cX11_brandOf 100 = .ok (.iconst 1, 1) := by decide +kernel
theorem dX11_brandOf_101 : decode cX11_brandOf 101 = .ok (.iadd, 1) := by decide +kernel
theorem dX11_brandOf_102 : decode cX11_brandOf 102 = .ok (.iaload, 1) := by decide +kernel
theorem dX11_brandOf_103 : decode cX11_brandOf 103 = .ok (.istore 8, 2) := by decide +kernel
theorem dX11_brandOf_105 : decode cX11_brandOf 105 = .ok (.iconst 0, 1) := by decide +kernel
theorem dX11_brandOf_106 : decode cX11_brandOf 106 = .ok (.istore 9, 2) := by decide +kernel
theorem dX11_brandOf_108 : decode cX11_brandOf 108 = .ok (.iinc 6 2, 3) := by decide +kernel
theorem dX11_brandOf_111 : decode cX11_brandOf 111 = .ok (.iload 6, 2) := by decide +kernel
theorem dX11_brandOf_113 : decode cX11_brandOf 113 = .ok (.aload_n 0, 1) := by decide +kernel
theorem dX11_brandOf_114 : decode cX11_brandOf 114 = .ok (.getfield 16, 3) := by decide +kernel
theorem dX11_brandOf_117 : decode cX11_brandOf 117 = .ok (.iload_n 3, 1) := by decide +kernel
theorem dX11_brandOf_118 : decode cX11_brandOf 118 = .ok (.iaload, 1) := by decide +kernel
theorem dX11_brandOf_119 : decode cX11_brandOf 119 = .ok (.if_icmp .ge 54, 3) := by decide +kernel
theorem dX11_brandOf_122 : decode cX11_brandOf 122 = .ok (.aload_n 0, 1) := by decide +kernel
theorem dX11_brandOf_123 : decode cX11_brandOf 123 = .ok (.getfield 19, 3) := by decide +kernel
theorem dX11_brandOf_126 : decode cX11_brandOf 126 = .ok (.bipush 60, 2) := by decide +kernel
theorem dX11_brandOf_128 : decode cX11_brandOf 128 = .ok (.iload_n 3, 1) := by decide +kernel
theorem dX11_brandOf_129 : decode cX11_brandOf 129 = .ok (.imul, 1) := by decide +kernel
theorem dX11_brandOf_130 : decode cX11_brandOf 130 = .ok (.iload 6, 2) := by decide +kernel
theorem dX11_brandOf_132 : decode cX11_brandOf 132 = .ok (.iadd, 1) := by decide +kernel
theorem dX11_brandOf_133 : decode cX11_brandOf 133 = .ok (.iaload, 1) := by decide +kernel
theorem dX11_brandOf_134 : decode cX11_brandOf 134 = .ok (.bipush 48, 2) := by decide +kernel
theorem dX11_brandOf_136 : decode cX11_brandOf 136 = .ok (.bipush 57, 2) := by decide +kernel
theorem dX11_brandOf_138 : decode cX11_brandOf 138 = .ok (.invokestatic 94, 3) := by decide +kernel
theorem dX11_brandOf_141 : decode cX11_brandOf 141 = .ok (.ifCond .eq 32, 3) := by decide +kernel
theorem dX11_brandOf_144 : decode cX11_brandOf 144 = .ok (.bipush 10, 2) := by decide +kernel
theorem dX11_brandOf_146 : decode cX11_brandOf 146 = .ok (.iload 9, 2) := by decide +kernel
theorem dX11_brandOf_148 : decode cX11_brandOf 148 = .ok (.imul, 1) := by decide +kernel
theorem dX11_brandOf_149 : decode cX11_brandOf 149 = .ok (.aload_n 0, 1) := by decide +kernel
theorem dX11_brandOf_150 : decode cX11_brandOf 150 = .ok (.getfield 19, 3) := by decide +kernel
theorem dX11_brandOf_153 : decode cX11_brandOf 153 = .ok (.bipush 60, 2) := by decide +kernel
theorem dX11_brandOf_155 : decode cX11_brandOf 155 = .ok (.iload_n 3, 1) := by decide +kernel
theorem dX11_brandOf_156 : decode cX11_brandOf 156 = .ok (.imul, 1) := by decide +kernel
theorem dX11_brandOf_157 : decode cX11_brandOf 157 = .ok (.iload 6, 2) := by decide +kernel
theorem dX11_brandOf_159 : decode cX11_brandOf 159 = .ok (.iadd, 1) := by decide +kernel
theorem dX11_brandOf_160 : decode cX11_brandOf 160 = .ok (.iaload, 1) := by decide +kernel
theorem dX11_brandOf_161 : decode cX11_brandOf 161 = .ok (.iadd, 1) := by decide +kernel
theorem dX11_brandOf_162 : decode cX11_brandOf 162 = .ok (.bipush 48, 2) := by decide +kernel
theorem dX11_brandOf_164 : decode cX11_brandOf 164 = .ok (.isub, 1) := by decide +kernel
theorem dX11_brandOf_165 : decode cX11_brandOf 165 = .ok (.istore 9, 2) := by decide +kernel
theorem dX11_brandOf_167 : decode cX11_brandOf 167 = .ok (.iinc 6 1, 3) := by decide +kernel
theorem dX11_brandOf_170 : decode cX11_brandOf 170 = .ok (.goto (-59), 3) := by decide +kernel
theorem dX11_brandOf_173 : decode cX11_brandOf 173 = .ok (.aload_n 0, 1) := by decide +kernel
theorem dX11_brandOf_174 : decode cX11_brandOf 174 = .ok (.iload_n 1, 1) := by decide +kernel
theorem dX11_brandOf_175 : decode cX11_brandOf 175 = .ok (.iload 7, 2) := by decide +kernel
theorem dX11_brandOf_177 : decode cX11_brandOf 177 = .ok (.invokevirtual 130, 3) := by decide +kernel
theorem dX11_brandOf_180 : decode cX11_brandOf 180 = .ok (.istore 10, 2) := by decide +kernel
theorem dX11_brandOf_182 : decode cX11_brandOf 182 = .ok (.iload 5, 2) := by decide +kernel
theorem dX11_brandOf_184 : decode cX11_brandOf 184 = .ok (.ifCond .eq 48, 3) := by decide +kernel
theorem dX11_brandOf_187 : decode cX11_brandOf 187 = .ok (.iload 8, 2) := by decide +kernel
theorem dX11_brandOf_189 : decode cX11_brandOf 189 = .ok (.bipush 60, 2) := by decide +kernel
theorem dX11_brandOf_191 : decode cX11_brandOf 191 = .ok (.if_icmp .ne 13, 3) := by decide +kernel
theorem dX11_brandOf_194 : decode cX11_brandOf 194 = .ok (.iload 10, 2) := by decide +kernel
theorem dX11_brandOf_196 : decode cX11_brandOf 196 = .ok (.iload 9, 2) := by decide +kernel
theorem dX11_brandOf_198 : decode cX11_brandOf 198 = .ok (.if_icmp .ge 34, 3) := by decide +kernel
theorem dX11_brandOf_201 : decode cX11_brandOf 201 = .ok (.goto 27, 3) := by decide +kernel
theorem dX11_brandOf_204 : decode cX11_brandOf 204 = .ok (.iload 8, 2) := by decide +kernel
theorem dX11_brandOf_206 : decode cX11_brandOf 206 = .ok (.bipush 62, 2) := by decide +kernel
theorem dX11_brandOf_208 : decode cX11_brandOf 208 = .ok (.if_icmp .ne 13, 3) := by decide +kernel
theorem dX11_brandOf_211 : decode cX11_brandOf 211 = .ok (.iload 10, 2) := by decide +kernel
theorem dX11_brandOf_213 : decode cX11_brandOf 213 = .ok (.iload 9, 2) := by decide +kernel
theorem dX11_brandOf_215 : decode cX11_brandOf 215 = .ok (.if_icmp .le 17, 3) := by decide +kernel
theorem dX11_brandOf_218 : decode cX11_brandOf 218 = .ok (.goto 10, 3) := by decide +kernel
theorem dX11_brandOf_221 : decode cX11_brandOf 221 = .ok (.iload 10, 2) := by decide +kernel
theorem dX11_brandOf_223 : decode cX11_brandOf 223 = .ok (.iload 9, 2) := by decide +kernel
theorem dX11_brandOf_225 : decode cX11_brandOf 225 = .ok (.if_icmp .ne 7, 3) := by decide +kernel
theorem dX11_brandOf_228 : decode cX11_brandOf 228 = .ok (.iconst 1, 1) := by decide +kernel
theorem dX11_brandOf_229 : decode cX11_brandOf 229 = .ok (.goto 4, 3) := by decide +kernel
theorem dX11_brandOf_232 : decode cX11_brandOf 232 = .ok (.iconst 0, 1) := by decide +kernel
theorem dX11_brandOf_233 : decode cX11_brandOf 233 = .ok (.istore 5, 2) := by decide +kernel
theorem dX11_brandOf_235 : decode cX11_brandOf 235 = .ok (.goto 6, 3) := by decide +kernel
theorem dX11_brandOf_238 : decode cX11_brandOf 238 = .ok (.iinc 6 1, 3) := by decide +kernel
theorem dX11_brandOf_241 : decode cX11_brandOf 241 = .ok (.goto (-225), 3) := by decide +kernel
theorem dX11_brandOf_244 : decode cX11_brandOf 244 = .ok (.iload 5, 2) := by decide +kernel
theorem dX11_brandOf_246 : decode cX11_brandOf 246 = .ok (.ifCond .eq 8, 3) := by decide +kernel
theorem dX11_brandOf_249 : decode cX11_brandOf 249 = .ok (.iload 4, 2) := by decide +kernel
theorem dX11_brandOf_251 : decode cX11_brandOf 251 = .ok (.goto 5, 3) := by decide +kernel
theorem dX11_brandOf_254 : decode cX11_brandOf 254 = .ok (.bipush (-6), 2) := by decide +kernel
theorem dX11_brandOf_256 : decode cX11_brandOf 256 = .ok (.ireturn, 1) := by decide +kernel
theorem dX11_set_0 : decode cX11_set 0 = .ok (.iload_n 1, 1) := by decide +kernel
theorem dX11_set_1 : decode cX11_set 1 = .ok (.invokestatic 133, 3) := by decide +kernel
theorem dX11_set_4 : decode cX11_set 4 = .ok (.ifCond .ne 5, 3) := by decide +kernel
theorem dX11_set_7 : decode cX11_set 7 = .ok (.iconst (-1), 1) := by decide +kernel
theorem dX11_set_8 : decode cX11_set 8 = .ok (.ireturn, 1) := by decide +kernel
theorem dX11_set_9 : decode cX11_set 9 = .ok (.iload_n 2, 1) := by decide +kernel
theorem dX11_set_10 : decode cX11_set 10 = .ok (.iconst 0, 1) := by decide +kernel
theorem dX11_set_11 : decode cX11_set 11 = .ok (.iconst 1, 1) := by decide +kernel
theorem dX11_set_12 : decode cX11_set 12 = .ok (.invokestatic 94, 3) := by decide +kernel
theorem dX11_set_15 : decode cX11_set 15 = .ok (.ifCond .eq 23, 3) := by decide +kernel
theorem dX11_set_18 : decode cX11_set 18 = .ok (.iload_n 3, 1) := by decide +kernel
theorem dX11_set_19 : decode cX11_set 19 = .ok (.iconst 1, 1) := by decide +kernel
theorem dX11_set_20 : decode cX11_set 20 = .ok (.iload_n 2, 1) := by decide +kernel
theorem dX11_set_21 : decode cX11_set 21 = .ok (.ifCond .ne 8, 3) := by decide +kernel
theorem dX11_set_24 : decode cX11_set 24 = .ok (.bipush 9, 2) := by decide +kernel
theorem dX11_set_26 : decode cX11_set 26 = .ok (.goto 6, 3) := by decide +kernel
theorem dX11_set_29 : decode cX11_set 29 = .ok (.sipush 2000, 3) := by decide +kernel
theorem dX11_set_32 : decode cX11_set 32 = .ok (.invokestatic 94, 3) := by decide +kernel
theorem dX11_set_35 : decode cX11_set 35 = .ok (.ifCond .ne 6, 3) := by decide +kernel
theorem dX11_set_38 : decode cX11_set 38 = .ok (.bipush (-2), 2) := by decide +kernel
theorem dX11_set_40 : decode cX11_set 40 = .ok (.ireturn, 1) := by decide +kernel
theorem dX11_set_41 : decode cX11_set 41 = .ok (.iload_n 2, 1) := by decide +kernel
theorem dX11_set_42 : decode cX11_set 42 = .ok (.ifCond .ne 12, 3) := by decide +kernel
theorem dX11_set_45 : decode cX11_set 45 = .ok (.aload_n 0, 1) := by decide +kernel
theorem dX11_set_46 : decode cX11_set 46 = .ok (.getfield 22, 3) := by decide +kernel
theorem dX11_set_49 : decode cX11_set 49 = .ok (.iload_n 1, 1) := by decide +kernel
theorem dX11_set_50 : decode cX11_set 50 = .ok (.iaload, 1) := by decide +kernel
theorem dX11_set_51 : decode cX11_set 51 = .ok (.goto 9, 3) := by decide +kernel
theorem dX11_set_54 : decode cX11_set 54 = .ok (.aload_n 0, 1) := by decide +kernel
theorem dX11_set_55 : decode cX11_set 55 = .ok (.getfield 25, 3) := by decide +kernel
theorem dX11_set_58 : decode cX11_set 58 = .ok (.iload_n 1, 1) := by decide +kernel
theorem dX11_set_59 : decode cX11_set 59 = .ok (.iaload, 1) := by decide +kernel
theorem dX11_set_60 : decode cX11_set 60 = .ok (.istore 4, 2) := by decide +kernel
theorem dX11_set_62 : decode cX11_set 62 = .ok (.iload_n 2, 1) := by decide +kernel
theorem dX11_set_63 : decode cX11_set 63 = .ok (.ifCond .ne 13, 3) := by decide +kernel
theorem dX11_set_66 : decode cX11_set 66 = .ok (.aload_n 0, 1) := by decide +kernel
theorem dX11_set_67 : decode cX11_set 67 = .ok (.getfield 22, 3) := by decide +kernel
theorem dX11_set_70 : decode cX11_set 70 = .ok (.iload_n 1, 1) := by decide +kernel
theorem dX11_set_71 : decode cX11_set 71 = .ok (.iload_n 3, 1) := by decide +kernel
theorem dX11_set_72 : decode cX11_set 72 = .ok (.iastore, 1) := by decide +kernel
theorem dX11_set_73 : decode cX11_set 73 = .ok (.goto 10, 3) := by decide +kernel
theorem dX11_set_76 : decode cX11_set 76 = .ok (.aload_n 0, 1) := by decide +kernel
theorem dX11_set_77 : decode cX11_set 77 = .ok (.getfield 25, 3) := by decide +kernel
theorem dX11_set_80 : decode cX11_set 80 = .ok (.iload_n 1, 1) := by decide +kernel
theorem dX11_set_81 : decode cX11_set 81 = .ok (.iload_n 3, 1) := by decide +kernel
theorem dX11_set_82 : decode cX11_set 82 = .ok (.iastore, 1) := by decide +kernel
theorem dX11_set_83 : decode cX11_set 83 = .ok (.iload 4, 2) := by decide +kernel
theorem dX11_set_85 : decode cX11_set 85 = .ok (.ireturn, 1) := by decide +kernel
theorem dX11_rule_0 : decode cX11_rule 0 = .ok (.iload_n 1, 1) := by decide +kernel
theorem dX11_rule_1 : decode cX11_rule 1 = .ok (.iconst 0, 1) := by decide +kernel
theorem dX11_rule_2 : decode cX11_rule 2 = .ok (.bipush 6, 2) := by decide +kernel
theorem dX11_rule_4 : decode cX11_rule 4 = .ok (.invokestatic 94, 3) := by decide +kernel
theorem dX11_rule_7 : decode cX11_rule 7 = .ok (.ifCond .ne 6, 3) := by decide +kernel
theorem dX11_rule_10 : decode cX11_rule 10 = .ok (.bipush (-2), 2) := by decide +kernel
theorem dX11_rule_12 : decode cX11_rule 12 = .ok (.ireturn, 1) := by decide +kernel
theorem dX11_rule_13 : decode cX11_rule 13 = .ok (.iload_n 1, 1) := by decide +kernel
theorem dX11_rule_14 : decode cX11_rule 14 = .ok (.ifCond .eq 8, 3) := by decide +kernel
theorem dX11_rule_17 : decode cX11_rule 17 = .ok (.iload_n 1, 1) := by decide +kernel
theorem dX11_rule_18 : decode cX11_rule 18 = .ok (.iconst 2, 1) := by decide +kernel
theorem dX11_rule_19 : decode cX11_rule 19 = .ok (.if_icmp .ne 7, 3) := by decide +kernel
theorem dX11_rule_22 : decode cX11_rule 22 = .ok (.iconst 1, 1) := by decide +kernel
theorem dX11_rule_23 : decode cX11_rule 23 = .ok (.goto 25, 3) := by decide +kernel
theorem dX11_rule_26 : decode cX11_rule 26 = .ok (.iload_n 1, 1) := by decide +kernel
theorem dX11_rule_27 : decode cX11_rule 27 = .ok (.iconst 1, 1) := by decide +kernel
theorem dX11_rule_28 : decode cX11_rule 28 = .ok (.if_icmp .ne 8, 3) := by decide +kernel
theorem dX11_rule_31 : decode cX11_rule 31 = .ok (.bipush 100, 2) := by decide +kernel
theorem dX11_rule_33 : decode cX11_rule 33 = .ok (.goto 15, 3) := by decide +kernel
theorem dX11_rule_36 : decode cX11_rule 36 = .ok (.iload_n 1, 1) := by decide +kernel
theorem dX11_rule_37 : decode cX11_rule 37 = .ok (.iconst 4, 1) := by decide +kernel
theorem dX11_rule_38 : decode cX11_rule 38 = .ok (.if_icmp .ne 9, 3) := by decide +kernel
theorem dX11_rule_41 : decode cX11_rule 41 = .ok (.sipush 500, 3) := by decide +kernel
theorem dX11_rule_44 : decode cX11_rule 44 = .ok (.goto 4, 3) := by decide +kernel
theorem dX11_rule_47 : decode cX11_rule 47 = .ok (.iconst 0, 1) := by decide +kernel
theorem dX11_rule_48 : decode cX11_rule 48 = .ok (.istore_n 3, 1) := by decide +kernel
theorem dX11_rule_49 : decode cX11_rule 49 = .ok (.iload_n 1, 1) := by decide +kernel
theorem dX11_rule_50 : decode cX11_rule 50 = .ok (.ifCond .ne 8, 3) := by decide +kernel
theorem dX11_rule_53 : decode cX11_rule 53 = .ok (.bipush 72, 2) := by decide +kernel
theorem dX11_rule_55 : decode cX11_rule 55 = .ok (.goto 31, 3) := by decide +kernel
theorem dX11_rule_58 : decode cX11_rule 58 = .ok (.iload_n 1, 1) := by decide +kernel
theorem dX11_rule_59 : decode cX11_rule 59 = .ok (.iconst 1, 1) := by decide +kernel
theorem dX11_rule_60 : decode cX11_rule 60 = .ok (.if_icmp .eq 8, 3) := by decide +kernel
theorem dX11_rule_63 : decode cX11_rule 63 = .ok (.iload_n 1, 1) := by decide +kernel
theorem dX11_rule_64 : decode cX11_rule 64 = .ok (.iconst 4, 1) := by decide +kernel
theorem dX11_rule_65 : decode cX11_rule 65 = .ok (.if_icmp .ne 9, 3) := by decide +kernel
theorem dX11_rule_68 : decode cX11_rule 68 = .ok (.sipush 1500, 3) := by decide +kernel
theorem dX11_rule_71 : decode cX11_rule 71 = .ok (.goto 15, 3) := by decide +kernel
theorem dX11_rule_74 : decode cX11_rule 74 = .ok (.iload_n 1, 1) := by decide +kernel
theorem dX11_rule_75 : decode cX11_rule 75 = .ok (.iconst 3, 1) := by decide +kernel
theorem dX11_rule_76 : decode cX11_rule 76 = .ok (.if_icmp .ne 8, 3) := by decide +kernel
theorem dX11_rule_79 : decode cX11_rule 79 = .ok (.bipush 50, 2) := by decide +kernel
theorem dX11_rule_81 : decode cX11_rule 81 = .ok (.goto 5, 3) := by decide +kernel
theorem dX11_rule_84 : decode cX11_rule 84 = .ok (.bipush 100, 2) := by decide +kernel
theorem dX11_rule_86 : decode cX11_rule 86 = .ok (.istore 4, 2) := by decide +kernel
theorem dX11_rule_88 : decode cX11_rule 88 = .ok (.iload_n 2, 1) := by decide +kernel
theorem dX11_rule_89 : decode cX11_rule 89 = .ok (.iload_n 3, 1) := by decide +kernel
theorem dX11_rule_90 : decode cX11_rule 90 = .ok (.iload 4, 2) := by decide +kernel
theorem dX11_rule_92 : decode cX11_rule 92 = .ok (.invokestatic 94, 3) := by decide +kernel
theorem dX11_rule_95 : decode cX11_rule 95 = .ok (.ifCond .ne 6, 3) := by decide +kernel
theorem dX11_rule_98 : decode cX11_rule 98 = .ok (.bipush (-2), 2) := by decide +kernel
theorem dX11_rule_100 : decode cX11_rule 100 = .ok (.ireturn, 1) := by decide +kernel
theorem dX11_rule_101 : decode cX11_rule 101 = .ok (.aload_n 0, 1) := by decide +kernel
theorem dX11_rule_102 : decode cX11_rule 102 = .ok (.getfield 28, 3) := by decide +kernel
theorem dX11_rule_105 : decode cX11_rule 105 = .ok (.iload_n 1, 1) := by decide +kernel
theorem dX11_rule_106 : decode cX11_rule 106 = .ok (.iaload, 1) := by decide +kernel
theorem dX11_rule_107 : decode cX11_rule 107 = .ok (.istore 5, 2) := by decide +kernel
theorem dX11_rule_109 : decode cX11_rule 109 = .ok (.aload_n 0, 1) := by decide +kernel
theorem dX11_rule_110 : decode cX11_rule 110 = .ok (.getfield 28, 3) := by decide +kernel
theorem dX11_rule_113 : decode cX11_rule 113 = .ok (.iload_n 1, 1) := by decide +kernel
theorem dX11_rule_114 : decode cX11_rule 114 = .ok (.iload_n 2, 1) := by decide +kernel
theorem dX11_rule_115 : decode cX11_rule 115 = .ok (.iastore, 1) := by decide +kernel
theorem dX11_rule_116 : decode cX11_rule 116 = .ok (.iload 5, 2) := by decide +kernel
theorem dX11_rule_118 : decode cX11_rule 118 = .ok (.ireturn, 1) := by decide +kernel
theorem dX11_waiting_0 : decode cX11_waiting 0 = .ok (.iconst 0, 1) := by decide +kernel
theorem dX11_waiting_1 : decode cX11_waiting 1 = .ok (.istore_n 1, 1) := by decide +kernel
theorem dX11_waiting_2 : decode cX11_waiting 2 = .ok (.iconst 0, 1) := by decide +kernel
theorem dX11_waiting_3 : decode cX11_waiting 3 = .ok (.istore_n 2, 1) := by decide +kernel
theorem dX11_waiting_4 : decode cX11_waiting 4 = .ok (.iload_n 2, 1) := by decide +kernel
theorem dX11_waiting_5 : decode cX11_waiting 5 = .ok (.aload_n 0, 1) := by decide +kernel
theorem dX11_waiting_6 : decode cX11_waiting 6 = .ok (.getfield 136, 3) := by decide +kernel
theorem dX11_waiting_9 : decode cX11_waiting 9 = .ok (.if_icmp .ge 31, 3) := by decide +kernel
theorem dX11_waiting_12 : decode cX11_waiting 12 = .ok (.iload_n 1, 1) := by decide +kernel
theorem dX11_waiting_13 : decode cX11_waiting 13 = .ok (.aload_n 0, 1) := by decide +kernel
theorem dX11_waiting_14 : decode cX11_waiting 14 = .ok (.getfield 31, 3) := by decide +kernel
theorem dX11_waiting_17 : decode cX11_waiting 17 = .ok (.bipush 7, 2) := by decide +kernel
theorem dX11_waiting_19 : decode cX11_waiting 19 = .ok (.iload_n 2, 1) := by decide +kernel
theorem dX11_waiting_20 : decode cX11_waiting 20 = .ok (.imul, 1) := by decide +kernel
theorem dX11_waiting_21 : decode cX11_waiting 21 = .ok (.iconst 1, 1) := by decide +kernel
theorem dX11_waiting_22 : decode cX11_waiting 22 = .ok (.iadd, 1) := by decide +kernel
theorem dX11_waiting_23 : decode cX11_waiting 23 = .ok (.iaload, 1) := by decide +kernel
theorem dX11_waiting_24 : decode cX11_waiting 24 = .ok (.ifCond .ge 7, 3) := by decide +kernel
theorem dX11_waiting_27 : decode cX11_waiting 27 = .ok (.iconst 1, 1) := by decide +kernel
theorem dX11_waiting_28 : decode cX11_waiting 28 = .ok (.goto 4, 3) := by decide +kernel
theorem dX11_waiting_31 : decode cX11_waiting 31 = .ok (.iconst 0, 1) := by decide +kernel
theorem dX11_waiting_32 : decode cX11_waiting 32 = .ok (.iadd, 1) := by decide +kernel
theorem dX11_waiting_33 : decode cX11_waiting 33 = .ok (.istore_n 1, 1) := by decide +kernel
theorem dX11_waiting_34 : decode cX11_waiting 34 = .ok (.iinc 2 1, 3) := by decide +kernel
theorem dX11_waiting_37 : decode cX11_waiting 37 = .ok (.goto (-33), 3) := by decide +kernel
theorem dX11_waiting_40 : decode cX11_waiting 40 = .ok (.iload_n 1, 1) := by decide +kernel
theorem dX11_waiting_41 : decode cX11_waiting 41 = .ok (.ireturn, 1) := by decide +kernel
theorem dX11_land_0 : decode cX11_land 0 = .ok (.iload_n 1, 1) := by decide +kernel
theorem dX11_land_1 : decode cX11_land 1 = .ok (.iconst 0, 1) := by decide +kernel
theorem dX11_land_2 : decode cX11_land 2 = .ok (.bipush 9, 2) := by decide +kernel
theorem dX11_land_4 : decode cX11_land 4 = .ok (.invokestatic 94, 3) := by decide +kernel
theorem dX11_land_7 : decode cX11_land 7 = .ok (.ifCond .eq 15, 3) := by decide +kernel
theorem dX11_land_10 : decode cX11_land 10 = .ok (.iload_n 2, 1) := by decide +kernel
theorem dX11_land_11 : decode cX11_land 11 = .ok (.iconst (-1), 1) := by decide +kernel
theorem dX11_land_12 : decode cX11_land 12 = .ok (.if_icmp .eq 12, 3) := by decide +kernel
theorem dX11_land_15 : decode cX11_land 15 = .ok (.iload_n 2, 1) := by decide +kernel
theorem dX11_land_16 : decode cX11_land 16 = .ok (.invokestatic 133, 3) := by decide +kernel
theorem dX11_land_19 : decode cX11_land 19 = .ok (.ifCond .ne 5, 3) := by decide +kernel
theorem dX11_land_22 : decode cX11_land 22 = .ok (.iconst (-1), 1) := by decide +kernel
theorem dX11_land_23 : decode cX11_land 23 = .ok (.ireturn, 1) := by decide +kernel
theorem dX11_land_24 : decode cX11_land 24 = .ok (.iload_n 3, 1) := by decide +kernel
theorem dX11_land_25 : decode cX11_land 25 = .ok (.invokestatic 139, 3) := by decide +kernel
theorem dX11_land_28 : decode cX11_land 28 = .ok (.ifCond .eq 26, 3) := by decide +kernel
theorem dX11_land_31 : decode cX11_land 31 = .ok (.iload 4, 2) := by decide +kernel
theorem dX11_land_33 : decode cX11_land 33 = .ok (.iconst 1, 1) := by decide +kernel
theorem dX11_land_34 : decode cX11_land 34 = .ok (.sipush 20000, 3) := by decide +kernel
theorem dX11_land_37 : decode cX11_land 37 = .ok (.invokestatic 94, 3) := by decide +kernel
theorem dX11_land_40 : decode cX11_land 40 = .ok (.ifCond .eq 14, 3) := by decide +kernel
theorem dX11_land_43 : decode cX11_land 43 = .ok (.iload 5, 2) := by decide +kernel
theorem dX11_land_45 : decode cX11_land 45 = .ok (.iconst 1, 1) := by decide +kernel
theorem dX11_land_46 : decode cX11_land 46 = .ok (.bipush 9, 2) := by decide +kernel
theorem dX11_land_48 : decode cX11_land 48 = .ok (.invokestatic 94, 3) := by decide +kernel
theorem dX11_land_51 : decode cX11_land 51 = .ok (.ifCond .ne 6, 3) := by decide +kernel
theorem dX11_land_54 : decode cX11_land 54 = .ok (.bipush (-2), 2) := by decide +kernel
theorem dX11_land_56 : decode cX11_land 56 = .ok (.ireturn, 1) := by decide +kernel
theorem dX11_land_57 : decode cX11_land 57 = .ok (.aload_n 0, 1) := by decide +kernel
theorem dX11_land_58 : decode cX11_land 58 = .ok (.getfield 136, 3) := by decide +kernel
theorem dX11_land_61 : decode cX11_land 61 = .ok (.bipush 30, 2) := by decide +kernel
theorem dX11_land_63 : decode cX11_land 63 = .ok (.if_icmp .ne 6, 3) := by decide +kernel
theorem dX11_land_66 : decode cX11_land 66 = .ok (.bipush (-4), 2) := by decide +kernel
theorem dX11_land_68 : decode cX11_land 68 = .ok (.ireturn, 1) := by decide +kernel
theorem dX11_land_69 : decode cX11_land 69 = .ok (.iload_n 2, 1) := by decide +kernel
theorem dX11_land_70 : decode cX11_land 70 = .ok (.ifCond .ge 14, 3) := by decide +kernel
theorem dX11_land_73 : decode cX11_land 73 = .ok (.aload_n 0, 1) := by decide +kernel
theorem dX11_land_74 : decode cX11_land 74 = .ok (.invokevirtual 142, 3) := by decide +kernel
theorem dX11_land_77 : decode cX11_land 77 = .ok (.iconst 5, 1) := by decide +kernel
theorem dX11_land_78 : decode cX11_land 78 = .ok (.if_icmp .ne 6, 3) := by decide +kernel
theorem dX11_land_81 : decode cX11_land 81 = .ok (.bipush (-5), 2) := by decide +kernel
theorem dX11_land_83 : decode cX11_land 83 = .ok (.ireturn, 1) := by decide +kernel
theorem dX11_land_84 : decode cX11_land 84 = .ok (.bipush 7, 2) := by decide +kernel
theorem dX11_land_86 : decode cX11_land 86 = .ok (.aload_n 0, 1) := by decide +kernel
theorem dX11_land_87 : decode cX11_land 87 = .ok (.getfield 136, 3) := by decide +kernel
theorem dX11_land_90 : decode cX11_land 90 = .ok (.imul, 1) := by decide +kernel
theorem dX11_land_91 : decode cX11_land 91 = .ok (.istore 6, 2) := by decide +kernel
theorem dX11_land_93 : decode cX11_land 93 = .ok (.aload_n 0, 1) := by decide +kernel
theorem dX11_land_94 : decode cX11_land 94 = .ok (.getfield 31, 3) := by decide +kernel
theorem dX11_land_97 : decode cX11_land 97 = .ok (.iload 6, 2) := by decide +kernel
theorem dX11_land_99 : decode cX11_land 99 = .ok (.iload_n 1, 1) := by decide +kernel
theorem dX11_land_100 : decode cX11_land 100 = .ok (.iastore, 1) := by decide +kernel
theorem dX11_land_101 : decode cX11_land 101 = .ok (.aload_n 0, 1) := by decide +kernel
theorem dX11_land_102 : decode cX11_land 102 = .ok (.getfield 31, 3) := by decide +kernel
theorem dX11_land_105 : decode cX11_land 105 = .ok (.iload 6, 2) := by decide +kernel
theorem dX11_land_107 : decode cX11_land 107 = .ok (.iconst 1, 1) := by decide +kernel
theorem dX11_land_108 : decode cX11_land 108 = .ok (.iadd, 1) := by decide +kernel
theorem dX11_land_109 : decode cX11_land 109 = .ok (.iload_n 2, 1) := by decide +kernel
theorem dX11_land_110 : decode cX11_land 110 = .ok (.iastore, 1) := by decide +kernel
theorem dX11_land_111 : decode cX11_land 111 = .ok (.aload_n 0, 1) := by decide +kernel
theorem dX11_land_112 : decode cX11_land 112 = .ok (.getfield 31, 3) := by decide +kernel
theorem dX11_land_115 : decode cX11_land 115 = .ok (.iload 6, 2) := by decide +kernel
theorem dX11_land_117 : decode cX11_land 117 = .ok (.iconst 2, 1) := by decide +kernel
theorem dX11_land_118 : decode cX11_land 118 = .ok (.iadd, 1) := by decide +kernel
theorem dX11_land_119 : decode cX11_land 119 = .ok (.iload_n 3, 1) := by decide +kernel
theorem dX11_land_120 : decode cX11_land 120 = .ok (.iastore, 1) := by decide +kernel
theorem dX11_land_121 : decode cX11_land 121 = .ok (.aload_n 0, 1) := by decide +kernel
theorem dX11_land_122 : decode cX11_land 122 = .ok (.getfield 31, 3) := by decide +kernel
theorem dX11_land_125 : decode cX11_land 125 = .ok (.iload 6, 2) := by decide +kernel
theorem dX11_land_127 : decode cX11_land 127 = .ok (.iconst 3, 1) := by decide +kernel
theorem dX11_land_128 : decode cX11_land 128 = .ok (.iadd, 1) := by decide +kernel
theorem dX11_land_129 : decode cX11_land 129 = .ok (.iload 4, 2) := by decide +kernel
theorem dX11_land_131 : decode cX11_land 131 = .ok (.iastore, 1) := by decide +kernel
theorem dX11_land_132 : decode cX11_land 132 = .ok (.aload_n 0, 1) := by decide +kernel
theorem dX11_land_133 : decode cX11_land 133 = .ok (.getfield 31, 3) := by decide +kernel
theorem dX11_land_136 : decode cX11_land 136 = .ok (.iload 6, 2) := by decide +kernel
theorem dX11_land_138 : decode cX11_land 138 = .ok (.iconst 4, 1) := by decide +kernel
theorem dX11_land_139 : decode cX11_land 139 = .ok (.iadd, 1) := by decide +kernel
theorem dX11_land_140 : decode cX11_land 140 = .ok (.iload 5, 2) := by decide +kernel
theorem dX11_land_142 : decode cX11_land 142 = .ok (.iastore, 1) := by decide +kernel
theorem dX11_land_143 : decode cX11_land 143 = .ok (.aload_n 0, 1) := by decide +kernel
theorem dX11_land_144 : decode cX11_land 144 = .ok (.dup, 1) := by decide +kernel
theorem dX11_land_145 : decode cX11_land 145 = .ok (.getfield 136, 3) := by decide +kernel
theorem dX11_land_148 : decode cX11_land 148 = .ok (.iconst 1, 1) := by decide +kernel
theorem dX11_land_149 : decode cX11_land 149 = .ok (.iadd, 1) := by decide +kernel
theorem dX11_land_150 : decode cX11_land 150 = .ok (.putfield 136, 3) := by decide +kernel
theorem dX11_land_153 : decode cX11_land 153 = .ok (.aload_n 0, 1) := by decide +kernel
theorem dX11_land_154 : decode cX11_land 154 = .ok (.getfield 136, 3) := by decide +kernel
theorem dX11_land_157 : decode cX11_land 157 = .ok (.iconst 1, 1) := by decide +kernel
theorem dX11_land_158 : decode cX11_land 158 = .ok (.isub, 1) := by decide +kernel
theorem dX11_land_159 : decode cX11_land 159 = .ok (.ireturn, 1) := by decide +kernel
theorem dX11_lead_0 : decode cX11_lead 0 = .ok (.iload_n 1, 1) := by decide +kernel
theorem dX11_lead_1 : decode cX11_lead 1 = .ok (.iconst 0, 1) := by decide +kernel
theorem dX11_lead_2 : decode cX11_lead 2 = .ok (.aload_n 0, 1) := by decide +kernel
theorem dX11_lead_3 : decode cX11_lead 3 = .ok (.getfield 136, 3) := by decide +kernel
theorem dX11_lead_6 : decode cX11_lead 6 = .ok (.iconst 1, 1) := by decide +kernel
theorem dX11_lead_7 : decode cX11_lead 7 = .ok (.isub, 1) := by decide +kernel
theorem dX11_lead_8 : decode cX11_lead 8 = .ok (.invokestatic 94, 3) := by decide +kernel
theorem dX11_lead_11 : decode cX11_lead 11 = .ok (.ifCond .eq 15, 3) := by decide +kernel
theorem dX11_lead_14 : decode cX11_lead 14 = .ok (.iload_n 2, 1) := by decide +kernel
theorem dX11_lead_15 : decode cX11_lead 15 = .ok (.iconst (-1), 1) := by decide +kernel
theorem dX11_lead_16 : decode cX11_lead 16 = .ok (.if_icmp .eq 12, 3) := by decide +kernel
theorem dX11_lead_19 : decode cX11_lead 19 = .ok (.iload_n 2, 1) := by decide +kernel
theorem dX11_lead_20 : decode cX11_lead 20 = .ok (.invokestatic 133, 3) := by decide +kernel
theorem dX11_lead_23 : decode cX11_lead 23 = .ok (.ifCond .ne 5, 3) := by decide +kernel
theorem dX11_lead_26 : decode cX11_lead 26 = .ok (.iconst (-1), 1) := by decide +kernel
theorem dX11_lead_27 : decode cX11_lead 27 = .ok (.ireturn, 1) := by decide +kernel
theorem dX11_lead_28 : decode cX11_lead 28 = .ok (.aload_n 0, 1) := by decide +kernel
theorem dX11_lead_29 : decode cX11_lead 29 = .ok (.getfield 31, 3) := by decide +kernel
theorem dX11_lead_32 : decode cX11_lead 32 = .ok (.bipush 7, 2) := by decide +kernel
theorem dX11_lead_34 : decode cX11_lead 34 = .ok (.iload_n 1, 1) := by decide +kernel
theorem dX11_lead_35 : decode cX11_lead 35 = .ok (.imul, 1) := by decide +kernel
theorem dX11_lead_36 : decode cX11_lead 36 = .ok (.iconst 1, 1) := by decide +kernel
theorem dX11_lead_37 : decode cX11_lead 37 = .ok (.iadd, 1) := by decide +kernel
theorem dX11_lead_38 : decode cX11_lead 38 = .ok (.iaload, 1) := by decide +kernel
theorem dX11_lead_39 : decode cX11_lead 39 = .ok (.istore_n 3, 1) := by decide +kernel
theorem dX11_lead_40 : decode cX11_lead 40 = .ok (.iload_n 2, 1) := by decide +kernel
theorem dX11_lead_41 : decode cX11_lead 41 = .ok (.ifCond .ge 18, 3) := by decide +kernel
theorem dX11_lead_44 : decode cX11_lead 44 = .ok (.iload_n 3, 1) := by decide +kernel
theorem dX11_lead_45 : decode cX11_lead 45 = .ok (.ifCond .lt 14, 3) := by decide +kernel
theorem dX11_lead_48 : decode cX11_lead 48 = .ok (.aload_n 0, 1) := by decide +kernel
theorem dX11_lead_49 : decode cX11_lead 49 = .ok (.invokevirtual 142, 3) := by decide +kernel
theorem dX11_lead_52 : decode cX11_lead 52 = .ok (.iconst 5, 1) := by decide +kernel
theorem dX11_lead_53 : decode cX11_lead 53 = .ok (.if_icmp .ne 6, 3) := by decide +kernel
theorem dX11_lead_56 : decode cX11_lead 56 = .ok (.bipush (-5), 2) := by decide +kernel
theorem dX11_lead_58 : decode cX11_lead 58 = .ok (.ireturn, 1) := by decide +kernel
theorem dX11_lead_59 : decode cX11_lead 59 = .ok (.aload_n 0, 1) := by decide +kernel
theorem dX11_lead_60 : decode cX11_lead 60 = .ok (.getfield 31, 3) := by decide +kernel
theorem dX11_lead_63 : decode cX11_lead 63 = .ok (.bipush 7, 2) := by decide +kernel
theorem dX11_lead_65 : decode cX11_lead 65 = .ok (.iload_n 1, 1) := by decide +kernel
theorem dX11_lead_66 : decode cX11_lead 66 = .ok (.imul, 1) := by decide +kernel
theorem dX11_lead_67 : decode cX11_lead 67 = .ok (.iconst 1, 1) := by decide +kernel
theorem dX11_lead_68 : decode cX11_lead 68 = .ok (.iadd, 1) := by decide +kernel
theorem dX11_lead_69 : decode cX11_lead 69 = .ok (.iload_n 2, 1) := by decide +kernel
theorem dX11_lead_70 : decode cX11_lead 70 = .ok (.iastore, 1) := by decide +kernel
theorem dX11_lead_71 : decode cX11_lead 71 = .ok (.iload_n 3, 1) := by decide +kernel
theorem dX11_lead_72 : decode cX11_lead 72 = .ok (.ireturn, 1) := by decide +kernel
theorem dX11_firstOf_0 : decode cX11_firstOf 0 = .ok (.bipush (-6), 2) := by decide +kernel
theorem dX11_firstOf_2 : decode cX11_firstOf 2 = .ok (.istore_n 3, 1) := by decide +kernel
theorem dX11_firstOf_3 : decode cX11_firstOf 3 = .ok (.iconst 0, 1) := by decide +kernel
theorem dX11_firstOf_4 : decode cX11_firstOf 4 = .ok (.istore 4, 2) := by decide +kernel
theorem dX11_firstOf_6 : decode cX11_firstOf 6 = .ok (.iload 4, 2) := by decide +kernel
theorem dX11_firstOf_8 : decode cX11_firstOf 8 = .ok (.aload_n 0, 1) := by decide +kernel
theorem dX11_firstOf_9 : decode cX11_firstOf 9 = .ok (.getfield 136, 3) := by decide +kernel
theorem dX11_firstOf_12 : decode cX11_firstOf 12 = .ok (.if_icmp .ge 100, 3) := by decide +kernel
theorem dX11_firstOf_15 : decode cX11_firstOf 15 = .ok (.aload_n 0, 1) := by decide +kernel
theorem dX11_firstOf_16 : decode cX11_firstOf 16 = .ok (.getfield 31, 3) := by decide +kernel
theorem dX11_firstOf_19 : decode cX11_firstOf 19 = .ok (.bipush 7, 2) := by decide +kernel
theorem dX11_firstOf_21 : decode cX11_firstOf 21 = .ok (.iload 4, 2) := by decide +kernel
theorem dX11_firstOf_23 : decode cX11_firstOf 23 = .ok (.imul, 1) := by decide +kernel
theorem dX11_firstOf_24 : decode cX11_firstOf 24 = .ok (.iconst 1, 1) := by decide +kernel
theorem dX11_firstOf_25 : decode cX11_firstOf 25 = .ok (.iadd, 1) := by decide +kernel
theorem dX11_firstOf_26 : decode cX11_firstOf 26 = .ok (.iaload, 1) := by decide +kernel
theorem dX11_firstOf_27 : decode cX11_firstOf 27 = .ok (.iload_n 1, 1) := by decide +kernel
theorem dX11_firstOf_28 : decode cX11_firstOf 28 = .ok (.if_icmp .ne 33, 3) := by decide +kernel
theorem dX11_firstOf_31 : decode cX11_firstOf 31 = .ok (.aload_n 0, 1) := by decide +kernel
theorem dX11_firstOf_32 : decode cX11_firstOf 32 = .ok (.getfield 85, 3) := by decide +kernel
theorem dX11_firstOf_35 : decode cX11_firstOf 35 = .ok (.iload 4, 2) := by decide +kernel
theorem dX11_firstOf_37 : decode cX11_firstOf 37 = .ok (.iaload, 1) := by decide +kernel
theorem dX11_firstOf_38 : decode cX11_firstOf 38 = .ok (.ifCond .le 23, 3) := by decide +kernel
theorem dX11_firstOf_41 : decode cX11_firstOf 41 = .ok (.aload_n 0, 1) := by decide +kernel
theorem dX11_firstOf_42 : decode cX11_firstOf 42 = .ok (.getfield 31, 3) := by decide +kernel
theorem dX11_firstOf_45 : decode cX11_firstOf 45 = .ok (.bipush 7, 2) := by decide +kernel
theorem dX11_firstOf_47 : decode cX11_firstOf 47 = .ok (.iload 4, 2) := by decide +kernel
theorem dX11_firstOf_49 : decode cX11_firstOf 49 = .ok (.imul, 1) := by decide +kernel
theorem dX11_firstOf_50 : decode cX11_firstOf 50 = .ok (.iconst 2, 1) := by decide +kernel
theorem dX11_firstOf_51 : decode cX11_firstOf 51 = .ok (.iadd, 1) := by decide +kernel
theorem dX11_firstOf_52 : decode cX11_firstOf 52 = .ok (.iaload, 1) := by decide +kernel
theorem dX11_firstOf_53 : decode cX11_firstOf 53 = .ok (.iload_n 2, 1) := by decide +kernel
theorem dX11_firstOf_54 : decode cX11_firstOf 54 = .ok (.if_icmp .gt 7, 3) := by decide +kernel
theorem dX11_firstOf_57 : decode cX11_firstOf 57 = .ok (.iconst 1, 1) := by decide +kernel
theorem dX11_firstOf_58 : decode cX11_firstOf 58 = .ok (.goto 4, 3) := by decide +kernel
theorem dX11_firstOf_61 : decode cX11_firstOf 61 = .ok (.iconst 0, 1) := by decide +kernel
theorem dX11_firstOf_62 : decode cX11_firstOf 62 = .ok (.istore 5, 2) := by decide +kernel
theorem dX11_firstOf_64 : decode cX11_firstOf 64 = .ok (.iload 5, 2) := by decide +kernel
theorem dX11_firstOf_66 : decode cX11_firstOf 66 = .ok (.ifCond .eq 38, 3) := by decide +kernel
theorem dX11_firstOf_69 : decode cX11_firstOf 69 = .ok (.iload_n 3, 1) := by decide +kernel
theorem dX11_firstOf_70 : decode cX11_firstOf 70 = .ok (.ifCond .lt 29, 3) := by decide +kernel
theorem dX11_firstOf_73 : decode cX11_firstOf 73 = .ok (.aload_n 0, 1) := by decide +kernel
theorem dX11_firstOf_74 : decode cX11_firstOf 74 = .ok (.getfield 31, 3) := by decide +kernel
theorem dX11_firstOf_77 : decode cX11_firstOf 77 = .ok (.bipush 7, 2) := by decide +kernel
theorem dX11_firstOf_79 : decode cX11_firstOf 79 = .ok (.iload 4, 2) := by decide +kernel
theorem dX11_firstOf_81 : decode cX11_firstOf 81 = .ok (.imul, 1) := by decide +kernel
theorem dX11_firstOf_82 : decode cX11_firstOf 82 = .ok (.iconst 2, 1) := by decide +kernel
theorem dX11_firstOf_83 : decode cX11_firstOf 83 = .ok (.iadd, 1) := by decide +kernel
theorem dX11_firstOf_84 : decode cX11_firstOf 84 = .ok (.iaload, 1) := by decide +kernel
theorem dX11_firstOf_85 : decode cX11_firstOf 85 = .ok (.aload_n 0, 1) := by decide +kernel
theorem dX11_firstOf_86 : decode cX11_firstOf 86 = .ok (.getfield 31, 3) := by decide +kernel
theorem dX11_firstOf_89 : decode cX11_firstOf 89 = .ok (.bipush 7, 2) := by decide +kernel
theorem dX11_firstOf_91 : decode cX11_firstOf 91 = .ok (.iload_n 3, 1) := by decide +kernel
theorem dX11_firstOf_92 : decode cX11_firstOf 92 = .ok (.imul, 1) := by decide +kernel
theorem dX11_firstOf_93 : decode cX11_firstOf 93 = .ok (.iconst 2, 1) := by decide +kernel
theorem dX11_firstOf_94 : decode cX11_firstOf 94 = .ok (.iadd, 1) := by decide +kernel
theorem dX11_firstOf_95 : decode cX11_firstOf 95 = .ok (.iaload, 1) := by decide +kernel
theorem dX11_firstOf_96 : decode cX11_firstOf 96 = .ok (.if_icmp .ge 8, 3) := by decide +kernel
theorem dX11_firstOf_99 : decode cX11_firstOf 99 = .ok (.iload 4, 2) := by decide +kernel
theorem dX11_firstOf_101 : decode cX11_firstOf 101 = .ok (.goto 4, 3) := by decide +kernel
theorem dX11_firstOf_104 : decode cX11_firstOf 104 = .ok (.iload_n 3, 1) := by decide +kernel
theorem dX11_firstOf_105 : decode cX11_firstOf 105 = .ok (.istore_n 3, 1) := by decide +kernel
theorem dX11_firstOf_106 : decode cX11_firstOf 106 = .ok (.iinc 4 1, 3) := by decide +kernel
theorem dX11_firstOf_109 : decode cX11_firstOf 109 = .ok (.goto (-103), 3) := by decide +kernel
theorem dX11_firstOf_112 : decode cX11_firstOf 112 = .ok (.iload_n 3, 1) := by decide +kernel
theorem dX11_firstOf_113 : decode cX11_firstOf 113 = .ok (.ireturn, 1) := by decide +kernel
theorem dX11_nextHour_0 : decode cX11_nextHour 0 = .ok (.bipush (-6), 2) := by decide +kernel
theorem dX11_nextHour_2 : decode cX11_nextHour 2 = .ok (.istore_n 2, 1) := by decide +kernel
theorem dX11_nextHour_3 : decode cX11_nextHour 3 = .ok (.iconst 0, 1) := by decide +kernel
theorem dX11_nextHour_4 : decode cX11_nextHour 4 = .ok (.istore_n 3, 1) := by decide +kernel
theorem dX11_nextHour_5 : decode cX11_nextHour 5 = .ok (.iload_n 3, 1) := by decide +kernel
theorem dX11_nextHour_6 : decode cX11_nextHour 6 = .ok (.aload_n 0, 1) := by decide +kernel
theorem dX11_nextHour_7 : decode cX11_nextHour 7 = .ok (.getfield 136, 3) := by decide +kernel
theorem dX11_nextHour_10 : decode cX11_nextHour 10 = .ok (.if_icmp .ge 80, 3) := by decide +kernel
theorem dX11_nextHour_13 : decode cX11_nextHour 13 = .ok (.aload_n 0, 1) := by decide +kernel
theorem dX11_nextHour_14 : decode cX11_nextHour 14 = .ok (.getfield 31, 3) := by decide +kernel
theorem dX11_nextHour_17 : decode cX11_nextHour 17 = .ok (.bipush 7, 2) := by decide +kernel
theorem dX11_nextHour_19 : decode cX11_nextHour 19 = .ok (.iload_n 3, 1) := by decide +kernel
theorem dX11_nextHour_20 : decode cX11_nextHour 20 = .ok (.imul, 1) := by decide +kernel
theorem dX11_nextHour_21 : decode cX11_nextHour 21 = .ok (.iconst 1, 1) := by decide +kernel
theorem dX11_nextHour_22 : decode cX11_nextHour 22 = .ok (.iadd, 1) := by decide +kernel
theorem dX11_nextHour_23 : decode cX11_nextHour 23 = .ok (.iaload, 1) := by decide +kernel
theorem dX11_nextHour_24 : decode cX11_nextHour 24 = .ok (.iload_n 1, 1) := by decide +kernel
theorem dX11_nextHour_25 : decode cX11_nextHour 25 = .ok (.if_icmp .ne 16, 3) := by decide +kernel
theorem dX11_nextHour_28 : decode cX11_nextHour 28 = .ok (.aload_n 0, 1) := by decide +kernel
theorem dX11_nextHour_29 : decode cX11_nextHour 29 = .ok (.getfield 85, 3) := by decide +kernel
theorem dX11_nextHour_32 : decode cX11_nextHour 32 = .ok (.iload_n 3, 1) := by decide +kernel
theorem dX11_nextHour_33 : decode cX11_nextHour 33 = .ok (.iaload, 1) := by decide +kernel
theorem dX11_nextHour_34 : decode cX11_nextHour 34 = .ok (.ifCond .le 7, 3) := by decide +kernel
theorem dX11_nextHour_37 : decode cX11_nextHour 37 = .ok (.iconst 1, 1) := by decide +kernel
theorem dX11_nextHour_38 : decode cX11_nextHour 38 = .ok (.goto 4, 3) := by decide +kernel
theorem dX11_nextHour_41 : decode cX11_nextHour 41 = .ok (.iconst 0, 1) := by decide +kernel
theorem dX11_nextHour_42 : decode cX11_nextHour 42 = .ok (.istore 4, 2) := by decide +kernel
theorem dX11_nextHour_44 : decode cX11_nextHour 44 = .ok (.iload 4, 2) := by decide +kernel
theorem dX11_nextHour_46 : decode cX11_nextHour 46 = .ok (.ifCond .eq 36, 3) := by decide +kernel
theorem dX11_nextHour_49 : decode cX11_nextHour 49 = .ok (.iload_n 2, 1) := by decide +kernel
theorem dX11_nextHour_50 : decode cX11_nextHour 50 = .ok (.ifCond .lt 18, 3) := by decide +kernel
theorem dX11_nextHour_53 : decode cX11_nextHour 53 = .ok (.aload_n 0, 1) := by decide +kernel
theorem dX11_nextHour_54 : decode cX11_nextHour 54 = .ok (.getfield 31, 3) := by decide +kernel
theorem dX11_nextHour_57 : decode cX11_nextHour 57 = .ok (.bipush 7, 2) := by decide +kernel
theorem dX11_nextHour_59 : decode cX11_nextHour 59 = .ok (.iload_n 3, 1) := by decide +kernel
theorem dX11_nextHour_60 : decode cX11_nextHour 60 = .ok (.imul, 1) := by decide +kernel
theorem dX11_nextHour_61 : decode cX11_nextHour 61 = .ok (.iconst 2, 1) := by decide +kernel
theorem dX11_nextHour_62 : decode cX11_nextHour 62 = .ok (.iadd, 1) := by decide +kernel
theorem dX11_nextHour_63 : decode cX11_nextHour 63 = .ok (.iaload, 1) := by decide +kernel
theorem dX11_nextHour_64 : decode cX11_nextHour 64 = .ok (.iload_n 2, 1) := by decide +kernel
theorem dX11_nextHour_65 : decode cX11_nextHour 65 = .ok (.if_icmp .ge 17, 3) := by decide +kernel
theorem dX11_nextHour_68 : decode cX11_nextHour 68 = .ok (.aload_n 0, 1) := by decide +kernel
theorem dX11_nextHour_69 : decode cX11_nextHour 69 = .ok (.getfield 31, 3) := by decide +kernel
theorem dX11_nextHour_72 : decode cX11_nextHour 72 = .ok (.bipush 7, 2) := by decide +kernel
theorem dX11_nextHour_74 : decode cX11_nextHour 74 = .ok (.iload_n 3, 1) := by decide +kernel
theorem dX11_nextHour_75 : decode cX11_nextHour 75 = .ok (.imul, 1) := by decide +kernel
theorem dX11_nextHour_76 : decode cX11_nextHour 76 = .ok (.iconst 2, 1) := by decide +kernel
theorem dX11_nextHour_77 : decode cX11_nextHour 77 = .ok (.iadd, 1) := by decide +kernel
theorem dX11_nextHour_78 : decode cX11_nextHour 78 = .ok (.iaload, 1) := by decide +kernel
theorem dX11_nextHour_79 : decode cX11_nextHour 79 = .ok (.goto 4, 3) := by decide +kernel
theorem dX11_nextHour_82 : decode cX11_nextHour 82 = .ok (.iload_n 2, 1) := by decide +kernel
theorem dX11_nextHour_83 : decode cX11_nextHour 83 = .ok (.istore_n 2, 1) := by decide +kernel
theorem dX11_nextHour_84 : decode cX11_nextHour 84 = .ok (.iinc 3 1, 3) := by decide +kernel
theorem dX11_nextHour_87 : decode cX11_nextHour 87 = .ok (.goto (-82), 3) := by decide +kernel
theorem dX11_nextHour_90 : decode cX11_nextHour 90 = .ok (.iload_n 2, 1) := by decide +kernel
theorem dX11_nextHour_91 : decode cX11_nextHour 91 = .ok (.ireturn, 1) := by decide +kernel
theorem dX11_workQuay_0 : decode cX11_workQuay 0 = .ok (.aload_n 0, 1) := by decide +kernel
theorem dX11_workQuay_1 : decode cX11_workQuay 1 = .ok (.iconst 0, 1) := by decide +kernel
theorem dX11_workQuay_2 : decode cX11_workQuay 2 = .ok (.putfield 145, 3) := by decide +kernel
theorem dX11_workQuay_5 : decode cX11_workQuay 5 = .ok (.aload_n 0, 1) := by decide +kernel
theorem dX11_workQuay_6 : decode cX11_workQuay 6 = .ok (.iconst 0, 1) := by decide +kernel
theorem dX11_workQuay_7 : decode cX11_workQuay 7 = .ok (.putfield 148, 3) := by decide +kernel
theorem dX11_workQuay_10 : decode cX11_workQuay 10 = .ok (.aload_n 0, 1) := by decide +kernel
theorem dX11_workQuay_11 : decode cX11_workQuay 11 = .ok (.iconst 0, 1) := by decide +kernel
theorem dX11_workQuay_12 : decode cX11_workQuay 12 = .ok (.putfield 151, 3) := by decide +kernel
theorem dX11_workQuay_15 : decode cX11_workQuay 15 = .ok (.iconst 0, 1) := by decide +kernel
theorem dX11_workQuay_16 : decode cX11_workQuay 16 = .ok (.istore_n 2, 1) := by decide +kernel
theorem dX11_workQuay_17 : decode cX11_workQuay 17 = .ok (.iload_n 2, 1) := by decide +kernel
theorem dX11_workQuay_18 : decode cX11_workQuay 18 = .ok (.aload_n 0, 1) := by decide +kernel
theorem dX11_workQuay_19 : decode cX11_workQuay 19 = .ok (.getfield 136, 3) := by decide +kernel
theorem dX11_workQuay_22 : decode cX11_workQuay 22 = .ok (.if_icmp .ge 86, 3) := by decide +kernel
theorem dX11_workQuay_25 : decode cX11_workQuay 25 = .ok (.aload_n 0, 1) := by decide +kernel
theorem dX11_workQuay_26 : decode cX11_workQuay 26 = .ok (.getfield 85, 3) := by decide +kernel
theorem dX11_workQuay_29 : decode cX11_workQuay 29 = .ok (.iload_n 2, 1) := by decide +kernel
theorem dX11_workQuay_30 : decode cX11_workQuay 30 = .ok (.aload_n 0, 1) := by decide +kernel
theorem dX11_workQuay_31 : decode cX11_workQuay 31 = .ok (.getfield 31, 3) := by decide +kernel
theorem dX11_workQuay_34 : decode cX11_workQuay 34 = .ok (.bipush 7, 2) := by decide +kernel
theorem dX11_workQuay_36 : decode cX11_workQuay 36 = .ok (.iload_n 2, 1) := by decide +kernel
theorem dX11_workQuay_37 : decode cX11_workQuay 37 = .ok (.imul, 1) := by decide +kernel
theorem dX11_workQuay_38 : decode cX11_workQuay 38 = .ok (.iconst 1, 1) := by decide +kernel
theorem dX11_workQuay_39 : decode cX11_workQuay 39 = .ok (.iadd, 1) := by decide +kernel
theorem dX11_workQuay_40 : decode cX11_workQuay 40 = .ok (.iaload, 1) := by decide +kernel
theorem dX11_workQuay_41 : decode cX11_workQuay 41 = .ok (.iload_n 1, 1) := by decide +kernel
theorem dX11_workQuay_42 : decode cX11_workQuay 42 = .ok (.if_icmp .ne 17, 3) := by decide +kernel
theorem dX11_workQuay_45 : decode cX11_workQuay 45 = .ok (.aload_n 0, 1) := by decide +kernel
theorem dX11_workQuay_46 : decode cX11_workQuay 46 = .ok (.getfield 31, 3) := by decide +kernel
theorem dX11_workQuay_49 : decode cX11_workQuay 49 = .ok (.bipush 7, 2) := by decide +kernel
theorem dX11_workQuay_51 : decode cX11_workQuay 51 = .ok (.iload_n 2, 1) := by decide +kernel
theorem dX11_workQuay_52 : decode cX11_workQuay 52 = .ok (.imul, 1) := by decide +kernel
theorem dX11_workQuay_53 : decode cX11_workQuay 53 = .ok (.iconst 3, 1) := by decide +kernel
theorem dX11_workQuay_54 : decode cX11_workQuay 54 = .ok (.iadd, 1) := by decide +kernel
theorem dX11_workQuay_55 : decode cX11_workQuay 55 = .ok (.iaload, 1) := by decide +kernel
theorem dX11_workQuay_56 : decode cX11_workQuay 56 = .ok (.goto 4, 3) := by decide +kernel
theorem dX11_workQuay_59 : decode cX11_workQuay 59 = .ok (.iconst 0, 1) := by decide +kernel
theorem dX11_workQuay_60 : decode cX11_workQuay 60 = .ok (.iastore, 1) := by decide +kernel
theorem dX11_workQuay_61 : decode cX11_workQuay 61 = .ok (.aload_n 0, 1) := by decide +kernel
theorem dX11_workQuay_62 : decode cX11_workQuay 62 = .ok (.getfield 31, 3) := by decide +kernel
theorem dX11_workQuay_65 : decode cX11_workQuay 65 = .ok (.bipush 7, 2) := by decide +kernel
theorem dX11_workQuay_67 : decode cX11_workQuay 67 = .ok (.iload_n 2, 1) := by decide +kernel
theorem dX11_workQuay_68 : decode cX11_workQuay 68 = .ok (.imul, 1) := by decide +kernel
theorem dX11_workQuay_69 : decode cX11_workQuay 69 = .ok (.iconst 1, 1) := by decide +kernel
theorem dX11_workQuay_70 : decode cX11_workQuay 70 = .ok (.iadd, 1) := by decide +kernel
theorem dX11_workQuay_71 : decode cX11_workQuay 71 = .ok (.iaload, 1) := by decide +kernel
theorem dX11_workQuay_72 : decode cX11_workQuay 72 = .ok (.iload_n 1, 1) := by decide +kernel
theorem dX11_workQuay_73 : decode cX11_workQuay 73 = .ok (.if_icmp .ne 29, 3) := by decide +kernel
theorem dX11_workQuay_76 : decode cX11_workQuay 76 = .ok (.aload_n 0, 1) := by decide +kernel
theorem dX11_workQuay_77 : decode cX11_workQuay 77 = .ok (.getfield 31, 3) := by decide +kernel
theorem dX11_workQuay_80 : decode cX11_workQuay 80 = .ok (.bipush 7, 2) := by decide +kernel
theorem dX11_workQuay_82 : decode cX11_workQuay 82 = .ok (.iload_n 2, 1) := by decide +kernel
theorem dX11_workQuay_83 : decode cX11_workQuay 83 = .ok (.imul, 1) := by decide +kernel
theorem dX11_workQuay_84 : decode cX11_workQuay 84 = .ok (.iconst 5, 1) := by decide +kernel
theorem dX11_workQuay_85 : decode cX11_workQuay 85 = .ok (.iadd, 1) := by decide +kernel
theorem dX11_workQuay_86 : decode cX11_workQuay 86 = .ok (.iconst 0, 1) := by decide +kernel
theorem dX11_workQuay_87 : decode cX11_workQuay 87 = .ok (.iastore, 1) := by decide +kernel
theorem dX11_workQuay_88 : decode cX11_workQuay 88 = .ok (.aload_n 0, 1) := by decide +kernel
theorem dX11_workQuay_89 : decode cX11_workQuay 89 = .ok (.getfield 31, 3) := by decide +kernel
theorem dX11_workQuay_92 : decode cX11_workQuay 92 = .ok (.bipush 7, 2) := by decide +kernel
theorem dX11_workQuay_94 : decode cX11_workQuay 94 = .ok (.iload_n 2, 1) := by decide +kernel
theorem dX11_workQuay_95 : decode cX11_workQuay 95 = .ok (.imul, 1) := by decide +kernel
theorem dX11_workQuay_96 : decode cX11_workQuay 96 = .ok (.bipush 6, 2) := by decide +kernel
theorem dX11_workQuay_98 : decode cX11_workQuay 98 = .ok (.iadd, 1) := by decide +kernel
theorem dX11_workQuay_99 : decode cX11_workQuay 99 = .ok (.bipush (-6), 2) := by decide +kernel
theorem dX11_workQuay_101 : decode cX11_workQuay 101 = .ok (.iastore, 1) := by decide +kernel
theorem dX11_workQuay_102 : decode cX11_workQuay 102 = .ok (.iinc 2 1, 3) := by decide +kernel
theorem dX11_workQuay_105 : decode cX11_workQuay 105 = .ok (.goto (-88), 3) := by decide +kernel
theorem dX11_workQuay_108 : decode cX11_workQuay 108 = .ok (.aload_n 0, 1) := by decide +kernel
theorem dX11_workQuay_109 : decode cX11_workQuay 109 = .ok (.iload_n 1, 1) := by decide +kernel
theorem dX11_workQuay_110 : decode cX11_workQuay 110 = .ok (.invokevirtual 154, 3) := by decide +kernel
theorem dX11_workQuay_113 : decode cX11_workQuay 113 = .ok (.istore_n 2, 1) := by decide +kernel
theorem dX11_workQuay_114 : decode cX11_workQuay 114 = .ok (.iload_n 2, 1) := by decide +kernel
theorem dX11_workQuay_115 : decode cX11_workQuay 115 = .ok (.ifCond .lt 274, 3) := by decide +kernel
theorem dX11_workQuay_118 : decode cX11_workQuay 118 = .ok (.iconst 0, 1) := by decide +kernel
theorem dX11_workQuay_119 : decode cX11_workQuay 119 = .ok (.istore_n 3, 1) := by decide +kernel
theorem dX11_workQuay_120 : decode cX11_workQuay 120 = .ok (.iload_n 3, 1) := by decide +kernel
theorem dX11_workQuay_121 : decode cX11_workQuay 121 = .ok (.aload_n 0, 1) := by decide +kernel
theorem dX11_workQuay_122 : decode cX11_workQuay 122 = .ok (.getfield 136, 3) := by decide +kernel
theorem dX11_workQuay_125 : decode cX11_workQuay 125 = .ok (.if_icmp .ge 79, 3) := by decide +kernel
theorem dX11_workQuay_128 : decode cX11_workQuay 128 = .ok (.aload_n 0, 1) := by decide +kernel
theorem dX11_workQuay_129 : decode cX11_workQuay 129 = .ok (.getfield 85, 3) := by decide +kernel
theorem dX11_workQuay_132 : decode cX11_workQuay 132 = .ok (.iload_n 3, 1) := by decide +kernel
theorem dX11_workQuay_133 : decode cX11_workQuay 133 = .ok (.iaload, 1) := by decide +kernel
theorem dX11_workQuay_134 : decode cX11_workQuay 134 = .ok (.ifCond .le 64, 3) := by decide +kernel
theorem dX11_workQuay_137 : decode cX11_workQuay 137 = .ok (.aload_n 0, 1) := by decide +kernel
theorem dX11_workQuay_138 : decode cX11_workQuay 138 = .ok (.getfield 31, 3) := by decide +kernel
theorem dX11_workQuay_141 : decode cX11_workQuay 141 = .ok (.bipush 7, 2) := by decide +kernel
theorem dX11_workQuay_143 : decode cX11_workQuay 143 = .ok (.iload_n 3, 1) := by decide +kernel
theorem dX11_workQuay_144 : decode cX11_workQuay 144 = .ok (.imul, 1) := by decide +kernel
theorem dX11_workQuay_145 : decode cX11_workQuay 145 = .ok (.iconst 2, 1) := by decide +kernel
theorem dX11_workQuay_146 : decode cX11_workQuay 146 = .ok (.iadd, 1) := by decide +kernel
theorem dX11_workQuay_147 : decode cX11_workQuay 147 = .ok (.iaload, 1) := by decide +kernel
theorem dX11_workQuay_148 : decode cX11_workQuay 148 = .ok (.aload_n 0, 1) := by decide +kernel
theorem dX11_workQuay_149 : decode cX11_workQuay 149 = .ok (.getfield 28, 3) := by decide +kernel
theorem dX11_workQuay_152 : decode cX11_workQuay 152 = .ok (.iconst 0, 1) := by decide +kernel
theorem dX11_workQuay_153 : decode cX11_workQuay 153 = .ok (.iaload, 1) := by decide +kernel
theorem dX11_workQuay_154 : decode cX11_workQuay 154 = .ok (.iadd, 1) := by decide +kernel
theorem dX11_workQuay_155 : decode cX11_workQuay 155 = .ok (.iload_n 2, 1) := by decide +kernel
theorem dX11_workQuay_156 : decode cX11_workQuay 156 = .ok (.if_icmp .gt 42, 3) := by decide +kernel
theorem dX11_workQuay_159 : decode cX11_workQuay 159 = .ok (.aload_n 0, 1) := by decide +kernel
theorem dX11_workQuay_160 : decode cX11_workQuay 160 = .ok (.getfield 31, 3) := by decide +kernel
theorem dX11_workQuay_163 : decode cX11_workQuay 163 = .ok (.bipush 7, 2) := by decide +kernel
theorem dX11_workQuay_165 : decode cX11_workQuay 165 = .ok (.iload_n 3, 1) := by decide +kernel
theorem dX11_workQuay_166 : decode cX11_workQuay 166 = .ok (.imul, 1) := by decide +kernel
theorem dX11_workQuay_167 : decode cX11_workQuay 167 = .ok (.iconst 5, 1) := by decide +kernel
theorem dX11_workQuay_168 : decode cX11_workQuay 168 = .ok (.iadd, 1) := by decide +kernel
theorem dX11_workQuay_169 : decode cX11_workQuay 169 = .ok (.aload_n 0, 1) := by decide +kernel
theorem dX11_workQuay_170 : decode cX11_workQuay 170 = .ok (.getfield 85, 3) := by decide +kernel
theorem dX11_workQuay_173 : decode cX11_workQuay 173 = .ok (.iload_n 3, 1) := by decide +kernel
theorem dX11_workQuay_174 : decode cX11_workQuay 174 = .ok (.iaload, 1) := by decide +kernel
theorem dX11_workQuay_175 : decode cX11_workQuay 175 = .ok (.iastore, 1) := by decide +kernel
theorem dX11_workQuay_176 : decode cX11_workQuay 176 = .ok (.aload_n 0, 1) := by decide +kernel
theorem dX11_workQuay_177 : decode cX11_workQuay 177 = .ok (.dup, 1) := by decide +kernel
theorem dX11_workQuay_178 : decode cX11_workQuay 178 = .ok (.getfield 151, 3) := by decide +kernel
theorem dX11_workQuay_181 : decode cX11_workQuay 181 = .ok (.aload_n 0, 1) := by decide +kernel
theorem dX11_workQuay_182 : decode cX11_workQuay 182 = .ok (.getfield 85, 3) := by decide +kernel
theorem dX11_workQuay_185 : decode cX11_workQuay 185 = .ok (.iload_n 3, 1) := by decide +kernel
theorem dX11_workQuay_186 : decode cX11_workQuay 186 = .ok (.iaload, 1) := by decide +kernel
theorem dX11_workQuay_187 : decode cX11_workQuay 187 = .ok (.iadd, 1) := by decide +kernel
theorem dX11_workQuay_188 : decode cX11_workQuay 188 = .ok (.putfield 151, 3) := by decide +kernel
theorem dX11_workQuay_191 : decode cX11_workQuay 191 = .ok (.aload_n 0, 1) := by decide +kernel
theorem dX11_workQuay_192 : decode cX11_workQuay 192 = .ok (.getfield 85, 3) := by decide +kernel
theorem dX11_workQuay_195 : decode cX11_workQuay 195 = .ok (.iload_n 3, 1) := by decide +kernel
theorem dX11_workQuay_196 : decode cX11_workQuay 196 = .ok (.iconst 0, 1) := by decide +kernel
theorem dX11_workQuay_197 : decode cX11_workQuay 197 = .ok (.iastore, 1) := by decide +kernel
theorem dX11_workQuay_198 : decode cX11_workQuay 198 = .ok (.iinc 3 1, 3) := by decide +kernel
theorem dX11_workQuay_201 : decode cX11_workQuay 201 = .ok (.goto (-81), 3) := by decide +kernel
theorem dX11_workQuay_204 : decode cX11_workQuay 204 = .ok (.aload_n 0, 1) := by decide +kernel
theorem dX11_workQuay_205 : decode cX11_workQuay 205 = .ok (.getfield 22, 3) := by decide +kernel
theorem dX11_workQuay_208 : decode cX11_workQuay 208 = .ok (.iload_n 1, 1) := by decide +kernel
theorem dX11_workQuay_209 : decode cX11_workQuay 209 = .ok (.iaload, 1) := by decide +kernel
theorem dX11_workQuay_210 : decode cX11_workQuay 210 = .ok (.aload_n 0, 1) := by decide +kernel
theorem dX11_workQuay_211 : decode cX11_workQuay 211 = .ok (.getfield 25, 3) := by decide +kernel
theorem dX11_workQuay_214 : decode cX11_workQuay 214 = .ok (.iload_n 1, 1) := by decide +kernel
theorem dX11_workQuay_215 : decode cX11_workQuay 215 = .ok (.iaload, 1) := by decide +kernel
theorem dX11_workQuay_216 : decode cX11_workQuay 216 = .ok (.imul, 1) := by decide +kernel
theorem dX11_workQuay_217 : decode cX11_workQuay 217 = .ok (.istore_n 3, 1) := by decide +kernel
theorem dX11_workQuay_218 : decode cX11_workQuay 218 = .ok (.aload_n 0, 1) := by decide +kernel
theorem dX11_workQuay_219 : decode cX11_workQuay 219 = .ok (.iload_n 1, 1) := by decide +kernel
theorem dX11_workQuay_220 : decode cX11_workQuay 220 = .ok (.iload_n 2, 1) := by decide +kernel
theorem dX11_workQuay_221 : decode cX11_workQuay 221 = .ok (.invokevirtual 157, 3) := by decide +kernel
theorem dX11_workQuay_224 : decode cX11_workQuay 224 = .ok (.istore 4, 2) := by decide +kernel
theorem dX11_workQuay_226 : decode cX11_workQuay 226 = .ok (.iload 4, 2) := by decide +kernel
theorem dX11_workQuay_228 : decode cX11_workQuay 228 = .ok (.ifCond .lt 126, 3) := by decide +kernel
theorem dX11_workQuay_231 : decode cX11_workQuay 231 = .ok (.iload_n 3, 1) := by decide +kernel
theorem dX11_workQuay_232 : decode cX11_workQuay 232 = .ok (.ifCond .le 122, 3) := by decide +kernel
theorem dX11_workQuay_235 : decode cX11_workQuay 235 = .ok (.aload_n 0, 1) := by decide +kernel
theorem dX11_workQuay_236 : decode cX11_workQuay 236 = .ok (.getfield 85, 3) := by decide +kernel
theorem dX11_workQuay_239 : decode cX11_workQuay 239 = .ok (.iload 4, 2) := by decide +kernel
theorem dX11_workQuay_241 : decode cX11_workQuay 241 = .ok (.iaload, 1) := by decide +kernel
theorem dX11_workQuay_242 : decode cX11_workQuay 242 = .ok (.iload_n 3, 1) := by decide +kernel
theorem dX11_workQuay_243 : decode cX11_workQuay 243 = .ok (.if_icmp .ge 13, 3) := by decide +kernel
theorem dX11_workQuay_246 : decode cX11_workQuay 246 = .ok (.aload_n 0, 1) := by decide +kernel
theorem dX11_workQuay_247 : decode cX11_workQuay 247 = .ok (.getfield 85, 3) := by decide +kernel
theorem dX11_workQuay_250 : decode cX11_workQuay 250 = .ok (.iload 4, 2) := by decide +kernel
theorem dX11_workQuay_252 : decode cX11_workQuay 252 = .ok (.iaload, 1) := by decide +kernel
theorem dX11_workQuay_253 : decode cX11_workQuay 253 = .ok (.goto 4, 3) := by decide +kernel
theorem dX11_workQuay_256 : decode cX11_workQuay 256 = .ok (.iload_n 3, 1) := by decide +kernel
theorem dX11_workQuay_257 : decode cX11_workQuay 257 = .ok (.istore 5, 2) := by decide +kernel
theorem dX11_workQuay_259 : decode cX11_workQuay 259 = .ok (.aload_n 0, 1) := by decide +kernel
theorem dX11_workQuay_260 : decode cX11_workQuay 260 = .ok (.getfield 76, 3) := by decide +kernel
theorem dX11_workQuay_263 : decode cX11_workQuay 263 = .ok (.aload_n 0, 1) := by decide +kernel
theorem dX11_workQuay_264 : decode cX11_workQuay 264 = .ok (.getfield 145, 3) := by decide +kernel
theorem dX11_workQuay_267 : decode cX11_workQuay 267 = .ok (.iload 4, 2) := by decide +kernel
theorem dX11_workQuay_269 : decode cX11_workQuay 269 = .ok (.iastore, 1) := by decide +kernel
theorem dX11_workQuay_270 : decode cX11_workQuay 270 = .ok (.aload_n 0, 1) := by decide +kernel
theorem dX11_workQuay_271 : decode cX11_workQuay 271 = .ok (.getfield 79, 3) := by decide +kernel
theorem dX11_workQuay_274 : decode cX11_workQuay 274 = .ok (.aload_n 0, 1) := by decide +kernel
theorem dX11_workQuay_275 : decode cX11_workQuay 275 = .ok (.getfield 145, 3) := by decide +kernel
theorem dX11_workQuay_278 : decode cX11_workQuay 278 = .ok (.iload_n 2, 1) := by decide +kernel
theorem dX11_workQuay_279 : decode cX11_workQuay 279 = .ok (.iastore, 1) := by decide +kernel
theorem dX11_workQuay_280 : decode cX11_workQuay 280 = .ok (.aload_n 0, 1) := by decide +kernel
theorem dX11_workQuay_281 : decode cX11_workQuay 281 = .ok (.getfield 82, 3) := by decide +kernel
theorem dX11_workQuay_284 : decode cX11_workQuay 284 = .ok (.aload_n 0, 1) := by decide +kernel
theorem dX11_workQuay_285 : decode cX11_workQuay 285 = .ok (.getfield 145, 3) := by decide +kernel
theorem dX11_workQuay_288 : decode cX11_workQuay 288 = .ok (.iload 5, 2) := by decide +kernel
theorem dX11_workQuay_290 : decode cX11_workQuay 290 = .ok (.iastore, 1) := by decide +kernel
theorem dX11_workQuay_291 : decode cX11_workQuay 291 = .ok (.aload_n 0, 1) := by decide +kernel
theorem dX11_workQuay_292 : decode cX11_workQuay 292 = .ok (.dup, 1) := by decide +kernel
theorem dX11_workQuay_293 : decode cX11_workQuay 293 = .ok (.getfield 145, 3) := by decide +kernel
theorem dX11_workQuay_296 : decode cX11_workQuay 296 = .ok (.iconst 1, 1) := by decide +kernel
theorem dX11_workQuay_297 : decode cX11_workQuay 297 = .ok (.iadd, 1) := by decide +kernel
theorem dX11_workQuay_298 : decode cX11_workQuay 298 = .ok (.putfield 145, 3) := by decide +kernel
theorem dX11_workQuay_301 : decode cX11_workQuay 301 = .ok (.aload_n 0, 1) := by decide +kernel
theorem dX11_workQuay_302 : decode cX11_workQuay 302 = .ok (.getfield 85, 3) := by decide +kernel
theorem dX11_workQuay_305 : decode cX11_workQuay 305 = .ok (.iload 4, 2) := by decide +kernel
theorem dX11_workQuay_307 : decode cX11_workQuay 307 = .ok (.dup2, 1) := by decide +kernel
theorem dX11_workQuay_308 : decode cX11_workQuay 308 = .ok (.iaload, 1) := by decide +kernel
theorem dX11_workQuay_309 : decode cX11_workQuay 309 = .ok (.iload 5, 2) := by decide +kernel
theorem dX11_workQuay_311 : decode cX11_workQuay 311 = .ok (.isub, 1) := by decide +kernel
theorem dX11_workQuay_312 : decode cX11_workQuay 312 = .ok (.iastore, 1) := by decide +kernel
theorem dX11_workQuay_313 : decode cX11_workQuay 313 = .ok (.iload_n 3, 1) := by decide +kernel
theorem dX11_workQuay_314 : decode cX11_workQuay 314 = .ok (.iload 5, 2) := by decide +kernel
theorem dX11_workQuay_316 : decode cX11_workQuay 316 = .ok (.isub, 1) := by decide +kernel
theorem dX11_workQuay_317 : decode cX11_workQuay 317 = .ok (.istore_n 3, 1) := by decide +kernel
theorem dX11_workQuay_318 : decode cX11_workQuay 318 = .ok (.aload_n 0, 1) := by decide +kernel
theorem dX11_workQuay_319 : decode cX11_workQuay 319 = .ok (.dup, 1) := by decide +kernel
theorem dX11_workQuay_320 : decode cX11_workQuay 320 = .ok (.getfield 148, 3) := by decide +kernel
theorem dX11_workQuay_323 : decode cX11_workQuay 323 = .ok (.iload 5, 2) := by decide +kernel
theorem dX11_workQuay_325 : decode cX11_workQuay 325 = .ok (.iadd, 1) := by decide +kernel
theorem dX11_workQuay_326 : decode cX11_workQuay 326 = .ok (.putfield 148, 3) := by decide +kernel
theorem dX11_workQuay_329 : decode cX11_workQuay 329 = .ok (.aload_n 0, 1) := by decide +kernel
theorem dX11_workQuay_330 : decode cX11_workQuay 330 = .ok (.getfield 31, 3) := by decide +kernel
theorem dX11_workQuay_333 : decode cX11_workQuay 333 = .ok (.bipush 7, 2) := by decide +kernel
theorem dX11_workQuay_335 : decode cX11_workQuay 335 = .ok (.iload 4, 2) := by decide +kernel
theorem dX11_workQuay_337 : decode cX11_workQuay 337 = .ok (.imul, 1) := by decide +kernel
theorem dX11_workQuay_338 : decode cX11_workQuay 338 = .ok (.bipush 6, 2) := by decide +kernel
theorem dX11_workQuay_340 : decode cX11_workQuay 340 = .ok (.iadd, 1) := by decide +kernel
theorem dX11_workQuay_341 : decode cX11_workQuay 341 = .ok (.iload_n 2, 1) := by decide +kernel
theorem dX11_workQuay_342 : decode cX11_workQuay 342 = .ok (.iastore, 1) := by decide +kernel
theorem dX11_workQuay_343 : decode cX11_workQuay 343 = .ok (.aload_n 0, 1) := by decide +kernel
theorem dX11_workQuay_344 : decode cX11_workQuay 344 = .ok (.iload_n 1, 1) := by decide +kernel
theorem dX11_workQuay_345 : decode cX11_workQuay 345 = .ok (.iload_n 2, 1) := by decide +kernel
theorem dX11_workQuay_346 : decode cX11_workQuay 346 = .ok (.invokevirtual 157, 3) := by decide +kernel
theorem dX11_workQuay_349 : decode cX11_workQuay 349 = .ok (.istore 4, 2) := by decide +kernel
theorem dX11_workQuay_351 : decode cX11_workQuay 351 = .ok (.goto (-125), 3) := by decide +kernel
theorem dX11_workQuay_354 : decode cX11_workQuay 354 = .ok (.aload_n 0, 1) := by decide +kernel
theorem dX11_workQuay_355 : decode cX11_workQuay 355 = .ok (.iload_n 1, 1) := by decide +kernel
theorem dX11_workQuay_356 : decode cX11_workQuay 356 = .ok (.invokevirtual 154, 3) := by decide +kernel
theorem dX11_workQuay_359 : decode cX11_workQuay 359 = .ok (.istore 5, 2) := by decide +kernel
theorem dX11_workQuay_361 : decode cX11_workQuay 361 = .ok (.iload 5, 2) := by decide +kernel
theorem dX11_workQuay_363 : decode cX11_workQuay 363 = .ok (.ifCond .ge 8, 3) := by decide +kernel
theorem dX11_workQuay_366 : decode cX11_workQuay 366 = .ok (.bipush (-6), 2) := by decide +kernel
theorem dX11_workQuay_368 : decode cX11_workQuay 368 = .ok (.goto 17, 3) := by decide +kernel
theorem dX11_workQuay_371 : decode cX11_workQuay 371 = .ok (.iload 5, 2) := by decide +kernel
theorem dX11_workQuay_373 : decode cX11_workQuay 373 = .ok (.iload_n 2, 1) := by decide +kernel
theorem dX11_workQuay_374 : decode cX11_workQuay 374 = .ok (.if_icmp .le 8, 3) := by decide +kernel
theorem dX11_workQuay_377 : decode cX11_workQuay 377 = .ok (.iload 5, 2) := by decide +kernel
theorem dX11_workQuay_379 : decode cX11_workQuay 379 = .ok (.goto 6, 3) := by decide +kernel
theorem dX11_workQuay_382 : decode cX11_workQuay 382 = .ok (.iload_n 2, 1) := by decide +kernel
theorem dX11_workQuay_383 : decode cX11_workQuay 383 = .ok (.iconst 1, 1) := by decide +kernel
theorem dX11_workQuay_384 : decode cX11_workQuay 384 = .ok (.iadd, 1) := by decide +kernel
theorem dX11_workQuay_385 : decode cX11_workQuay 385 = .ok (.istore_n 2, 1) := by decide +kernel
theorem dX11_workQuay_386 : decode cX11_workQuay 386 = .ok (.goto (-272), 3) := by decide +kernel
theorem dX11_workQuay_389 : decode cX11_workQuay 389 = .ok (.return_, 1) := by decide +kernel
theorem dX11_landing_0 : decode cX11_landing 0 = .ok (.iload_n 1, 1) := by decide +kernel
theorem dX11_landing_1 : decode cX11_landing 1 = .ok (.iconst 0, 1) := by decide +kernel
theorem dX11_landing_2 : decode cX11_landing 2 = .ok (.aload_n 0, 1) := by decide +kernel
theorem dX11_landing_3 : decode cX11_landing 3 = .ok (.getfield 136, 3) := by decide +kernel
theorem dX11_landing_6 : decode cX11_landing 6 = .ok (.iconst 1, 1) := by decide +kernel
theorem dX11_landing_7 : decode cX11_landing 7 = .ok (.isub, 1) := by decide +kernel
theorem dX11_landing_8 : decode cX11_landing 8 = .ok (.invokestatic 94, 3) := by decide +kernel
theorem dX11_landing_11 : decode cX11_landing 11 = .ok (.ifCond .ne 5, 3) := by decide +kernel
theorem dX11_landing_14 : decode cX11_landing 14 = .ok (.iconst (-1), 1) := by decide +kernel
theorem dX11_landing_15 : decode cX11_landing 15 = .ok (.ireturn, 1) := by decide +kernel
theorem dX11_landing_16 : decode cX11_landing 16 = .ok (.iload_n 2, 1) := by decide +kernel
theorem dX11_landing_17 : decode cX11_landing 17 = .ok (.iconst 0, 1) := by decide +kernel
theorem dX11_landing_18 : decode cX11_landing 18 = .ok (.bipush 6, 2) := by decide +kernel
theorem dX11_landing_20 : decode cX11_landing 20 = .ok (.invokestatic 94, 3) := by decide +kernel
theorem dX11_landing_23 : decode cX11_landing 23 = .ok (.ifCond .ne 6, 3) := by decide +kernel
theorem dX11_landing_26 : decode cX11_landing 26 = .ok (.bipush (-2), 2) := by decide +kernel
theorem dX11_landing_28 : decode cX11_landing 28 = .ok (.ireturn, 1) := by decide +kernel
theorem dX11_landing_29 : decode cX11_landing 29 = .ok (.aload_n 0, 1) := by decide +kernel
theorem dX11_landing_30 : decode cX11_landing 30 = .ok (.getfield 31, 3) := by decide +kernel
theorem dX11_landing_33 : decode cX11_landing 33 = .ok (.bipush 7, 2) := by decide +kernel
theorem dX11_landing_35 : decode cX11_landing 35 = .ok (.iload_n 1, 1) := by decide +kernel
theorem dX11_landing_36 : decode cX11_landing 36 = .ok (.imul, 1) := by decide +kernel
theorem dX11_landing_37 : decode cX11_landing 37 = .ok (.iconst 1, 1) := by decide +kernel
theorem dX11_landing_38 : decode cX11_landing 38 = .ok (.iadd, 1) := by decide +kernel
theorem dX11_landing_39 : decode cX11_landing 39 = .ok (.iaload, 1) := by decide +kernel
theorem dX11_landing_40 : decode cX11_landing 40 = .ok (.istore_n 3, 1) := by decide +kernel
theorem dX11_landing_41 : decode cX11_landing 41 = .ok (.iload_n 2, 1) := by decide +kernel
theorem dX11_landing_42 : decode cX11_landing 42 = .ok (.iconst 4, 1) := by decide +kernel
theorem dX11_landing_43 : decode cX11_landing 43 = .ok (.if_icmp .le 19, 3) := by decide +kernel
theorem dX11_landing_46 : decode cX11_landing 46 = .ok (.iload_n 3, 1) := by decide +kernel
theorem dX11_landing_47 : decode cX11_landing 47 = .ok (.ifCond .ge 15, 3) := by decide +kernel
theorem dX11_landing_50 : decode cX11_landing 50 = .ok (.iload_n 2, 1) := by decide +kernel
theorem dX11_landing_51 : decode cX11_landing 51 = .ok (.iconst 5, 1) := by decide +kernel
theorem dX11_landing_52 : decode cX11_landing 52 = .ok (.if_icmp .ne 7, 3) := by decide +kernel
theorem dX11_landing_55 : decode cX11_landing 55 = .ok (.iconst 0, 1) := by decide +kernel
theorem dX11_landing_56 : decode cX11_landing 56 = .ok (.goto 5, 3) := by decide +kernel
theorem dX11_landing_59 : decode cX11_landing 59 = .ok (.bipush (-6), 2) := by decide +kernel
theorem dX11_landing_61 : decode cX11_landing 61 = .ok (.ireturn, 1) := by decide +kernel
theorem dX11_landing_62 : decode cX11_landing 62 = .ok (.iload_n 2, 1) := by decide +kernel
theorem dX11_landing_63 : decode cX11_landing 63 = .ok (.iconst 4, 1) := by decide +kernel
theorem dX11_landing_64 : decode cX11_landing 64 = .ok (.if_icmp .le 8, 3) := by decide +kernel
theorem dX11_landing_67 : decode cX11_landing 67 = .ok (.aload_n 0, 1) := by decide +kernel
theorem dX11_landing_68 : decode cX11_landing 68 = .ok (.iload_n 3, 1) := by decide +kernel
theorem dX11_landing_69 : decode cX11_landing 69 = .ok (.invokevirtual 160, 3) := by decide +kernel
theorem dX11_landing_72 : decode cX11_landing 72 = .ok (.aload_n 0, 1) := by decide +kernel
theorem dX11_landing_73 : decode cX11_landing 73 = .ok (.getfield 31, 3) := by decide +kernel
theorem dX11_landing_76 : decode cX11_landing 76 = .ok (.bipush 7, 2) := by decide +kernel
theorem dX11_landing_78 : decode cX11_landing 78 = .ok (.iload_n 1, 1) := by decide +kernel
theorem dX11_landing_79 : decode cX11_landing 79 = .ok (.imul, 1) := by decide +kernel
theorem dX11_landing_80 : decode cX11_landing 80 = .ok (.iload_n 2, 1) := by decide +kernel
theorem dX11_landing_81 : decode cX11_landing 81 = .ok (.iadd, 1) := by decide +kernel
theorem dX11_landing_82 : decode cX11_landing 82 = .ok (.iaload, 1) := by decide +kernel
theorem dX11_landing_83 : decode cX11_landing 83 = .ok (.ireturn, 1) := by decide +kernel
theorem dX11_salt_0 : decode cX11_salt 0 = .ok (.iload_n 1, 1) := by decide +kernel
theorem dX11_salt_1 : decode cX11_salt 1 = .ok (.invokestatic 133, 3) := by decide +kernel
theorem dX11_salt_4 : decode cX11_salt 4 = .ok (.ifCond .ne 5, 3) := by decide +kernel
theorem dX11_salt_7 : decode cX11_salt 7 = .ok (.iconst (-1), 1) := by decide +kernel
theorem dX11_salt_8 : decode cX11_salt 8 = .ok (.ireturn, 1) := by decide +kernel
theorem dX11_salt_9 : decode cX11_salt 9 = .ok (.iload_n 2, 1) := by decide +kernel
theorem dX11_salt_10 : decode cX11_salt 10 = .ok (.invokestatic 139, 3) := by decide +kernel
theorem dX11_salt_13 : decode cX11_salt 13 = .ok (.ifCond .eq 24, 3) := by decide +kernel
theorem dX11_salt_16 : decode cX11_salt 16 = .ok (.iload_n 3, 1) := by decide +kernel
theorem dX11_salt_17 : decode cX11_salt 17 = .ok (.iconst 0, 1) := by decide +kernel
theorem dX11_salt_18 : decode cX11_salt 18 = .ok (.bipush 9, 2) := by decide +kernel
theorem dX11_salt_20 : decode cX11_salt 20 = .ok (.invokestatic 94, 3) := by decide +kernel
theorem dX11_salt_23 : decode cX11_salt 23 = .ok (.ifCond .eq 14, 3) := by decide +kernel
theorem dX11_salt_26 : decode cX11_salt 26 = .ok (.iload 4, 2) := by decide +kernel
theorem dX11_salt_28 : decode cX11_salt 28 = .ok (.iconst 1, 1) := by decide +kernel
theorem dX11_salt_29 : decode cX11_salt 29 = .ok (.bipush 100, 2) := by decide +kernel
theorem dX11_salt_31 : decode cX11_salt 31 = .ok (.invokestatic 94, 3) := by decide +kernel
theorem dX11_salt_34 : decode cX11_salt 34 = .ok (.ifCond .ne 6, 3) := by decide +kernel
theorem dX11_salt_37 : decode cX11_salt 37 = .ok (.bipush (-2), 2) := by decide +kernel
theorem dX11_salt_39 : decode cX11_salt 39 = .ok (.ireturn, 1) := by decide +kernel
theorem dX11_salt_40 : decode cX11_salt 40 = .ok (.aload_n 0, 1) := by decide +kernel
theorem dX11_salt_41 : decode cX11_salt 41 = .ok (.getfield 164, 3) := by decide +kernel
theorem dX11_salt_44 : decode cX11_salt 44 = .ok (.bipush 12, 2) := by decide +kernel
theorem dX11_salt_46 : decode cX11_salt 46 = .ok (.if_icmp .ne 6, 3) := by decide +kernel
theorem dX11_salt_49 : decode cX11_salt 49 = .ok (.bipush (-4), 2) := by decide +kernel
theorem dX11_salt_51 : decode cX11_salt 51 = .ok (.ireturn, 1) := by decide +kernel
theorem dX11_salt_52 : decode cX11_salt 52 = .ok (.aload_n 0, 1) := by decide +kernel
theorem dX11_salt_53 : decode cX11_salt 53 = .ok (.getfield 34, 3) := by decide +kernel
theorem dX11_salt_56 : decode cX11_salt 56 = .ok (.iconst 4, 1) := by decide +kernel
theorem dX11_salt_57 : decode cX11_salt 57 = .ok (.aload_n 0, 1) := by decide +kernel
theorem dX11_salt_58 : decode cX11_salt 58 = .ok (.getfield 164, 3) := by decide +kernel
theorem dX11_salt_61 : decode cX11_salt 61 = .ok (.imul, 1) := by decide +kernel
theorem dX11_salt_62 : decode cX11_salt 62 = .ok (.iload_n 1, 1) := by decide +kernel
theorem dX11_salt_63 : decode cX11_salt 63 = .ok (.iastore, 1) := by decide +kernel
theorem dX11_salt_64 : decode cX11_salt 64 = .ok (.aload_n 0, 1) := by decide +kernel
theorem dX11_salt_65 : decode cX11_salt 65 = .ok (.getfield 34, 3) := by decide +kernel
theorem dX11_salt_68 : decode cX11_salt 68 = .ok (.iconst 4, 1) := by decide +kernel
theorem dX11_salt_69 : decode cX11_salt 69 = .ok (.aload_n 0, 1) := by decide +kernel
theorem dX11_salt_70 : decode cX11_salt 70 = .ok (.getfield 164, 3) := by decide +kernel
theorem dX11_salt_73 : decode cX11_salt 73 = .ok (.imul, 1) := by decide +kernel
theorem dX11_salt_74 : decode cX11_salt 74 = .ok (.iconst 1, 1) := by decide +kernel
theorem dX11_salt_75 : decode cX11_salt 75 = .ok (.iadd, 1) := by decide +kernel
theorem dX11_salt_76 : decode cX11_salt 76 = .ok (.iload_n 2, 1) := by decide +kernel
theorem dX11_salt_77 : decode cX11_salt 77 = .ok (.iastore, 1) := by decide +kernel
theorem dX11_salt_78 : decode cX11_salt 78 = .ok (.aload_n 0, 1) := by decide +kernel
theorem dX11_salt_79 : decode cX11_salt 79 = .ok (.getfield 34, 3) := by decide +kernel
theorem dX11_salt_82 : decode cX11_salt 82 = .ok (.iconst 4, 1) := by decide +kernel
theorem dX11_salt_83 : decode cX11_salt 83 = .ok (.aload_n 0, 1) := by decide +kernel
theorem dX11_salt_84 : decode cX11_salt 84 = .ok (.getfield 164, 3) := by decide +kernel
theorem dX11_salt_87 : decode cX11_salt 87 = .ok (.imul, 1) := by decide +kernel
theorem dX11_salt_88 : decode cX11_salt 88 = .ok (.iconst 2, 1) := by decide +kernel
theorem dX11_salt_89 : decode cX11_salt 89 = .ok (.iadd, 1) := by decide +kernel
theorem dX11_salt_90 : decode cX11_salt 90 = .ok (.iload_n 3, 1) := by decide +kernel
theorem dX11_salt_91 : decode cX11_salt 91 = .ok (.iastore, 1) := by decide +kernel
theorem dX11_salt_92 : decode cX11_salt 92 = .ok (.aload_n 0, 1) := by decide +kernel
theorem dX11_salt_93 : decode cX11_salt 93 = .ok (.getfield 34, 3) := by decide +kernel
theorem dX11_salt_96 : decode cX11_salt 96 = .ok (.iconst 4, 1) := by decide +kernel
theorem dX11_salt_97 : decode cX11_salt 97 = .ok (.aload_n 0, 1) := by decide +kernel
theorem dX11_salt_98 : decode cX11_salt 98 = .ok (.getfield 164, 3) := by decide +kernel
theorem dX11_salt_101 : decode cX11_salt 101 = .ok (.imul, 1) := by decide +kernel
theorem dX11_salt_102 : decode cX11_salt 102 = .ok (.iconst 3, 1) := by decide +kernel
theorem dX11_salt_103 : decode cX11_salt 103 = .ok (.iadd, 1) := by decide +kernel
theorem dX11_salt_104 : decode cX11_salt 104 = .ok (.iload 4, 2) := by decide +kernel
theorem dX11_salt_106 : decode cX11_salt 106 = .ok (.iastore, 1) := by decide +kernel
theorem dX11_salt_107 : decode cX11_salt 107 = .ok (.aload_n 0, 1) := by decide +kernel
theorem dX11_salt_108 : decode cX11_salt 108 = .ok (.dup, 1) := by decide +kernel
theorem dX11_salt_109 : decode cX11_salt 109 = .ok (.getfield 164, 3) := by decide +kernel
theorem dX11_salt_112 : decode cX11_salt 112 = .ok (.iconst 1, 1) := by decide +kernel
theorem dX11_salt_113 : decode cX11_salt 113 = .ok (.iadd, 1) := by decide +kernel
theorem dX11_salt_114 : decode cX11_salt 114 = .ok (.putfield 164, 3) := by decide +kernel
theorem dX11_salt_117 : decode cX11_salt 117 = .ok (.aload_n 0, 1) := by decide +kernel
theorem dX11_salt_118 : decode cX11_salt 118 = .ok (.getfield 164, 3) := by decide +kernel
theorem dX11_salt_121 : decode cX11_salt 121 = .ok (.ireturn, 1) := by decide +kernel
theorem dX11_saltOf_0 : decode cX11_saltOf 0 = .ok (.bipush (-6), 2) := by decide +kernel
theorem dX11_saltOf_2 : decode cX11_saltOf 2 = .ok (.istore_n 3, 1) := by decide +kernel
theorem dX11_saltOf_3 : decode cX11_saltOf 3 = .ok (.iconst 0, 1) := by decide +kernel
theorem dX11_saltOf_4 : decode cX11_saltOf 4 = .ok (.istore 4, 2) := by decide +kernel
theorem dX11_saltOf_6 : decode cX11_saltOf 6 = .ok (.iload 4, 2) := by decide +kernel
theorem dX11_saltOf_8 : decode cX11_saltOf 8 = .ok (.aload_n 0, 1) := by decide +kernel
theorem dX11_saltOf_9 : decode cX11_saltOf 9 = .ok (.getfield 164, 3) := by decide +kernel
theorem dX11_saltOf_12 : decode cX11_saltOf 12 = .ok (.if_icmp .ge 87, 3) := by decide +kernel
theorem dX11_saltOf_15 : decode cX11_saltOf 15 = .ok (.aload_n 0, 1) := by decide +kernel
theorem dX11_saltOf_16 : decode cX11_saltOf 16 = .ok (.getfield 34, 3) := by decide +kernel
theorem dX11_saltOf_19 : decode cX11_saltOf 19 = .ok (.iconst 4, 1) := by decide +kernel
theorem dX11_saltOf_20 : decode cX11_saltOf 20 = .ok (.iload 4, 2) := by decide +kernel
theorem dX11_saltOf_22 : decode cX11_saltOf 22 = .ok (.imul, 1) := by decide +kernel
theorem dX11_saltOf_23 : decode cX11_saltOf 23 = .ok (.iaload, 1) := by decide +kernel
theorem dX11_saltOf_24 : decode cX11_saltOf 24 = .ok (.iload_n 1, 1) := by decide +kernel
theorem dX11_saltOf_25 : decode cX11_saltOf 25 = .ok (.if_icmp .ne 25, 3) := by decide +kernel
theorem dX11_saltOf_28 : decode cX11_saltOf 28 = .ok (.aload_n 0, 1) := by decide +kernel
theorem dX11_saltOf_29 : decode cX11_saltOf 29 = .ok (.getfield 34, 3) := by decide +kernel
theorem dX11_saltOf_32 : decode cX11_saltOf 32 = .ok (.iconst 4, 1) := by decide +kernel
theorem dX11_saltOf_33 : decode cX11_saltOf 33 = .ok (.iload 4, 2) := by decide +kernel
theorem dX11_saltOf_35 : decode cX11_saltOf 35 = .ok (.imul, 1) := by decide +kernel
theorem dX11_saltOf_36 : decode cX11_saltOf 36 = .ok (.iconst 1, 1) := by decide +kernel
theorem dX11_saltOf_37 : decode cX11_saltOf 37 = .ok (.iadd, 1) := by decide +kernel
theorem dX11_saltOf_38 : decode cX11_saltOf 38 = .ok (.iaload, 1) := by decide +kernel
theorem dX11_saltOf_39 : decode cX11_saltOf 39 = .ok (.aload_n 0, 1) := by decide +kernel
theorem dX11_saltOf_40 : decode cX11_saltOf 40 = .ok (.getfield 167, 3) := by decide +kernel
theorem dX11_saltOf_43 : decode cX11_saltOf 43 = .ok (.if_icmp .gt 7, 3) := by decide +kernel
theorem dX11_saltOf_46 : decode cX11_saltOf 46 = .ok (.iconst 1, 1) := by decide +kernel
theorem dX11_saltOf_47 : decode cX11_saltOf 47 = .ok (.goto 4, 3) := by decide +kernel
theorem dX11_saltOf_50 : decode cX11_saltOf 50 = .ok (.iconst 0, 1) := by decide +kernel
theorem dX11_saltOf_51 : decode cX11_saltOf 51 = .ok (.istore 5, 2) := by decide +kernel
theorem dX11_saltOf_53 : decode cX11_saltOf 53 = .ok (.iload 5, 2) := by decide +kernel
theorem dX11_saltOf_55 : decode cX11_saltOf 55 = .ok (.ifCond .eq 36, 3) := by decide +kernel
theorem dX11_saltOf_58 : decode cX11_saltOf 58 = .ok (.iload_n 3, 1) := by decide +kernel
theorem dX11_saltOf_59 : decode cX11_saltOf 59 = .ok (.ifCond .lt 27, 3) := by decide +kernel
theorem dX11_saltOf_62 : decode cX11_saltOf 62 = .ok (.aload_n 0, 1) := by decide +kernel
theorem dX11_saltOf_63 : decode cX11_saltOf 63 = .ok (.getfield 34, 3) := by decide +kernel
theorem dX11_saltOf_66 : decode cX11_saltOf 66 = .ok (.iconst 4, 1) := by decide +kernel
theorem dX11_saltOf_67 : decode cX11_saltOf 67 = .ok (.iload 4, 2) := by decide +kernel
theorem dX11_saltOf_69 : decode cX11_saltOf 69 = .ok (.imul, 1) := by decide +kernel
theorem dX11_saltOf_70 : decode cX11_saltOf 70 = .ok (.iconst 1, 1) := by decide +kernel
theorem dX11_saltOf_71 : decode cX11_saltOf 71 = .ok (.iadd, 1) := by decide +kernel
theorem dX11_saltOf_72 : decode cX11_saltOf 72 = .ok (.iaload, 1) := by decide +kernel
theorem dX11_saltOf_73 : decode cX11_saltOf 73 = .ok (.aload_n 0, 1) := by decide +kernel
theorem dX11_saltOf_74 : decode cX11_saltOf 74 = .ok (.getfield 34, 3) := by decide +kernel
theorem dX11_saltOf_77 : decode cX11_saltOf 77 = .ok (.iconst 4, 1) := by decide +kernel
theorem dX11_saltOf_78 : decode cX11_saltOf 78 = .ok (.iload_n 3, 1) := by decide +kernel
theorem dX11_saltOf_79 : decode cX11_saltOf 79 = .ok (.imul, 1) := by decide +kernel
theorem dX11_saltOf_80 : decode cX11_saltOf 80 = .ok (.iconst 1, 1) := by decide +kernel
theorem dX11_saltOf_81 : decode cX11_saltOf 81 = .ok (.iadd, 1) := by decide +kernel
theorem dX11_saltOf_82 : decode cX11_saltOf 82 = .ok (.iaload, 1) := by decide +kernel
theorem dX11_saltOf_83 : decode cX11_saltOf 83 = .ok (.if_icmp .lt 8, 3) := by decide +kernel
theorem dX11_saltOf_86 : decode cX11_saltOf 86 = .ok (.iload 4, 2) := by decide +kernel
theorem dX11_saltOf_88 : decode cX11_saltOf 88 = .ok (.goto 4, 3) := by decide +kernel
theorem dX11_saltOf_91 : decode cX11_saltOf 91 = .ok (.iload_n 3, 1) := by decide +kernel
theorem dX11_saltOf_92 : decode cX11_saltOf 92 = .ok (.istore_n 3, 1) := by decide +kernel
theorem dX11_saltOf_93 : decode cX11_saltOf 93 = .ok (.iinc 4 1, 3) := by decide +kernel
theorem dX11_saltOf_96 : decode cX11_saltOf 96 = .ok (.goto (-90), 3) := by decide +kernel
theorem dX11_saltOf_99 : decode cX11_saltOf 99 = .ok (.iload_n 3, 1) := by decide +kernel
theorem dX11_saltOf_100 : decode cX11_saltOf 100 = .ok (.ifCond .lt 16, 3) := by decide +kernel
theorem dX11_saltOf_103 : decode cX11_saltOf 103 = .ok (.aload_n 0, 1) := by decide +kernel
theorem dX11_saltOf_104 : decode cX11_saltOf 104 = .ok (.getfield 34, 3) := by decide +kernel
theorem dX11_saltOf_107 : decode cX11_saltOf 107 = .ok (.iconst 4, 1) := by decide +kernel
theorem dX11_saltOf_108 : decode cX11_saltOf 108 = .ok (.iload_n 3, 1) := by decide +kernel
theorem dX11_saltOf_109 : decode cX11_saltOf 109 = .ok (.imul, 1) := by decide +kernel
theorem dX11_saltOf_110 : decode cX11_saltOf 110 = .ok (.iload_n 2, 1) := by decide +kernel
theorem dX11_saltOf_111 : decode cX11_saltOf 111 = .ok (.iadd, 1) := by decide +kernel
theorem dX11_saltOf_112 : decode cX11_saltOf 112 = .ok (.iaload, 1) := by decide +kernel
theorem dX11_saltOf_113 : decode cX11_saltOf 113 = .ok (.goto 14, 3) := by decide +kernel
theorem dX11_saltOf_116 : decode cX11_saltOf 116 = .ok (.iload_n 2, 1) := by decide +kernel
theorem dX11_saltOf_117 : decode cX11_saltOf 117 = .ok (.iconst 2, 1) := by decide +kernel
theorem dX11_saltOf_118 : decode cX11_saltOf 118 = .ok (.if_icmp .ne 7, 3) := by decide +kernel
theorem dX11_saltOf_121 : decode cX11_saltOf 121 = .ok (.iconst 0, 1) := by decide +kernel
theorem dX11_saltOf_122 : decode cX11_saltOf 122 = .ok (.goto 5, 3) := by decide +kernel
theorem dX11_saltOf_125 : decode cX11_saltOf 125 = .ok (.bipush 50, 2) := by decide +kernel
theorem dX11_saltOf_127 : decode cX11_saltOf 127 = .ok (.ireturn, 1) := by decide +kernel
theorem dX11_beginBarrels_0 : decode cX11_beginBarrels 0 = .ok (.aload_n 0, 1) := by decide +kernel
theorem dX11_beginBarrels_1 : decode cX11_beginBarrels 1 = .ok (.iload_n 1, 1) := by decide +kernel
theorem dX11_beginBarrels_2 : decode cX11_beginBarrels 2 = .ok (.invokevirtual 160, 3) := by decide +kernel
theorem dX11_beginBarrels_5 : decode cX11_beginBarrels 5 = .ok (.aload_n 0, 1) := by decide +kernel
theorem dX11_beginBarrels_6 : decode cX11_beginBarrels 6 = .ok (.iconst 0, 1) := by decide +kernel
theorem dX11_beginBarrels_7 : decode cX11_beginBarrels 7 = .ok (.putfield 170, 3) := by decide +kernel
theorem dX11_beginBarrels_10 : decode cX11_beginBarrels 10 = .ok (.aload_n 0, 1) := by decide +kernel
theorem dX11_beginBarrels_11 : decode cX11_beginBarrels 11 = .ok (.iconst 0, 1) := by decide +kernel
theorem dX11_beginBarrels_12 : decode cX11_beginBarrels 12 = .ok (.putfield 173, 3) := by decide +kernel
theorem dX11_beginBarrels_15 : decode cX11_beginBarrels 15 = .ok (.return_, 1) := by decide +kernel
theorem dX11_takeBarrel_0 : decode cX11_takeBarrel 0 = .ok (.aload_n 0, 1) := by decide +kernel
theorem dX11_takeBarrel_1 : decode cX11_takeBarrel 1 = .ok (.getfield 28, 3) := by decide +kernel
theorem dX11_takeBarrel_4 : decode cX11_takeBarrel 4 = .ok (.iconst 1, 1) := by decide +kernel
theorem dX11_takeBarrel_5 : decode cX11_takeBarrel 5 = .ok (.iaload, 1) := by decide +kernel
theorem dX11_takeBarrel_6 : decode cX11_takeBarrel 6 = .ok (.istore_n 1, 1) := by decide +kernel
theorem dX11_takeBarrel_7 : decode cX11_takeBarrel 7 = .ok (.aload_n 0, 1) := by decide +kernel
theorem dX11_takeBarrel_8 : decode cX11_takeBarrel 8 = .ok (.iconst 0, 1) := by decide +kernel
theorem dX11_takeBarrel_9 : decode cX11_takeBarrel 9 = .ok (.putfield 120, 3) := by decide +kernel
theorem dX11_takeBarrel_12 : decode cX11_takeBarrel 12 = .ok (.aload_n 0, 1) := by decide +kernel
theorem dX11_takeBarrel_13 : decode cX11_takeBarrel 13 = .ok (.bipush 10, 2) := by decide +kernel
theorem dX11_takeBarrel_15 : decode cX11_takeBarrel 15 = .ok (.putfield 127, 3) := by decide +kernel
theorem dX11_takeBarrel_18 : decode cX11_takeBarrel 18 = .ok (.aload_n 0, 1) := by decide +kernel
theorem dX11_takeBarrel_19 : decode cX11_takeBarrel 19 = .ok (.iconst 0, 1) := by decide +kernel
theorem dX11_takeBarrel_20 : decode cX11_takeBarrel 20 = .ok (.putfield 176, 3) := by decide +kernel
theorem dX11_takeBarrel_23 : decode cX11_takeBarrel 23 = .ok (.iconst 0, 1) := by decide +kernel
theorem dX11_takeBarrel_24 : decode cX11_takeBarrel 24 = .ok (.istore_n 2, 1) := by decide +kernel
theorem dX11_takeBarrel_25 : decode cX11_takeBarrel 25 = .ok (.iload_n 1, 1) := by decide +kernel
theorem dX11_takeBarrel_26 : decode cX11_takeBarrel 26 = .ok (.ifCond .le 219, 3) := by decide +kernel
theorem dX11_takeBarrel_29 : decode cX11_takeBarrel 29 = .ok (.aload_n 0, 1) := by decide +kernel
theorem dX11_takeBarrel_30 : decode cX11_takeBarrel 30 = .ok (.getfield 76, 3) := by decide +kernel
theorem dX11_takeBarrel_33 : decode cX11_takeBarrel 33 = .ok (.aload_n 0, 1) := by decide +kernel
theorem dX11_takeBarrel_34 : decode cX11_takeBarrel 34 = .ok (.getfield 170, 3) := by decide +kernel
theorem dX11_takeBarrel_37 : decode cX11_takeBarrel 37 = .ok (.iaload, 1) := by decide +kernel
theorem dX11_takeBarrel_38 : decode cX11_takeBarrel 38 = .ok (.istore_n 3, 1) := by decide +kernel
theorem dX11_takeBarrel_39 : decode cX11_takeBarrel 39 = .ok (.aload_n 0, 1) := by decide +kernel
theorem dX11_takeBarrel_40 : decode cX11_takeBarrel 40 = .ok (.getfield 82, 3) := by decide +kernel
theorem dX11_takeBarrel_43 : decode cX11_takeBarrel 43 = .ok (.aload_n 0, 1) := by decide +kernel
theorem dX11_takeBarrel_44 : decode cX11_takeBarrel 44 = .ok (.getfield 170, 3) := by decide +kernel
theorem dX11_takeBarrel_47 : decode cX11_takeBarrel 47 = .ok (.iaload, 1) := by decide +kernel
theorem dX11_takeBarrel_48 : decode cX11_takeBarrel 48 = .ok (.aload_n 0, 1) := by decide +kernel
theorem dX11_takeBarrel_49 : decode cX11_takeBarrel 49 = .ok (.getfield 173, 3) := by decide +kernel
theorem dX11_takeBarrel_52 : decode cX11_takeBarrel 52 = .ok (.isub, 1) := by decide +kernel
theorem dX11_takeBarrel_53 : decode cX11_takeBarrel 53 = .ok (.istore 4, 2) := by decide +kernel
theorem dX11_takeBarrel_55 : decode cX11_takeBarrel 55 = .ok (.iload 4, 2) := by decide +kernel
theorem dX11_takeBarrel_57 : decode cX11_takeBarrel 57 = .ok (.iload_n 1, 1) := by decide +kernel
theorem dX11_takeBarrel_58 : decode cX11_takeBarrel 58 = .ok (.if_icmp .ge 8, 3) := by decide +kernel
theorem dX11_takeBarrel_61 : decode cX11_takeBarrel 61 = .ok (.iload 4, 2) := by decide +kernel
theorem dX11_takeBarrel_63 : decode cX11_takeBarrel 63 = .ok (.goto 4, 3) := by decide +kernel
theorem dX11_takeBarrel_66 : decode cX11_takeBarrel 66 = .ok (.iload_n 1, 1) := by decide +kernel
theorem dX11_takeBarrel_67 : decode cX11_takeBarrel 67 = .ok (.istore 5, 2) := by decide +kernel
theorem dX11_takeBarrel_69 : decode cX11_takeBarrel 69 = .ok (.aload_n 0, 1) := by decide +kernel
theorem dX11_takeBarrel_70 : decode cX11_takeBarrel 70 = .ok (.getfield 79, 3) := by decide +kernel
theorem dX11_takeBarrel_73 : decode cX11_takeBarrel 73 = .ok (.aload_n 0, 1) := by decide +kernel
theorem dX11_takeBarrel_74 : decode cX11_takeBarrel 74 = .ok (.getfield 170, 3) := by decide +kernel
theorem dX11_takeBarrel_77 : decode cX11_takeBarrel 77 = .ok (.iaload, 1) := by decide +kernel
theorem dX11_takeBarrel_78 : decode cX11_takeBarrel 78 = .ok (.aload_n 0, 1) := by decide +kernel
theorem dX11_takeBarrel_79 : decode cX11_takeBarrel 79 = .ok (.getfield 31, 3) := by decide +kernel
theorem dX11_takeBarrel_82 : decode cX11_takeBarrel 82 = .ok (.bipush 7, 2) := by decide +kernel
theorem dX11_takeBarrel_84 : decode cX11_takeBarrel 84 = .ok (.iload_n 3, 1) := by decide +kernel
theorem dX11_takeBarrel_85 : decode cX11_takeBarrel 85 = .ok (.imul, 1) := by decide +kernel
theorem dX11_takeBarrel_86 : decode cX11_takeBarrel 86 = .ok (.iconst 2, 1) := by decide +kernel
theorem dX11_takeBarrel_87 : decode cX11_takeBarrel 87 = .ok (.iadd, 1) := by decide +kernel
theorem dX11_takeBarrel_88 : decode cX11_takeBarrel 88 = .ok (.iaload, 1) := by decide +kernel
theorem dX11_takeBarrel_89 : decode cX11_takeBarrel 89 = .ok (.isub, 1) := by decide +kernel
theorem dX11_takeBarrel_90 : decode cX11_takeBarrel 90 = .ok (.istore 6, 2) := by decide +kernel
theorem dX11_takeBarrel_92 : decode cX11_takeBarrel 92 = .ok (.aload_n 0, 1) := by decide +kernel
theorem dX11_takeBarrel_93 : decode cX11_takeBarrel 93 = .ok (.iload 6, 2) := by decide +kernel
theorem dX11_takeBarrel_95 : decode cX11_takeBarrel 95 = .ok (.aload_n 0, 1) := by decide +kernel
theorem dX11_takeBarrel_96 : decode cX11_takeBarrel 96 = .ok (.getfield 120, 3) := by decide +kernel
theorem dX11_takeBarrel_99 : decode cX11_takeBarrel 99 = .ok (.if_icmp .le 8, 3) := by decide +kernel
theorem dX11_takeBarrel_102 : decode cX11_takeBarrel 102 = .ok (.iload 6, 2) := by decide +kernel
theorem dX11_takeBarrel_104 : decode cX11_takeBarrel 104 = .ok (.goto 7, 3) := by decide +kernel
theorem dX11_takeBarrel_107 : decode cX11_takeBarrel 107 = .ok (.aload_n 0, 1) := by decide +kernel
theorem dX11_takeBarrel_108 : decode cX11_takeBarrel 108 = .ok (.getfield 120, 3) := by decide +kernel
theorem dX11_takeBarrel_111 : decode cX11_takeBarrel 111 = .ok (.putfield 120, 3) := by decide +kernel
theorem dX11_takeBarrel_114 : decode cX11_takeBarrel 114 = .ok (.aload_n 0, 1) := by decide +kernel
theorem dX11_takeBarrel_115 : decode cX11_takeBarrel 115 = .ok (.aload_n 0, 1) := by decide +kernel
theorem dX11_takeBarrel_116 : decode cX11_takeBarrel 116 = .ok (.getfield 31, 3) := by decide +kernel
theorem dX11_takeBarrel_119 : decode cX11_takeBarrel 119 = .ok (.bipush 7, 2) := by decide +kernel
theorem dX11_takeBarrel_121 : decode cX11_takeBarrel 121 = .ok (.iload_n 3, 1) := by decide +kernel
theorem dX11_takeBarrel_122 : decode cX11_takeBarrel 122 = .ok (.imul, 1) := by decide +kernel
theorem dX11_takeBarrel_123 : decode cX11_takeBarrel 123 = .ok (.iconst 4, 1) := by decide +kernel
theorem dX11_takeBarrel_124 : decode cX11_takeBarrel 124 = .ok (.iadd, 1) := by decide +kernel
theorem dX11_takeBarrel_125 : decode cX11_takeBarrel 125 = .ok (.iaload, 1) := by decide +kernel
theorem dX11_takeBarrel_126 : decode cX11_takeBarrel 126 = .ok (.aload_n 0, 1) := by decide +kernel
theorem dX11_takeBarrel_127 : decode cX11_takeBarrel 127 = .ok (.getfield 127, 3) := by decide +kernel
theorem dX11_takeBarrel_130 : decode cX11_takeBarrel 130 = .ok (.if_icmp .ge 17, 3) := by decide +kernel
theorem dX11_takeBarrel_133 : decode cX11_takeBarrel 133 = .ok (.aload_n 0, 1) := by decide +kernel
theorem dX11_takeBarrel_134 : decode cX11_takeBarrel 134 = .ok (.getfield 31, 3) := by decide +kernel
theorem dX11_takeBarrel_137 : decode cX11_takeBarrel 137 = .ok (.bipush 7, 2) := by decide +kernel
theorem dX11_takeBarrel_139 : decode cX11_takeBarrel 139 = .ok (.iload_n 3, 1) := by decide +kernel
theorem dX11_takeBarrel_140 : decode cX11_takeBarrel 140 = .ok (.imul, 1) := by decide +kernel
theorem dX11_takeBarrel_141 : decode cX11_takeBarrel 141 = .ok (.iconst 4, 1) := by decide +kernel
theorem dX11_takeBarrel_142 : decode cX11_takeBarrel 142 = .ok (.iadd, 1) := by decide +kernel
theorem dX11_takeBarrel_143 : decode cX11_takeBarrel 143 = .ok (.iaload, 1) := by decide +kernel
theorem dX11_takeBarrel_144 : decode cX11_takeBarrel 144 = .ok (.goto 7, 3) := by decide +kernel
theorem dX11_takeBarrel_147 : decode cX11_takeBarrel 147 = .ok (.aload_n 0, 1) := by decide +kernel
theorem dX11_takeBarrel_148 : decode cX11_takeBarrel 148 = .ok (.getfield 127, 3) := by decide +kernel
theorem dX11_takeBarrel_151 : decode cX11_takeBarrel 151 = .ok (.putfield 127, 3) := by decide +kernel
theorem dX11_takeBarrel_154 : decode cX11_takeBarrel 154 = .ok (.aload_n 0, 1) := by decide +kernel
theorem dX11_takeBarrel_155 : decode cX11_takeBarrel 155 = .ok (.dup, 1) := by decide +kernel
theorem dX11_takeBarrel_156 : decode cX11_takeBarrel 156 = .ok (.getfield 176, 3) := by decide +kernel
theorem dX11_takeBarrel_159 : decode cX11_takeBarrel 159 = .ok (.iload_n 2, 1) := by decide +kernel
theorem dX11_takeBarrel_160 : decode cX11_takeBarrel 160 = .ok (.iload_n 3, 1) := by decide +kernel
theorem dX11_takeBarrel_161 : decode cX11_takeBarrel 161 = .ok (.ishr, 1) := by decide +kernel
theorem dX11_takeBarrel_162 : decode cX11_takeBarrel 162 = .ok (.iconst 1, 1) := by decide +kernel
theorem dX11_takeBarrel_163 : decode cX11_takeBarrel 163 = .ok (.iand, 1) := by decide +kernel
theorem dX11_takeBarrel_164 : decode cX11_takeBarrel 164 = .ok (.ifCond .ne 7, 3) := by decide +kernel
theorem dX11_takeBarrel_167 : decode cX11_takeBarrel 167 = .ok (.iconst 1, 1) := by decide +kernel
theorem dX11_takeBarrel_168 : decode cX11_takeBarrel 168 = .ok (.goto 4, 3) := by decide +kernel
theorem dX11_takeBarrel_171 : decode cX11_takeBarrel 171 = .ok (.iconst 0, 1) := by decide +kernel
theorem dX11_takeBarrel_172 : decode cX11_takeBarrel 172 = .ok (.iadd, 1) := by decide +kernel
theorem dX11_takeBarrel_173 : decode cX11_takeBarrel 173 = .ok (.putfield 176, 3) := by decide +kernel
theorem dX11_takeBarrel_176 : decode cX11_takeBarrel 176 = .ok (.iload_n 2, 1) := by decide +kernel
theorem dX11_takeBarrel_177 : decode cX11_takeBarrel 177 = .ok (.iconst 1, 1) := by decide +kernel
theorem dX11_takeBarrel_178 : decode cX11_takeBarrel 178 = .ok (.iload_n 3, 1) := by decide +kernel
theorem dX11_takeBarrel_179 : decode cX11_takeBarrel 179 = .ok (.ishl, 1) := by decide +kernel
theorem dX11_takeBarrel_180 : decode cX11_takeBarrel 180 = .ok (.ior, 1) := by decide +kernel
theorem dX11_takeBarrel_181 : decode cX11_takeBarrel 181 = .ok (.istore_n 2, 1) := by decide +kernel
theorem dX11_takeBarrel_182 : decode cX11_takeBarrel 182 = .ok (.aload_n 0, 1) := by decide +kernel
theorem dX11_takeBarrel_183 : decode cX11_takeBarrel 183 = .ok (.aload_n 0, 1) := by decide +kernel
theorem dX11_takeBarrel_184 : decode cX11_takeBarrel 184 = .ok (.getfield 79, 3) := by decide +kernel
theorem dX11_takeBarrel_187 : decode cX11_takeBarrel 187 = .ok (.aload_n 0, 1) := by decide +kernel
theorem dX11_takeBarrel_188 : decode cX11_takeBarrel 188 = .ok (.getfield 170, 3) := by decide +kernel
theorem dX11_takeBarrel_191 : decode cX11_takeBarrel 191 = .ok (.iaload, 1) := by decide +kernel
theorem dX11_takeBarrel_192 : decode cX11_takeBarrel 192 = .ok (.putfield 167, 3) := by decide +kernel
theorem dX11_takeBarrel_195 : decode cX11_takeBarrel 195 = .ok (.iload_n 1, 1) := by decide +kernel
theorem dX11_takeBarrel_196 : decode cX11_takeBarrel 196 = .ok (.iload 5, 2) := by decide +kernel
theorem dX11_takeBarrel_198 : decode cX11_takeBarrel 198 = .ok (.isub, 1) := by decide +kernel
theorem dX11_takeBarrel_199 : decode cX11_takeBarrel 199 = .ok (.istore_n 1, 1) := by decide +kernel
theorem dX11_takeBarrel_200 : decode cX11_takeBarrel 200 = .ok (.aload_n 0, 1) := by decide +kernel
theorem dX11_takeBarrel_201 : decode cX11_takeBarrel 201 = .ok (.dup, 1) := by decide +kernel
theorem dX11_takeBarrel_202 : decode cX11_takeBarrel 202 = .ok (.getfield 173, 3) := by decide +kernel
theorem dX11_takeBarrel_205 : decode cX11_takeBarrel 205 = .ok (.iload 5, 2) := by decide +kernel
theorem dX11_takeBarrel_207 : decode cX11_takeBarrel 207 = .ok (.iadd, 1) := by decide +kernel
theorem dX11_takeBarrel_208 : decode cX11_takeBarrel 208 = .ok (.putfield 173, 3) := by decide +kernel
theorem dX11_takeBarrel_211 : decode cX11_takeBarrel 211 = .ok (.aload_n 0, 1) := by decide +kernel
theorem dX11_takeBarrel_212 : decode cX11_takeBarrel 212 = .ok (.getfield 173, 3) := by decide +kernel
theorem dX11_takeBarrel_215 : decode cX11_takeBarrel 215 = .ok (.aload_n 0, 1) := by decide +kernel
theorem dX11_takeBarrel_216 : decode cX11_takeBarrel 216 = .ok (.getfield 82, 3) := by decide +kernel
theorem dX11_takeBarrel_219 : decode cX11_takeBarrel 219 = .ok (.aload_n 0, 1) := by decide +kernel
theorem dX11_takeBarrel_220 : decode cX11_takeBarrel 220 = .ok (.getfield 170, 3) := by decide +kernel
theorem dX11_takeBarrel_223 : decode cX11_takeBarrel 223 = .ok (.iaload, 1) := by decide +kernel
theorem dX11_takeBarrel_224 : decode cX11_takeBarrel 224 = .ok (.if_icmp .ne 18, 3) := by decide +kernel
theorem dX11_takeBarrel_227 : decode cX11_takeBarrel 227 = .ok (.aload_n 0, 1) := by decide +kernel
theorem dX11_takeBarrel_228 : decode cX11_takeBarrel 228 = .ok (.dup, 1) := by decide +kernel
theorem dX11_takeBarrel_229 : decode cX11_takeBarrel 229 = .ok (.getfield 170, 3) := by decide +kernel
theorem dX11_takeBarrel_232 : decode cX11_takeBarrel 232 = .ok (.iconst 1, 1) := by decide +kernel
theorem dX11_takeBarrel_233 : decode cX11_takeBarrel 233 = .ok (.iadd, 1) := by decide +kernel
theorem dX11_takeBarrel_234 : decode cX11_takeBarrel 234 = .ok (.putfield 170, 3) := by decide +kernel
theorem dX11_takeBarrel_237 : decode cX11_takeBarrel 237 = .ok (.aload_n 0, 1) := by decide +kernel
theorem dX11_takeBarrel_238 : decode cX11_takeBarrel 238 = .ok (.iconst 0, 1) := by decide +kernel
theorem dX11_takeBarrel_239 : decode cX11_takeBarrel 239 = .ok (.putfield 173, 3) := by decide +kernel
theorem dX11_takeBarrel_242 : decode cX11_takeBarrel 242 = .ok (.goto (-217), 3) := by decide +kernel
theorem dX11_takeBarrel_245 : decode cX11_takeBarrel 245 = .ok (.return_, 1) := by decide +kernel
theorem dX11_barrelsNow_0 : decode cX11_barrelsNow 0 = .ok (.aload_n 0, 1) := by decide +kernel
theorem dX11_barrelsNow_1 : decode cX11_barrelsNow 1 = .ok (.getfield 148, 3) := by decide +kernel
theorem dX11_barrelsNow_4 : decode cX11_barrelsNow 4 = .ok (.aload_n 0, 1) := by decide +kernel
theorem dX11_barrelsNow_5 : decode cX11_barrelsNow 5 = .ok (.getfield 28, 3) := by decide +kernel
theorem dX11_barrelsNow_8 : decode cX11_barrelsNow 8 = .ok (.iconst 1, 1) := by decide +kernel
theorem dX11_barrelsNow_9 : decode cX11_barrelsNow 9 = .ok (.iaload, 1) := by decide +kernel
theorem dX11_barrelsNow_10 : decode cX11_barrelsNow 10 = .ok (.idiv, 1) := by decide +kernel
theorem dX11_barrelsNow_11 : decode cX11_barrelsNow 11 = .ok (.ireturn, 1) := by decide +kernel
theorem dX11_takes_0 : decode cX11_takes 0 = .ok (.aload_n 0, 1) := by decide +kernel
theorem dX11_takes_1 : decode cX11_takes 1 = .ok (.iload_n 1, 1) := by decide +kernel
theorem dX11_takes_2 : decode cX11_takes 2 = .ok (.invokevirtual 179, 3) := by decide +kernel
theorem dX11_takes_5 : decode cX11_takes 5 = .ok (.iload_n 2, 1) := by decide +kernel
theorem dX11_takes_6 : decode cX11_takes 6 = .ok (.iconst 0, 1) := by decide +kernel
theorem dX11_takes_7 : decode cX11_takes 7 = .ok (.aload_n 0, 1) := by decide +kernel
theorem dX11_takes_8 : decode cX11_takes 8 = .ok (.invokevirtual 182, 3) := by decide +kernel
theorem dX11_takes_11 : decode cX11_takes 11 = .ok (.iconst 1, 1) := by decide +kernel
theorem dX11_takes_12 : decode cX11_takes 12 = .ok (.isub, 1) := by decide +kernel
theorem dX11_takes_13 : decode cX11_takes 13 = .ok (.invokestatic 94, 3) := by decide +kernel
theorem dX11_takes_16 : decode cX11_takes 16 = .ok (.ifCond .ne 5, 3) := by decide +kernel
theorem dX11_takes_19 : decode cX11_takes 19 = .ok (.iconst 0, 1) := by decide +kernel
theorem dX11_takes_20 : decode cX11_takes 20 = .ok (.ireturn, 1) := by decide +kernel
theorem dX11_takes_21 : decode cX11_takes 21 = .ok (.iconst 0, 1) := by decide +kernel
theorem dX11_takes_22 : decode cX11_takes 22 = .ok (.istore_n 3, 1) := by decide +kernel
theorem dX11_takes_23 : decode cX11_takes 23 = .ok (.iload_n 3, 1) := by decide +kernel
theorem dX11_takes_24 : decode cX11_takes 24 = .ok (.iload_n 2, 1) := by decide +kernel
theorem dX11_takes_25 : decode cX11_takes 25 = .ok (.if_icmp .gt 13, 3) := by decide +kernel
theorem dX11_takes_28 : decode cX11_takes 28 = .ok (.aload_n 0, 1) := by decide +kernel
theorem dX11_takes_29 : decode cX11_takes 29 = .ok (.invokevirtual 185, 3) := by decide +kernel
theorem dX11_takes_32 : decode cX11_takes 32 = .ok (.iinc 3 1, 3) := by decide +kernel
theorem dX11_takes_35 : decode cX11_takes 35 = .ok (.goto (-12), 3) := by decide +kernel
theorem dX11_takes_38 : decode cX11_takes 38 = .ok (.iconst 1, 1) := by decide +kernel
theorem dX11_takes_39 : decode cX11_takes 39 = .ok (.ireturn, 1) := by decide +kernel
theorem dX11_brand_0 : decode cX11_brand 0 = .ok (.iload_n 1, 1) := by decide +kernel
theorem dX11_brand_1 : decode cX11_brand 1 = .ok (.invokestatic 133, 3) := by decide +kernel
theorem dX11_brand_4 : decode cX11_brand 4 = .ok (.ifCond .eq 12, 3) := by decide +kernel
theorem dX11_brand_7 : decode cX11_brand 7 = .ok (.aload_n 0, 1) := by decide +kernel
theorem dX11_brand_8 : decode cX11_brand 8 = .ok (.iload_n 1, 1) := by decide +kernel
theorem dX11_brand_9 : decode cX11_brand 9 = .ok (.iload_n 2, 1) := by decide +kernel
theorem dX11_brand_10 : decode cX11_brand 10 = .ok (.invokevirtual 188, 3) := by decide +kernel
theorem dX11_brand_13 : decode cX11_brand 13 = .ok (.ifCond .ne 5, 3) := by decide +kernel
theorem dX11_brand_16 : decode cX11_brand 16 = .ok (.iconst (-1), 1) := by decide +kernel
theorem dX11_brand_17 : decode cX11_brand 17 = .ok (.ireturn, 1) := by decide +kernel
theorem dX11_brand_18 : decode cX11_brand 18 = .ok (.iload_n 3, 1) := by decide +kernel
theorem dX11_brand_19 : decode cX11_brand 19 = .ok (.invokestatic 110, 3) := by decide +kernel
theorem dX11_brand_22 : decode cX11_brand 22 = .ok (.ifCond .eq 12, 3) := by decide +kernel
theorem dX11_brand_25 : decode cX11_brand 25 = .ok (.aload_n 0, 1) := by decide +kernel
theorem dX11_brand_26 : decode cX11_brand 26 = .ok (.iload_n 1, 1) := by decide +kernel
theorem dX11_brand_27 : decode cX11_brand 27 = .ok (.iload_n 3, 1) := by decide +kernel
theorem dX11_brand_28 : decode cX11_brand 28 = .ok (.invokevirtual 192, 3) := by decide +kernel
theorem dX11_brand_31 : decode cX11_brand 31 = .ok (.goto 5, 3) := by decide +kernel
theorem dX11_brand_34 : decode cX11_brand 34 = .ok (.bipush (-2), 2) := by decide +kernel
theorem dX11_brand_36 : decode cX11_brand 36 = .ok (.ireturn, 1) := by decide +kernel
theorem dX11_barrel_0 : decode cX11_barrel 0 = .ok (.iload_n 1, 1) := by decide +kernel
theorem dX11_barrel_1 : decode cX11_barrel 1 = .ok (.invokestatic 133, 3) := by decide +kernel
theorem dX11_barrel_4 : decode cX11_barrel 4 = .ok (.ifCond .ne 5, 3) := by decide +kernel
theorem dX11_barrel_7 : decode cX11_barrel 7 = .ok (.iconst (-1), 1) := by decide +kernel
theorem dX11_barrel_8 : decode cX11_barrel 8 = .ok (.ireturn, 1) := by decide +kernel
theorem dX11_barrel_9 : decode cX11_barrel 9 = .ok (.iload_n 2, 1) := by decide +kernel
theorem dX11_barrel_10 : decode cX11_barrel 10 = .ok (.iconst (-1), 1) := by decide +kernel
theorem dX11_barrel_11 : decode cX11_barrel 11 = .ok (.if_icmp .ne 28, 3) := by decide +kernel
theorem dX11_barrel_14 : decode cX11_barrel 14 = .ok (.aload_n 0, 1) := by decide +kernel
theorem dX11_barrel_15 : decode cX11_barrel 15 = .ok (.iload_n 1, 1) := by decide +kernel
theorem dX11_barrel_16 : decode cX11_barrel 16 = .ok (.invokevirtual 160, 3) := by decide +kernel
theorem dX11_barrel_19 : decode cX11_barrel 19 = .ok (.iload_n 3, 1) := by decide +kernel
theorem dX11_barrel_20 : decode cX11_barrel 20 = .ok (.iconst 0, 1) := by decide +kernel
theorem dX11_barrel_21 : decode cX11_barrel 21 = .ok (.bipush 6, 2) := by decide +kernel
theorem dX11_barrel_23 : decode cX11_barrel 23 = .ok (.invokestatic 94, 3) := by decide +kernel
theorem dX11_barrel_26 : decode cX11_barrel 26 = .ok (.ifCond .eq 10, 3) := by decide +kernel
theorem dX11_barrel_29 : decode cX11_barrel 29 = .ok (.aload_n 0, 1) := by decide +kernel
theorem dX11_barrel_30 : decode cX11_barrel 30 = .ok (.invokevirtual 182, 3) := by decide +kernel
theorem dX11_barrel_33 : decode cX11_barrel 33 = .ok (.goto 5, 3) := by decide +kernel
theorem dX11_barrel_36 : decode cX11_barrel 36 = .ok (.bipush (-2), 2) := by decide +kernel
theorem dX11_barrel_38 : decode cX11_barrel 38 = .ok (.ireturn, 1) := by decide +kernel
theorem dX11_barrel_39 : decode cX11_barrel 39 = .ok (.aload_n 0, 1) := by decide +kernel
theorem dX11_barrel_40 : decode cX11_barrel 40 = .ok (.iload_n 1, 1) := by decide +kernel
theorem dX11_barrel_41 : decode cX11_barrel 41 = .ok (.iload_n 2, 1) := by decide +kernel
theorem dX11_barrel_42 : decode cX11_barrel 42 = .ok (.invokevirtual 188, 3) := by decide +kernel
theorem dX11_barrel_45 : decode cX11_barrel 45 = .ok (.ifCond .ne 5, 3) := by decide +kernel
theorem dX11_barrel_48 : decode cX11_barrel 48 = .ok (.iconst (-1), 1) := by decide +kernel
theorem dX11_barrel_49 : decode cX11_barrel 49 = .ok (.ireturn, 1) := by decide +kernel
theorem dX11_barrel_50 : decode cX11_barrel 50 = .ok (.iload_n 3, 1) := by decide +kernel
theorem dX11_barrel_51 : decode cX11_barrel 51 = .ok (.tableswitch 89 0 6 #[41, 46, 51, 65, 72, 79, 84], 41) := by decide +kernel
theorem dX11_barrel_92 : decode cX11_barrel 92 = .ok (.aload_n 0, 1) := by decide +kernel
theorem dX11_barrel_93 : decode cX11_barrel 93 = .ok (.getfield 167, 3) := by decide +kernel
theorem dX11_barrel_96 : decode cX11_barrel 96 = .ok (.ireturn, 1) := by decide +kernel
theorem dX11_barrel_97 : decode cX11_barrel 97 = .ok (.aload_n 0, 1) := by decide +kernel
theorem dX11_barrel_98 : decode cX11_barrel 98 = .ok (.getfield 120, 3) := by decide +kernel
theorem dX11_barrel_101 : decode cX11_barrel 101 = .ok (.ireturn, 1) := by decide +kernel
theorem dX11_barrel_102 : decode cX11_barrel 102 = .ok (.aload_n 0, 1) := by decide +kernel
theorem dX11_barrel_103 : decode cX11_barrel 103 = .ok (.getfield 28, 3) := by decide +kernel
theorem dX11_barrel_106 : decode cX11_barrel 106 = .ok (.iconst 1, 1) := by decide +kernel
theorem dX11_barrel_107 : decode cX11_barrel 107 = .ok (.iaload, 1) := by decide +kernel
theorem dX11_barrel_108 : decode cX11_barrel 108 = .ok (.aload_n 0, 1) := by decide +kernel
theorem dX11_barrel_109 : decode cX11_barrel 109 = .ok (.getfield 28, 3) := by decide +kernel
theorem dX11_barrel_112 : decode cX11_barrel 112 = .ok (.iconst 2, 1) := by decide +kernel
theorem dX11_barrel_113 : decode cX11_barrel 113 = .ok (.iaload, 1) := by decide +kernel
theorem dX11_barrel_114 : decode cX11_barrel 114 = .ok (.idiv, 1) := by decide +kernel
theorem dX11_barrel_115 : decode cX11_barrel 115 = .ok (.ireturn, 1) := by decide +kernel
theorem dX11_barrel_116 : decode cX11_barrel 116 = .ok (.aload_n 0, 1) := by decide +kernel
theorem dX11_barrel_117 : decode cX11_barrel 117 = .ok (.iload_n 1, 1) := by decide +kernel
theorem dX11_barrel_118 : decode cX11_barrel 118 = .ok (.iconst 3, 1) := by decide +kernel
theorem dX11_barrel_119 : decode cX11_barrel 119 = .ok (.invokevirtual 123, 3) := by decide +kernel
theorem dX11_barrel_122 : decode cX11_barrel 122 = .ok (.ireturn, 1) := by decide +kernel
theorem dX11_barrel_123 : decode cX11_barrel 123 = .ok (.aload_n 0, 1) := by decide +kernel
theorem dX11_barrel_124 : decode cX11_barrel 124 = .ok (.iload_n 1, 1) := by decide +kernel
theorem dX11_barrel_125 : decode cX11_barrel 125 = .ok (.iconst 2, 1) := by decide +kernel
theorem dX11_barrel_126 : decode cX11_barrel 126 = .ok (.invokevirtual 123, 3) := by decide +kernel
theorem dX11_barrel_129 : decode cX11_barrel 129 = .ok (.ireturn, 1) := by decide +kernel
theorem dX11_barrel_130 : decode cX11_barrel 130 = .ok (.aload_n 0, 1) := by decide +kernel
theorem dX11_barrel_131 : decode cX11_barrel 131 = .ok (.getfield 127, 3) := by decide +kernel
theorem dX11_barrel_134 : decode cX11_barrel 134 = .ok (.ireturn, 1) := by decide +kernel
theorem dX11_barrel_135 : decode cX11_barrel 135 = .ok (.aload_n 0, 1) := by decide +kernel
theorem dX11_barrel_136 : decode cX11_barrel 136 = .ok (.getfield 176, 3) := by decide +kernel
theorem dX11_barrel_139 : decode cX11_barrel 139 = .ok (.ireturn, 1) := by decide +kernel
theorem dX11_barrel_140 : decode cX11_barrel 140 = .ok (.bipush (-2), 2) := by decide +kernel
theorem dX11_barrel_142 : decode cX11_barrel 142 = .ok (.ireturn, 1) := by decide +kernel
theorem dX11_filled_0 : decode cX11_filled 0 = .ok (.iload_n 1, 1) := by decide +kernel
theorem dX11_filled_1 : decode cX11_filled 1 = .ok (.invokestatic 133, 3) := by decide +kernel
theorem dX11_filled_4 : decode cX11_filled 4 = .ok (.ifCond .eq 12, 3) := by decide +kernel
theorem dX11_filled_7 : decode cX11_filled 7 = .ok (.iload_n 2, 1) := by decide +kernel
theorem dX11_filled_8 : decode cX11_filled 8 = .ok (.iconst 0, 1) := by decide +kernel
theorem dX11_filled_9 : decode cX11_filled 9 = .ok (.iconst 5, 1) := by decide +kernel
theorem dX11_filled_10 : decode cX11_filled 10 = .ok (.invokestatic 94, 3) := by decide +kernel
theorem dX11_filled_13 : decode cX11_filled 13 = .ok (.ifCond .ne 5, 3) := by decide +kernel
theorem dX11_filled_16 : decode cX11_filled 16 = .ok (.iconst (-1), 1) := by decide +kernel
theorem dX11_filled_17 : decode cX11_filled 17 = .ok (.ireturn, 1) := by decide +kernel
theorem dX11_filled_18 : decode cX11_filled 18 = .ok (.iload_n 3, 1) := by decide +kernel
theorem dX11_filled_19 : decode cX11_filled 19 = .ok (.invokestatic 139, 3) := by decide +kernel
theorem dX11_filled_22 : decode cX11_filled 22 = .ok (.ifCond .eq 13, 3) := by decide +kernel
theorem dX11_filled_25 : decode cX11_filled 25 = .ok (.iload 4, 2) := by decide +kernel
theorem dX11_filled_27 : decode cX11_filled 27 = .ok (.iconst 0, 1) := by decide +kernel
theorem dX11_filled_28 : decode cX11_filled 28 = .ok (.iconst 1, 1) := by decide +kernel
theorem dX11_filled_29 : decode cX11_filled 29 = .ok (.invokestatic 94, 3) := by decide +kernel
theorem dX11_filled_32 : decode cX11_filled 32 = .ok (.ifCond .ne 6, 3) := by decide +kernel
theorem dX11_filled_35 : decode cX11_filled 35 = .ok (.bipush (-2), 2) := by decide +kernel
theorem dX11_filled_37 : decode cX11_filled 37 = .ok (.ireturn, 1) := by decide +kernel
theorem dX11_filled_38 : decode cX11_filled 38 = .ok (.aload_n 0, 1) := by decide +kernel
theorem dX11_filled_39 : decode cX11_filled 39 = .ok (.iload_n 1, 1) := by decide +kernel
theorem dX11_filled_40 : decode cX11_filled 40 = .ok (.invokevirtual 179, 3) := by decide +kernel
theorem dX11_filled_43 : decode cX11_filled 43 = .ok (.aload_n 0, 1) := by decide +kernel
theorem dX11_filled_44 : decode cX11_filled 44 = .ok (.invokevirtual 182, 3) := by decide +kernel
theorem dX11_filled_47 : decode cX11_filled 47 = .ok (.istore 5, 2) := by decide +kernel
theorem dX11_filled_49 : decode cX11_filled 49 = .ok (.iconst 0, 1) := by decide +kernel
theorem dX11_filled_50 : decode cX11_filled 50 = .ok (.istore 6, 2) := by decide +kernel
theorem dX11_filled_52 : decode cX11_filled 52 = .ok (.iconst 0, 1) := by decide +kernel
theorem dX11_filled_53 : decode cX11_filled 53 = .ok (.istore 7, 2) := by decide +kernel
theorem dX11_filled_55 : decode cX11_filled 55 = .ok (.iload 7, 2) := by decide +kernel
theorem dX11_filled_57 : decode cX11_filled 57 = .ok (.iload 5, 2) := by decide +kernel
theorem dX11_filled_59 : decode cX11_filled 59 = .ok (.if_icmp .ge 51, 3) := by decide +kernel
theorem dX11_filled_62 : decode cX11_filled 62 = .ok (.aload_n 0, 1) := by decide +kernel
theorem dX11_filled_63 : decode cX11_filled 63 = .ok (.invokevirtual 185, 3) := by decide +kernel
theorem dX11_filled_66 : decode cX11_filled 66 = .ok (.iload 6, 2) := by decide +kernel
theorem dX11_filled_68 : decode cX11_filled 68 = .ok (.aload_n 0, 1) := by decide +kernel
theorem dX11_filled_69 : decode cX11_filled 69 = .ok (.getfield 167, 3) := by decide +kernel
theorem dX11_filled_72 : decode cX11_filled 72 = .ok (.iload_n 3, 1) := by decide +kernel
theorem dX11_filled_73 : decode cX11_filled 73 = .ok (.sipush 240, 3) := by decide +kernel
theorem dX11_filled_76 : decode cX11_filled 76 = .ok (.isub, 1) := by decide +kernel
theorem dX11_filled_77 : decode cX11_filled 77 = .ok (.if_icmp .gt 23, 3) := by decide +kernel
theorem dX11_filled_80 : decode cX11_filled 80 = .ok (.aload_n 0, 1) := by decide +kernel
theorem dX11_filled_81 : decode cX11_filled 81 = .ok (.iload_n 1, 1) := by decide +kernel
theorem dX11_filled_82 : decode cX11_filled 82 = .ok (.aload_n 0, 1) := by decide +kernel
theorem dX11_filled_83 : decode cX11_filled 83 = .ok (.getfield 167, 3) := by decide +kernel
theorem dX11_filled_86 : decode cX11_filled 86 = .ok (.bipush 24, 2) := by decide +kernel
theorem dX11_filled_88 : decode cX11_filled 88 = .ok (.idiv, 1) := by decide +kernel
theorem dX11_filled_89 : decode cX11_filled 89 = .ok (.invokevirtual 192, 3) := by decide +kernel
theorem dX11_filled_92 : decode cX11_filled 92 = .ok (.iload_n 2, 1) := by decide +kernel
theorem dX11_filled_93 : decode cX11_filled 93 = .ok (.if_icmp .ne 7, 3) := by decide +kernel
theorem dX11_filled_96 : decode cX11_filled 96 = .ok (.iconst 1, 1) := by decide +kernel
theorem dX11_filled_97 : decode cX11_filled 97 = .ok (.goto 4, 3) := by decide +kernel
theorem dX11_filled_100 : decode cX11_filled 100 = .ok (.iconst 0, 1) := by decide +kernel
theorem dX11_filled_101 : decode cX11_filled 101 = .ok (.iadd, 1) := by decide +kernel
theorem dX11_filled_102 : decode cX11_filled 102 = .ok (.istore 6, 2) := by decide +kernel
theorem dX11_filled_104 : decode cX11_filled 104 = .ok (.iinc 7 1, 3) := by decide +kernel
theorem dX11_filled_107 : decode cX11_filled 107 = .ok (.goto (-52), 3) := by decide +kernel
theorem dX11_filled_110 : decode cX11_filled 110 = .ok (.iload 6, 2) := by decide +kernel
theorem dX11_filled_112 : decode cX11_filled 112 = .ok (.aload_n 0, 1) := by decide +kernel
theorem dX11_filled_113 : decode cX11_filled 113 = .ok (.getfield 28, 3) := by decide +kernel
theorem dX11_filled_116 : decode cX11_filled 116 = .ok (.iconst 1, 1) := by decide +kernel
theorem dX11_filled_117 : decode cX11_filled 117 = .ok (.iaload, 1) := by decide +kernel
theorem dX11_filled_118 : decode cX11_filled 118 = .ok (.aload_n 0, 1) := by decide +kernel
theorem dX11_filled_119 : decode cX11_filled 119 = .ok (.getfield 28, 3) := by decide +kernel
theorem dX11_filled_122 : decode cX11_filled 122 = .ok (.iconst 1, 1) := by decide +kernel
theorem dX11_filled_123 : decode cX11_filled 123 = .ok (.iaload, 1) := by decide +kernel
theorem dX11_filled_124 : decode cX11_filled 124 = .ok (.aload_n 0, 1) := by decide +kernel
theorem dX11_filled_125 : decode cX11_filled 125 = .ok (.getfield 28, 3) := by decide +kernel
theorem dX11_filled_128 : decode cX11_filled 128 = .ok (.iconst 3, 1) := by decide +kernel
theorem dX11_filled_129 : decode cX11_filled 129 = .ok (.iaload, 1) := by decide +kernel
theorem dX11_filled_130 : decode cX11_filled 130 = .ok (.imul, 1) := by decide +kernel
theorem dX11_filled_131 : decode cX11_filled 131 = .ok (.bipush 100, 2) := by decide +kernel
theorem dX11_filled_133 : decode cX11_filled 133 = .ok (.idiv, 1) := by decide +kernel
theorem dX11_filled_134 : decode cX11_filled 134 = .ok (.isub, 1) := by decide +kernel
theorem dX11_filled_135 : decode cX11_filled 135 = .ok (.imul, 1) := by decide +kernel
theorem dX11_filled_136 : decode cX11_filled 136 = .ok (.istore 7, 2) := by decide +kernel
theorem dX11_filled_138 : decode cX11_filled 138 = .ok (.iload 4, 2) := by decide +kernel
theorem dX11_filled_140 : decode cX11_filled 140 = .ok (.ifCond .ne 15, 3) := by decide +kernel
theorem dX11_filled_143 : decode cX11_filled 143 = .ok (.iload 7, 2) := by decide +kernel
theorem dX11_filled_145 : decode cX11_filled 145 = .ok (.aload_n 0, 1) := by decide +kernel
theorem dX11_filled_146 : decode cX11_filled 146 = .ok (.getfield 28, 3) := by decide +kernel
theorem dX11_filled_149 : decode cX11_filled 149 = .ok (.iconst 1, 1) := by decide +kernel
theorem dX11_filled_150 : decode cX11_filled 150 = .ok (.iaload, 1) := by decide +kernel
theorem dX11_filled_151 : decode cX11_filled 151 = .ok (.idiv, 1) := by decide +kernel
theorem dX11_filled_152 : decode cX11_filled 152 = .ok (.goto 12, 3) := by decide +kernel
theorem dX11_filled_155 : decode cX11_filled 155 = .ok (.iload 7, 2) := by decide +kernel
theorem dX11_filled_157 : decode cX11_filled 157 = .ok (.aload_n 0, 1) := by decide +kernel
theorem dX11_filled_158 : decode cX11_filled 158 = .ok (.getfield 28, 3) := by decide +kernel
theorem dX11_filled_161 : decode cX11_filled 161 = .ok (.iconst 1, 1) := by decide +kernel
theorem dX11_filled_162 : decode cX11_filled 162 = .ok (.iaload, 1) := by decide +kernel
theorem dX11_filled_163 : decode cX11_filled 163 = .ok (.irem, 1) := by decide +kernel
theorem dX11_filled_164 : decode cX11_filled 164 = .ok (.ireturn, 1) := by decide +kernel
theorem dX11_choose_0 : decode cX11_choose 0 = .ok (.iload_n 1, 1) := by decide +kernel
theorem dX11_choose_1 : decode cX11_choose 1 = .ok (.iload_n 0, 1) := by decide +kernel
theorem dX11_choose_2 : decode cX11_choose 2 = .ok (.if_icmp .le 7, 3) := by decide +kernel
theorem dX11_choose_5 : decode cX11_choose 5 = .ok (.lconst 0, 1) := by decide +kernel
theorem dX11_choose_6 : decode cX11_choose 6 = .ok (.goto 4, 3) := by decide +kernel
theorem dX11_choose_9 : decode cX11_choose 9 = .ok (.lconst 1, 1) := by decide +kernel
theorem dX11_choose_10 : decode cX11_choose 10 = .ok (.lstore_n 2, 1) := by decide +kernel
theorem dX11_choose_11 : decode cX11_choose 11 = .ok (.iconst 0, 1) := by decide +kernel
theorem dX11_choose_12 : decode cX11_choose 12 = .ok (.istore 4, 2) := by decide +kernel
theorem dX11_choose_14 : decode cX11_choose 14 = .ok (.iload 4, 2) := by decide +kernel
theorem dX11_choose_16 : decode cX11_choose 16 = .ok (.iload_n 1, 1) := by decide +kernel
theorem dX11_choose_17 : decode cX11_choose 17 = .ok (.if_icmp .ge 29, 3) := by decide +kernel
theorem dX11_choose_20 : decode cX11_choose 20 = .ok (.lload_n 2, 1) := by decide +kernel
theorem dX11_choose_21 : decode cX11_choose 21 = .ok (.lconst 0, 1) := by decide +kernel
theorem dX11_choose_22 : decode cX11_choose 22 = .ok (.lcmp, 1) := by decide +kernel
theorem dX11_choose_23 : decode cX11_choose 23 = .ok (.ifCond .le 23, 3) := by decide +kernel
theorem dX11_choose_26 : decode cX11_choose 26 = .ok (.lload_n 2, 1) := by decide +kernel
theorem dX11_choose_27 : decode cX11_choose 27 = .ok (.iload_n 0, 1) := by decide +kernel
theorem dX11_choose_28 : decode cX11_choose 28 = .ok (.iload 4, 2) := by decide +kernel
theorem dX11_choose_30 : decode cX11_choose 30 = .ok (.isub, 1) := by decide +kernel
theorem dX11_choose_31 : decode cX11_choose 31 = .ok (.i2l, 1) := by decide +kernel
theorem dX11_choose_32 : decode cX11_choose 32 = .ok (.lmul, 1) := by decide +kernel
theorem dX11_choose_33 : decode cX11_choose 33 = .ok (.iload 4, 2) := by decide +kernel
theorem dX11_choose_35 : decode cX11_choose 35 = .ok (.iconst 1, 1) := by decide +kernel
theorem dX11_choose_36 : decode cX11_choose 36 = .ok (.iadd, 1) := by decide +kernel
theorem dX11_choose_37 : decode cX11_choose 37 = .ok (.i2l, 1) := by decide +kernel
theorem dX11_choose_38 : decode cX11_choose 38 = .ok (.ldiv, 1) := by decide +kernel
theorem dX11_choose_39 : decode cX11_choose 39 = .ok (.lstore_n 2, 1) := by decide +kernel
theorem dX11_choose_40 : decode cX11_choose 40 = .ok (.iinc 4 1, 3) := by decide +kernel
theorem dX11_choose_43 : decode cX11_choose 43 = .ok (.goto (-29), 3) := by decide +kernel
theorem dX11_choose_46 : decode cX11_choose 46 = .ok (.lload_n 2, 1) := by decide +kernel
theorem dX11_choose_47 : decode cX11_choose 47 = .ok (.lreturn, 1) := by decide +kernel
theorem dX11_open_0 : decode cX11_open 0 = .ok (.iload_n 1, 1) := by decide +kernel
theorem dX11_open_1 : decode cX11_open 1 = .ok (.iconst 1, 1) := by decide +kernel
theorem dX11_open_2 : decode cX11_open 2 = .ok (.bipush 30, 2) := by decide +kernel
theorem dX11_open_4 : decode cX11_open 4 = .ok (.invokestatic 94, 3) := by decide +kernel
theorem dX11_open_7 : decode cX11_open 7 = .ok (.ifCond .eq 22, 3) := by decide +kernel
theorem dX11_open_10 : decode cX11_open 10 = .ok (.iload_n 2, 1) := by decide +kernel
theorem dX11_open_11 : decode cX11_open 11 = .ok (.iconst 1, 1) := by decide +kernel
theorem dX11_open_12 : decode cX11_open 12 = .ok (.iload_n 1, 1) := by decide +kernel
theorem dX11_open_13 : decode cX11_open 13 = .ok (.invokestatic 94, 3) := by decide +kernel
theorem dX11_open_16 : decode cX11_open 16 = .ok (.ifCond .eq 13, 3) := by decide +kernel
theorem dX11_open_19 : decode cX11_open 19 = .ok (.iload_n 3, 1) := by decide +kernel
theorem dX11_open_20 : decode cX11_open 20 = .ok (.iconst 0, 1) := by decide +kernel
theorem dX11_open_21 : decode cX11_open 21 = .ok (.bipush 99, 2) := by decide +kernel
theorem dX11_open_23 : decode cX11_open 23 = .ok (.invokestatic 94, 3) := by decide +kernel
theorem dX11_open_26 : decode cX11_open 26 = .ok (.ifCond .ne 6, 3) := by decide +kernel
theorem dX11_open_29 : decode cX11_open 29 = .ok (.bipush (-2), 2) := by decide +kernel
theorem dX11_open_31 : decode cX11_open 31 = .ok (.ireturn, 1) := by decide +kernel
theorem dX11_open_32 : decode cX11_open 32 = .ok (.iconst 0, 1) := by decide +kernel
theorem dX11_open_33 : decode cX11_open 33 = .ok (.istore 4, 2) := by decide +kernel
theorem dX11_open_35 : decode cX11_open 35 = .ok (.iload_n 1, 1) := by decide +kernel
theorem dX11_open_36 : decode cX11_open 36 = .ok (.iload_n 2, 1) := by decide +kernel
theorem dX11_open_37 : decode cX11_open 37 = .ok (.isub, 1) := by decide +kernel
theorem dX11_open_38 : decode cX11_open 38 = .ok (.iload 4, 2) := by decide +kernel
theorem dX11_open_40 : decode cX11_open 40 = .ok (.invokestatic 195, 3) := by decide +kernel
theorem dX11_open_43 : decode cX11_open 43 = .ok (.ldc2_w 199, 3) := by decide +kernel
theorem dX11_open_46 : decode cX11_open 46 = .ok (.lmul, 1) := by decide +kernel
theorem dX11_open_47 : decode cX11_open 47 = .ok (.iload_n 3, 1) := by decide +kernel
theorem dX11_open_48 : decode cX11_open 48 = .ok (.i2l, 1) := by decide +kernel
theorem dX11_open_49 : decode cX11_open 49 = .ok (.iload_n 1, 1) := by decide +kernel
theorem dX11_open_50 : decode cX11_open 50 = .ok (.iload 4, 2) := by decide +kernel
theorem dX11_open_52 : decode cX11_open 52 = .ok (.invokestatic 195, 3) := by decide +kernel
theorem dX11_open_55 : decode cX11_open 55 = .ok (.lmul, 1) := by decide +kernel
theorem dX11_open_56 : decode cX11_open 56 = .ok (.lcmp, 1) := by decide +kernel
theorem dX11_open_57 : decode cX11_open 57 = .ok (.ifCond .le 9, 3) := by decide +kernel
theorem dX11_open_60 : decode cX11_open 60 = .ok (.iinc 4 1, 3) := by decide +kernel
theorem dX11_open_63 : decode cX11_open 63 = .ok (.goto (-28), 3) := by decide +kernel
theorem dX11_open_66 : decode cX11_open 66 = .ok (.iload 4, 2) := by decide +kernel
theorem dX11_open_68 : decode cX11_open 68 = .ok (.ireturn, 1) := by decide +kernel
theorem dX11_judge_0 : decode cX11_judge 0 = .ok (.iload_n 1, 1) := by decide +kernel
theorem dX11_judge_1 : decode cX11_judge 1 = .ok (.iconst 0, 1) := by decide +kernel
theorem dX11_judge_2 : decode cX11_judge 2 = .ok (.bipush 9, 2) := by decide +kernel
theorem dX11_judge_4 : decode cX11_judge 4 = .ok (.invokestatic 94, 3) := by decide +kernel
theorem dX11_judge_7 : decode cX11_judge 7 = .ok (.ifCond .eq 23, 3) := by decide +kernel
theorem dX11_judge_10 : decode cX11_judge 10 = .ok (.iload_n 2, 1) := by decide +kernel
theorem dX11_judge_11 : decode cX11_judge 11 = .ok (.iconst 0, 1) := by decide +kernel
theorem dX11_judge_12 : decode cX11_judge 12 = .ok (.bipush 9, 2) := by decide +kernel
theorem dX11_judge_14 : decode cX11_judge 14 = .ok (.invokestatic 94, 3) := by decide +kernel
theorem dX11_judge_17 : decode cX11_judge 17 = .ok (.ifCond .eq 13, 3) := by decide +kernel
theorem dX11_judge_20 : decode cX11_judge 20 = .ok (.iload_n 3, 1) := by decide +kernel
theorem dX11_judge_21 : decode cX11_judge 21 = .ok (.iconst 0, 1) := by decide +kernel
theorem dX11_judge_22 : decode cX11_judge 22 = .ok (.bipush 9, 2) := by decide +kernel
theorem dX11_judge_24 : decode cX11_judge 24 = .ok (.invokestatic 94, 3) := by decide +kernel
theorem dX11_judge_27 : decode cX11_judge 27 = .ok (.ifCond .ne 6, 3) := by decide +kernel
theorem dX11_judge_30 : decode cX11_judge 30 = .ok (.bipush (-2), 2) := by decide +kernel
theorem dX11_judge_32 : decode cX11_judge 32 = .ok (.ireturn, 1) := by decide +kernel
theorem dX11_judge_33 : decode cX11_judge 33 = .ok (.aload_n 0, 1) := by decide +kernel
theorem dX11_judge_34 : decode cX11_judge 34 = .ok (.getfield 201, 3) := by decide +kernel
theorem dX11_judge_37 : decode cX11_judge 37 = .ok (.bipush 24, 2) := by decide +kernel
theorem dX11_judge_39 : decode cX11_judge 39 = .ok (.if_icmp .ne 6, 3) := by decide +kernel
theorem dX11_judge_42 : decode cX11_judge 42 = .ok (.bipush (-4), 2) := by decide +kernel
theorem dX11_judge_44 : decode cX11_judge 44 = .ok (.ireturn, 1) := by decide +kernel
theorem dX11_judge_45 : decode cX11_judge 45 = .ok (.aload_n 0, 1) := by decide +kernel
theorem dX11_judge_46 : decode cX11_judge 46 = .ok (.getfield 37, 3) := by decide +kernel
theorem dX11_judge_49 : decode cX11_judge 49 = .ok (.iconst 4, 1) := by decide +kernel
theorem dX11_judge_50 : decode cX11_judge 50 = .ok (.aload_n 0, 1) := by decide +kernel
theorem dX11_judge_51 : decode cX11_judge 51 = .ok (.getfield 201, 3) := by decide +kernel
theorem dX11_judge_54 : decode cX11_judge 54 = .ok (.imul, 1) := by decide +kernel
theorem dX11_judge_55 : decode cX11_judge 55 = .ok (.iload_n 1, 1) := by decide +kernel
theorem dX11_judge_56 : decode cX11_judge 56 = .ok (.iastore, 1) := by decide +kernel
theorem dX11_judge_57 : decode cX11_judge 57 = .ok (.aload_n 0, 1) := by decide +kernel
theorem dX11_judge_58 : decode cX11_judge 58 = .ok (.getfield 37, 3) := by decide +kernel
theorem dX11_judge_61 : decode cX11_judge 61 = .ok (.iconst 4, 1) := by decide +kernel
theorem dX11_judge_62 : decode cX11_judge 62 = .ok (.aload_n 0, 1) := by decide +kernel
theorem dX11_judge_63 : decode cX11_judge 63 = .ok (.getfield 201, 3) := by decide +kernel
theorem dX11_judge_66 : decode cX11_judge 66 = .ok (.imul, 1) := by decide +kernel
theorem dX11_judge_67 : decode cX11_judge 67 = .ok (.iconst 1, 1) := by decide +kernel
theorem dX11_judge_68 : decode cX11_judge 68 = .ok (.iadd, 1) := by decide +kernel
theorem dX11_judge_69 : decode cX11_judge 69 = .ok (.iload_n 2, 1) := by decide +kernel
theorem dX11_judge_70 : decode cX11_judge 70 = .ok (.iastore, 1) := by decide +kernel
theorem dX11_judge_71 : decode cX11_judge 71 = .ok (.aload_n 0, 1) := by decide +kernel
theorem dX11_judge_72 : decode cX11_judge 72 = .ok (.getfield 37, 3) := by decide +kernel
theorem dX11_judge_75 : decode cX11_judge 75 = .ok (.iconst 4, 1) := by decide +kernel
theorem dX11_judge_76 : decode cX11_judge 76 = .ok (.aload_n 0, 1) := by decide +kernel
theorem dX11_judge_77 : decode cX11_judge 77 = .ok (.getfield 201, 3) := by decide +kernel
theorem dX11_judge_80 : decode cX11_judge 80 = .ok (.imul, 1) := by decide +kernel
theorem dX11_judge_81 : decode cX11_judge 81 = .ok (.iconst 2, 1) := by decide +kernel
theorem dX11_judge_82 : decode cX11_judge 82 = .ok (.iadd, 1) := by decide +kernel
theorem dX11_judge_83 : decode cX11_judge 83 = .ok (.iload_n 3, 1) := by decide +kernel
theorem dX11_judge_84 : decode cX11_judge 84 = .ok (.iastore, 1) := by decide +kernel
theorem dX11_judge_85 : decode cX11_judge 85 = .ok (.aload_n 0, 1) := by decide +kernel
theorem dX11_judge_86 : decode cX11_judge 86 = .ok (.getfield 37, 3) := by decide +kernel
theorem dX11_judge_89 : decode cX11_judge 89 = .ok (.iconst 4, 1) := by decide +kernel
theorem dX11_judge_90 : decode cX11_judge 90 = .ok (.aload_n 0, 1) := by decide +kernel
theorem dX11_judge_91 : decode cX11_judge 91 = .ok (.getfield 201, 3) := by decide +kernel
theorem dX11_judge_94 : decode cX11_judge 94 = .ok (.imul, 1) := by decide +kernel
theorem dX11_judge_95 : decode cX11_judge 95 = .ok (.iconst 3, 1) := by decide +kernel
theorem dX11_judge_96 : decode cX11_judge 96 = .ok (.iadd, 1) := by decide +kernel
theorem dX11_judge_97 : decode cX11_judge 97 = .ok (.iload 4, 2) := by decide +kernel
theorem dX11_judge_99 : decode cX11_judge 99 = .ok (.ifCond .eq 7, 3) := by decide +kernel
theorem dX11_judge_102 : decode cX11_judge 102 = .ok (.iconst 1, 1) := by decide +kernel
theorem dX11_judge_103 : decode cX11_judge 103 = .ok (.goto 4, 3) := by decide +kernel
theorem dX11_judge_106 : decode cX11_judge 106 = .ok (.iconst 0, 1) := by decide +kernel
theorem dX11_judge_107 : decode cX11_judge 107 = .ok (.iastore, 1) := by decide +kernel
theorem dX11_judge_108 : decode cX11_judge 108 = .ok (.aload_n 0, 1) := by decide +kernel
theorem dX11_judge_109 : decode cX11_judge 109 = .ok (.dup, 1) := by decide +kernel
theorem dX11_judge_110 : decode cX11_judge 110 = .ok (.getfield 201, 3) := by decide +kernel
theorem dX11_judge_113 : decode cX11_judge 113 = .ok (.iconst 1, 1) := by decide +kernel
theorem dX11_judge_114 : decode cX11_judge 114 = .ok (.iadd, 1) := by decide +kernel
theorem dX11_judge_115 : decode cX11_judge 115 = .ok (.putfield 201, 3) := by decide +kernel
theorem dX11_judge_118 : decode cX11_judge 118 = .ok (.aload_n 0, 1) := by decide +kernel
theorem dX11_judge_119 : decode cX11_judge 119 = .ok (.getfield 201, 3) := by decide +kernel
theorem dX11_judge_122 : decode cX11_judge 122 = .ok (.ireturn, 1) := by decide +kernel
theorem dX11_absolve_0 : decode cX11_absolve 0 = .ok (.aload_n 0, 1) := by decide +kernel
theorem dX11_absolve_1 : decode cX11_absolve 1 = .ok (.getfield 201, 3) := by decide +kernel
theorem dX11_absolve_4 : decode cX11_absolve 4 = .ok (.istore_n 1, 1) := by decide +kernel
theorem dX11_absolve_5 : decode cX11_absolve 5 = .ok (.aload_n 0, 1) := by decide +kernel
theorem dX11_absolve_6 : decode cX11_absolve 6 = .ok (.iconst 0, 1) := by decide +kernel
theorem dX11_absolve_7 : decode cX11_absolve 7 = .ok (.putfield 201, 3) := by decide +kernel
theorem dX11_absolve_10 : decode cX11_absolve 10 = .ok (.iload_n 1, 1) := by decide +kernel
theorem dX11_absolve_11 : decode cX11_absolve 11 = .ok (.ireturn, 1) := by decide +kernel
theorem dX11_hasCause_0 : decode cX11_hasCause 0 = .ok (.aload_n 0, 1) := by decide +kernel
theorem dX11_hasCause_1 : decode cX11_hasCause 1 = .ok (.getfield 37, 3) := by decide +kernel
theorem dX11_hasCause_4 : decode cX11_hasCause 4 = .ok (.iconst 4, 1) := by decide +kernel
theorem dX11_hasCause_5 : decode cX11_hasCause 5 = .ok (.iload_n 1, 1) := by decide +kernel
theorem dX11_hasCause_6 : decode cX11_hasCause 6 = .ok (.imul, 1) := by decide +kernel
theorem dX11_hasCause_7 : decode cX11_hasCause 7 = .ok (.iload_n 2, 1) := by decide +kernel
theorem dX11_hasCause_8 : decode cX11_hasCause 8 = .ok (.bipush 10, 2) := by decide +kernel
theorem dX11_hasCause_10 : decode cX11_hasCause 10 = .ok (.idiv, 1) := by decide +kernel
theorem dX11_hasCause_11 : decode cX11_hasCause 11 = .ok (.iadd, 1) := by decide +kernel
theorem dX11_hasCause_12 : decode cX11_hasCause 12 = .ok (.iaload, 1) := by decide +kernel
theorem dX11_hasCause_13 : decode cX11_hasCause 13 = .ok (.iload_n 2, 1) := by decide +kernel
theorem dX11_hasCause_14 : decode cX11_hasCause 14 = .ok (.bipush 10, 2) := by decide +kernel
theorem dX11_hasCause_16 : decode cX11_hasCause 16 = .ok (.irem, 1) := by decide +kernel
theorem dX11_hasCause_17 : decode cX11_hasCause 17 = .ok (.if_icmp .ne 7, 3) := by decide +kernel
theorem dX11_hasCause_20 : decode cX11_hasCause 20 = .ok (.iconst 1, 1) := by decide +kernel
theorem dX11_hasCause_21 : decode cX11_hasCause 21 = .ok (.goto 4, 3) := by decide +kernel
theorem dX11_hasCause_24 : decode cX11_hasCause 24 = .ok (.iconst 0, 1) := by decide +kernel
theorem dX11_hasCause_25 : decode cX11_hasCause 25 = .ok (.ireturn, 1) := by decide +kernel
theorem dX11_mayBe_0 : decode cX11_mayBe 0 = .ok (.iconst 0, 1) := by decide +kernel
theorem dX11_mayBe_1 : decode cX11_mayBe 1 = .ok (.istore_n 2, 1) := by decide +kernel
theorem dX11_mayBe_2 : decode cX11_mayBe 2 = .ok (.iconst 0, 1) := by decide +kernel
theorem dX11_mayBe_3 : decode cX11_mayBe 3 = .ok (.istore_n 3, 1) := by decide +kernel
