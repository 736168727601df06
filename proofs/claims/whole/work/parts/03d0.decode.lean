/-! decode rows, by program out of what TURN prints -/
theorem dX0_init_0 : decode cX0_init 0 = .ok (.aload_n 0, 1) := by decide +kernel
theorem dX0_init_1 : decode cX0_init 1 = .ok (.invokespecial 3, 3) := by decide +kernel
theorem dX0_init_4 : decode cX0_init 4 = .ok (.aload_n 0, 1) := by decide +kernel
theorem dX0_init_5 : decode cX0_init 5 = .ok (.bipush 8, 2) := by decide +kernel
theorem dX0_init_7 : decode cX0_init 7 = .ok (.newarray .int, 2) := by decide +kernel
theorem dX0_init_9 : decode cX0_init 9 = .ok (.putfield 9, 3) := by decide +kernel
theorem dX0_init_12 : decode cX0_init 12 = .ok (.aload_n 0, 1) := by decide +kernel
theorem dX0_init_13 : decode cX0_init 13 = .ok (.bipush 8, 2) := by decide +kernel
theorem dX0_init_15 : decode cX0_init 15 = .ok (.newarray .int, 2) := by decide +kernel
theorem dX0_init_17 : decode cX0_init 17 = .ok (.putfield 15, 3) := by decide +kernel
theorem dX0_init_20 : decode cX0_init 20 = .ok (.aload_n 0, 1) := by decide +kernel
theorem dX0_init_21 : decode cX0_init 21 = .ok (.bipush 120, 2) := by decide +kernel
theorem dX0_init_23 : decode cX0_init 23 = .ok (.newarray .int, 2) := by decide +kernel
theorem dX0_init_25 : decode cX0_init 25 = .ok (.putfield 18, 3) := by decide +kernel
theorem dX0_init_28 : decode cX0_init 28 = .ok (.aload_n 0, 1) := by decide +kernel
theorem dX0_init_29 : decode cX0_init 29 = .ok (.bipush 120, 2) := by decide +kernel
theorem dX0_init_31 : decode cX0_init 31 = .ok (.newarray .int, 2) := by decide +kernel
theorem dX0_init_33 : decode cX0_init 33 = .ok (.putfield 21, 3) := by decide +kernel
theorem dX0_init_36 : decode cX0_init 36 = .ok (.aload_n 0, 1) := by decide +kernel
theorem dX0_init_37 : decode cX0_init 37 = .ok (.bipush 120, 2) := by decide +kernel
theorem dX0_init_39 : decode cX0_init 39 = .ok (.newarray .int, 2) := by decide +kernel
theorem dX0_init_41 : decode cX0_init 41 = .ok (.putfield 24, 3) := by decide +kernel
theorem dX0_init_44 : decode cX0_init 44 = .ok (.aload_n 0, 1) := by decide +kernel
theorem dX0_init_45 : decode cX0_init 45 = .ok (.bipush 120, 2) := by decide +kernel
theorem dX0_init_47 : decode cX0_init 47 = .ok (.newarray .int, 2) := by decide +kernel
theorem dX0_init_49 : decode cX0_init 49 = .ok (.putfield 27, 3) := by decide +kernel
theorem dX0_init_52 : decode cX0_init 52 = .ok (.return_, 1) := by decide +kernel
theorem dX0_letterOf_0 : decode cX0_letterOf 0 = .ok (.iload_n 0, 1) := by decide +kernel
theorem dX0_letterOf_1 : decode cX0_letterOf 1 = .ok (.bipush 65, 2) := by decide +kernel
theorem dX0_letterOf_3 : decode cX0_letterOf 3 = .ok (.bipush 70, 2) := by decide +kernel
theorem dX0_letterOf_5 : decode cX0_letterOf 5 = .ok (.invokestatic 30, 3) := by decide +kernel
theorem dX0_letterOf_8 : decode cX0_letterOf 8 = .ok (.ifCond .eq 10, 3) := by decide +kernel
theorem dX0_letterOf_11 : decode cX0_letterOf 11 = .ok (.iload_n 0, 1) := by decide +kernel
theorem dX0_letterOf_12 : decode cX0_letterOf 12 = .ok (.bipush 65, 2) := by decide +kernel
theorem dX0_letterOf_14 : decode cX0_letterOf 14 = .ok (.isub, 1) := by decide +kernel
theorem dX0_letterOf_15 : decode cX0_letterOf 15 = .ok (.goto 5, 3) := by decide +kernel
theorem dX0_letterOf_18 : decode cX0_letterOf 18 = .ok (.bipush (-6), 2) := by decide +kernel
theorem dX0_letterOf_20 : decode cX0_letterOf 20 = .ok (.ireturn, 1) := by decide +kernel
theorem dX0_factOf_0 : decode cX0_factOf 0 = .ok (.iload_n 0, 1) := by decide +kernel
theorem dX0_factOf_1 : decode cX0_factOf 1 = .ok (.lookupswitch 61 #[(104, 51), (113, 59), (115, 55), (116, 53), (122, 57)], 51) := by decide +kernel
theorem dX0_factOf_52 : decode cX0_factOf 52 = .ok (.iconst 0, 1) := by decide +kernel
theorem dX0_factOf_53 : decode cX0_factOf 53 = .ok (.ireturn, 1) := by decide +kernel
theorem dX0_factOf_54 : decode cX0_factOf 54 = .ok (.iconst 1, 1) := by decide +kernel
theorem dX0_factOf_55 : decode cX0_factOf 55 = .ok (.ireturn, 1) := by decide +kernel
theorem dX0_factOf_56 : decode cX0_factOf 56 = .ok (.iconst 2, 1) := by decide +kernel
theorem dX0_factOf_57 : decode cX0_factOf 57 = .ok (.ireturn, 1) := by decide +kernel
theorem dX0_factOf_58 : decode cX0_factOf 58 = .ok (.iconst 3, 1) := by decide +kernel
theorem dX0_factOf_59 : decode cX0_factOf 59 = .ok (.ireturn, 1) := by decide +kernel
theorem dX0_factOf_60 : decode cX0_factOf 60 = .ok (.iconst 4, 1) := by decide +kernel
theorem dX0_factOf_61 : decode cX0_factOf 61 = .ok (.ireturn, 1) := by decide +kernel
theorem dX0_factOf_62 : decode cX0_factOf 62 = .ok (.bipush (-6), 2) := by decide +kernel
theorem dX0_factOf_64 : decode cX0_factOf 64 = .ok (.ireturn, 1) := by decide +kernel
theorem dX0_isComparer_0 : decode cX0_isComparer 0 = .ok (.iload_n 0, 1) := by decide +kernel
theorem dX0_isComparer_1 : decode cX0_isComparer 1 = .ok (.bipush 60, 2) := by decide +kernel
theorem dX0_isComparer_3 : decode cX0_isComparer 3 = .ok (.bipush 62, 2) := by decide +kernel
theorem dX0_isComparer_5 : decode cX0_isComparer 5 = .ok (.invokestatic 30, 3) := by decide +kernel
theorem dX0_isComparer_8 : decode cX0_isComparer 8 = .ok (.ireturn, 1) := by decide +kernel
theorem dX0_isDigit_0 : decode cX0_isDigit 0 = .ok (.iload_n 0, 1) := by decide +kernel
theorem dX0_isDigit_1 : decode cX0_isDigit 1 = .ok (.bipush 48, 2) := by decide +kernel
theorem dX0_isDigit_3 : decode cX0_isDigit 3 = .ok (.bipush 57, 2) := by decide +kernel
theorem dX0_isDigit_5 : decode cX0_isDigit 5 = .ok (.invokestatic 30, 3) := by decide +kernel
theorem dX0_isDigit_8 : decode cX0_isDigit 8 = .ok (.ireturn, 1) := by decide +kernel
theorem dX0_add_0 : decode cX0_add 0 = .ok (.iconst 0, 1) := by decide +kernel
theorem dX0_add_1 : decode cX0_add 1 = .ok (.istore_n 3, 1) := by decide +kernel
theorem dX0_add_2 : decode cX0_add 2 = .ok (.iconst 0, 1) := by decide +kernel
theorem dX0_add_3 : decode cX0_add 3 = .ok (.istore 4, 2) := by decide +kernel
theorem dX0_add_5 : decode cX0_add 5 = .ok (.iconst 0, 1) := by decide +kernel
theorem dX0_add_6 : decode cX0_add 6 = .ok (.istore 5, 2) := by decide +kernel
theorem dX0_add_8 : decode cX0_add 8 = .ok (.aload_n 0, 1) := by decide +kernel
theorem dX0_add_9 : decode cX0_add 9 = .ok (.getfield 34, 3) := by decide +kernel
theorem dX0_add_12 : decode cX0_add 12 = .ok (.bipush 15, 2) := by decide +kernel
theorem dX0_add_14 : decode cX0_add 14 = .ok (.imul, 1) := by decide +kernel
theorem dX0_add_15 : decode cX0_add 15 = .ok (.istore 6, 2) := by decide +kernel
theorem dX0_add_17 : decode cX0_add 17 = .ok (.iconst 0, 1) := by decide +kernel
theorem dX0_add_18 : decode cX0_add 18 = .ok (.istore 7, 2) := by decide +kernel
theorem dX0_add_20 : decode cX0_add 20 = .ok (.iload 7, 2) := by decide +kernel
theorem dX0_add_22 : decode cX0_add 22 = .ok (.aload_n 2, 1) := by decide +kernel
theorem dX0_add_23 : decode cX0_add 23 = .ok (.getfield 38, 3) := by decide +kernel
theorem dX0_add_26 : decode cX0_add 26 = .ok (.if_icmp .ge 164, 3) := by decide +kernel
theorem dX0_add_29 : decode cX0_add 29 = .ok (.aload_n 2, 1) := by decide +kernel
theorem dX0_add_30 : decode cX0_add 30 = .ok (.getfield 41, 3) := by decide +kernel
theorem dX0_add_33 : decode cX0_add 33 = .ok (.iload 7, 2) := by decide +kernel
theorem dX0_add_35 : decode cX0_add 35 = .ok (.iaload, 1) := by decide +kernel
theorem dX0_add_36 : decode cX0_add 36 = .ok (.istore 8, 2) := by decide +kernel
theorem dX0_add_38 : decode cX0_add 38 = .ok (.iload 8, 2) := by decide +kernel
theorem dX0_add_40 : decode cX0_add 40 = .ok (.invokestatic 44, 3) := by decide +kernel
theorem dX0_add_43 : decode cX0_add 43 = .ok (.bipush (-6), 2) := by decide +kernel
theorem dX0_add_45 : decode cX0_add 45 = .ok (.if_icmp .eq 13, 3) := by decide +kernel
theorem dX0_add_48 : decode cX0_add 48 = .ok (.iload 8, 2) := by decide +kernel
theorem dX0_add_50 : decode cX0_add 50 = .ok (.invokestatic 44, 3) := by decide +kernel
theorem dX0_add_53 : decode cX0_add 53 = .ok (.istore 4, 2) := by decide +kernel
theorem dX0_add_55 : decode cX0_add 55 = .ok (.goto 129, 3) := by decide +kernel
theorem dX0_add_58 : decode cX0_add 58 = .ok (.iload 8, 2) := by decide +kernel
theorem dX0_add_60 : decode cX0_add 60 = .ok (.invokestatic 48, 3) := by decide +kernel
theorem dX0_add_63 : decode cX0_add 63 = .ok (.bipush (-6), 2) := by decide +kernel
theorem dX0_add_65 : decode cX0_add 65 = .ok (.if_icmp .eq 13, 3) := by decide +kernel
theorem dX0_add_68 : decode cX0_add 68 = .ok (.iload 8, 2) := by decide +kernel
theorem dX0_add_70 : decode cX0_add 70 = .ok (.invokestatic 48, 3) := by decide +kernel
theorem dX0_add_73 : decode cX0_add 73 = .ok (.istore 5, 2) := by decide +kernel
theorem dX0_add_75 : decode cX0_add 75 = .ok (.goto 109, 3) := by decide +kernel
theorem dX0_add_78 : decode cX0_add 78 = .ok (.iload 8, 2) := by decide +kernel
theorem dX0_add_80 : decode cX0_add 80 = .ok (.invokestatic 51, 3) := by decide +kernel
theorem dX0_add_83 : decode cX0_add 83 = .ok (.ifCond .eq 58, 3) := by decide +kernel
theorem dX0_add_86 : decode cX0_add 86 = .ok (.iload_n 3, 1) := by decide +kernel
theorem dX0_add_87 : decode cX0_add 87 = .ok (.bipush 15, 2) := by decide +kernel
theorem dX0_add_89 : decode cX0_add 89 = .ok (.if_icmp .ge 52, 3) := by decide +kernel
theorem dX0_add_92 : decode cX0_add 92 = .ok (.aload_n 0, 1) := by decide +kernel
theorem dX0_add_93 : decode cX0_add 93 = .ok (.getfield 18, 3) := by decide +kernel
theorem dX0_add_96 : decode cX0_add 96 = .ok (.iload 6, 2) := by decide +kernel
theorem dX0_add_98 : decode cX0_add 98 = .ok (.iload_n 3, 1) := by decide +kernel
theorem dX0_add_99 : decode cX0_add 99 = .ok (.iadd, 1) := by decide +kernel
theorem dX0_add_100 : decode cX0_add 100 = .ok (.iload 4, 2) := by decide +kernel
theorem dX0_add_102 : decode cX0_add 102 = .ok (.iastore, 1) := by decide +kernel
theorem dX0_add_103 : decode cX0_add 103 = .ok (.aload_n 0, 1) := by decide +kernel
theorem dX0_add_104 : decode cX0_add 104 = .ok (.getfield 21, 3) := by decide +kernel
theorem dX0_add_107 : decode cX0_add 107 = .ok (.iload 6, 2) := by decide +kernel
theorem dX0_add_109 : decode cX0_add 109 = .ok (.iload_n 3, 1) := by decide +kernel
theorem dX0_add_110 : decode cX0_add 110 = .ok (.iadd, 1) := by decide +kernel
theorem dX0_add_111 : decode cX0_add 111 = .ok (.iload 5, 2) := by decide +kernel
theorem dX0_add_113 : decode cX0_add 113 = .ok (.iastore, 1) := by decide +kernel
theorem dX0_add_114 : decode cX0_add 114 = .ok (.aload_n 0, 1) := by decide +kernel
theorem dX0_add_115 : decode cX0_add 115 = .ok (.getfield 24, 3) := by decide +kernel
theorem dX0_add_118 : decode cX0_add 118 = .ok (.iload 6, 2) := by decide +kernel
theorem dX0_add_120 : decode cX0_add 120 = .ok (.iload_n 3, 1) := by decide +kernel
theorem dX0_add_121 : decode cX0_add 121 = .ok (.iadd, 1) := by decide +kernel
theorem dX0_add_122 : decode cX0_add 122 = .ok (.iload 8, 2) := by decide +kernel
theorem dX0_add_124 : decode cX0_add 124 = .ok (.iastore, 1) := by decide +kernel
theorem dX0_add_125 : decode cX0_add 125 = .ok (.aload_n 0, 1) := by decide +kernel
theorem dX0_add_126 : decode cX0_add 126 = .ok (.getfield 27, 3) := by decide +kernel
theorem dX0_add_129 : decode cX0_add 129 = .ok (.iload 6, 2) := by decide +kernel
theorem dX0_add_131 : decode cX0_add 131 = .ok (.iload_n 3, 1) := by decide +kernel
theorem dX0_add_132 : decode cX0_add 132 = .ok (.iadd, 1) := by decide +kernel
theorem dX0_add_133 : decode cX0_add 133 = .ok (.iconst 0, 1) := by decide +kernel
theorem dX0_add_134 : decode cX0_add 134 = .ok (.iastore, 1) := by decide +kernel
theorem dX0_add_135 : decode cX0_add 135 = .ok (.iinc 3 1, 3) := by decide +kernel
theorem dX0_add_138 : decode cX0_add 138 = .ok (.goto 46, 3) := by decide +kernel
theorem dX0_add_141 : decode cX0_add 141 = .ok (.iload 8, 2) := by decide +kernel
theorem dX0_add_143 : decode cX0_add 143 = .ok (.invokestatic 55, 3) := by decide +kernel
theorem dX0_add_146 : decode cX0_add 146 = .ok (.ifCond .eq 38, 3) := by decide +kernel
theorem dX0_add_149 : decode cX0_add 149 = .ok (.iload_n 3, 1) := by decide +kernel
theorem dX0_add_150 : decode cX0_add 150 = .ok (.ifCond .le 34, 3) := by decide +kernel
theorem dX0_add_153 : decode cX0_add 153 = .ok (.aload_n 0, 1) := by decide +kernel
theorem dX0_add_154 : decode cX0_add 154 = .ok (.getfield 27, 3) := by decide +kernel
theorem dX0_add_157 : decode cX0_add 157 = .ok (.iload 6, 2) := by decide +kernel
theorem dX0_add_159 : decode cX0_add 159 = .ok (.iload_n 3, 1) := by decide +kernel
theorem dX0_add_160 : decode cX0_add 160 = .ok (.iadd, 1) := by decide +kernel
theorem dX0_add_161 : decode cX0_add 161 = .ok (.iconst 1, 1) := by decide +kernel
theorem dX0_add_162 : decode cX0_add 162 = .ok (.isub, 1) := by decide +kernel
theorem dX0_add_163 : decode cX0_add 163 = .ok (.aload_n 0, 1) := by decide +kernel
theorem dX0_add_164 : decode cX0_add 164 = .ok (.getfield 27, 3) := by decide +kernel
theorem dX0_add_167 : decode cX0_add 167 = .ok (.iload 6, 2) := by decide +kernel
theorem dX0_add_169 : decode cX0_add 169 = .ok (.iload_n 3, 1) := by decide +kernel
theorem dX0_add_170 : decode cX0_add 170 = .ok (.iadd, 1) := by decide +kernel
theorem dX0_add_171 : decode cX0_add 171 = .ok (.iconst 1, 1) := by decide +kernel
theorem dX0_add_172 : decode cX0_add 172 = .ok (.isub, 1) := by decide +kernel
theorem dX0_add_173 : decode cX0_add 173 = .ok (.iaload, 1) := by decide +kernel
theorem dX0_add_174 : decode cX0_add 174 = .ok (.bipush 10, 2) := by decide +kernel
theorem dX0_add_176 : decode cX0_add 176 = .ok (.imul, 1) := by decide +kernel
theorem dX0_add_177 : decode cX0_add 177 = .ok (.iload 8, 2) := by decide +kernel
theorem dX0_add_179 : decode cX0_add 179 = .ok (.iadd, 1) := by decide +kernel
theorem dX0_add_180 : decode cX0_add 180 = .ok (.bipush 48, 2) := by decide +kernel
theorem dX0_add_182 : decode cX0_add 182 = .ok (.isub, 1) := by decide +kernel
theorem dX0_add_183 : decode cX0_add 183 = .ok (.iastore, 1) := by decide +kernel
theorem dX0_add_184 : decode cX0_add 184 = .ok (.iinc 7 1, 3) := by decide +kernel
theorem dX0_add_187 : decode cX0_add 187 = .ok (.goto (-167), 3) := by decide +kernel
theorem dX0_add_190 : decode cX0_add 190 = .ok (.aload_n 0, 1) := by decide +kernel
theorem dX0_add_191 : decode cX0_add 191 = .ok (.getfield 9, 3) := by decide +kernel
theorem dX0_add_194 : decode cX0_add 194 = .ok (.aload_n 0, 1) := by decide +kernel
theorem dX0_add_195 : decode cX0_add 195 = .ok (.getfield 34, 3) := by decide +kernel
theorem dX0_add_198 : decode cX0_add 198 = .ok (.iload_n 1, 1) := by decide +kernel
theorem dX0_add_199 : decode cX0_add 199 = .ok (.iastore, 1) := by decide +kernel
theorem dX0_add_200 : decode cX0_add 200 = .ok (.aload_n 0, 1) := by decide +kernel
theorem dX0_add_201 : decode cX0_add 201 = .ok (.getfield 15, 3) := by decide +kernel
theorem dX0_add_204 : decode cX0_add 204 = .ok (.aload_n 0, 1) := by decide +kernel
theorem dX0_add_205 : decode cX0_add 205 = .ok (.getfield 34, 3) := by decide +kernel
theorem dX0_add_208 : decode cX0_add 208 = .ok (.iload_n 3, 1) := by decide +kernel
theorem dX0_add_209 : decode cX0_add 209 = .ok (.iastore, 1) := by decide +kernel
theorem dX0_add_210 : decode cX0_add 210 = .ok (.aload_n 0, 1) := by decide +kernel
theorem dX0_add_211 : decode cX0_add 211 = .ok (.dup, 1) := by decide +kernel
theorem dX0_add_212 : decode cX0_add 212 = .ok (.getfield 34, 3) := by decide +kernel
theorem dX0_add_215 : decode cX0_add 215 = .ok (.iconst 1, 1) := by decide +kernel
theorem dX0_add_216 : decode cX0_add 216 = .ok (.iadd, 1) := by decide +kernel
theorem dX0_add_217 : decode cX0_add 217 = .ok (.putfield 34, 3) := by decide +kernel
theorem dX0_add_220 : decode cX0_add 220 = .ok (.return_, 1) := by decide +kernel
theorem dX0_actOn_0 : decode cX0_actOn 0 = .ok (.bipush (-6), 2) := by decide +kernel
theorem dX0_actOn_2 : decode cX0_actOn 2 = .ok (.istore_n 2, 1) := by decide +kernel
theorem dX0_actOn_3 : decode cX0_actOn 3 = .ok (.iconst 0, 1) := by decide +kernel
theorem dX0_actOn_4 : decode cX0_actOn 4 = .ok (.istore_n 3, 1) := by decide +kernel
theorem dX0_actOn_5 : decode cX0_actOn 5 = .ok (.iload_n 3, 1) := by decide +kernel
theorem dX0_actOn_6 : decode cX0_actOn 6 = .ok (.aload_n 0, 1) := by decide +kernel
theorem dX0_actOn_7 : decode cX0_actOn 7 = .ok (.getfield 34, 3) := by decide +kernel
theorem dX0_actOn_10 : decode cX0_actOn 10 = .ok (.if_icmp .ge 42, 3) := by decide +kernel
theorem dX0_actOn_13 : decode cX0_actOn 13 = .ok (.aload_n 0, 1) := by decide +kernel
theorem dX0_actOn_14 : decode cX0_actOn 14 = .ok (.getfield 9, 3) := by decide +kernel
theorem dX0_actOn_17 : decode cX0_actOn 17 = .ok (.iload_n 3, 1) := by decide +kernel
theorem dX0_actOn_18 : decode cX0_actOn 18 = .ok (.iaload, 1) := by decide +kernel
theorem dX0_actOn_19 : decode cX0_actOn 19 = .ok (.iload_n 1, 1) := by decide +kernel
theorem dX0_actOn_20 : decode cX0_actOn 20 = .ok (.if_icmp .gt 26, 3) := by decide +kernel
theorem dX0_actOn_23 : decode cX0_actOn 23 = .ok (.iload_n 2, 1) := by decide +kernel
theorem dX0_actOn_24 : decode cX0_actOn 24 = .ok (.bipush (-6), 2) := by decide +kernel
theorem dX0_actOn_26 : decode cX0_actOn 26 = .ok (.if_icmp .eq 18, 3) := by decide +kernel
theorem dX0_actOn_29 : decode cX0_actOn 29 = .ok (.aload_n 0, 1) := by decide +kernel
theorem dX0_actOn_30 : decode cX0_actOn 30 = .ok (.getfield 9, 3) := by decide +kernel
theorem dX0_actOn_33 : decode cX0_actOn 33 = .ok (.iload_n 3, 1) := by decide +kernel
theorem dX0_actOn_34 : decode cX0_actOn 34 = .ok (.iaload, 1) := by decide +kernel
theorem dX0_actOn_35 : decode cX0_actOn 35 = .ok (.aload_n 0, 1) := by decide +kernel
theorem dX0_actOn_36 : decode cX0_actOn 36 = .ok (.getfield 9, 3) := by decide +kernel
theorem dX0_actOn_39 : decode cX0_actOn 39 = .ok (.iload_n 2, 1) := by decide +kernel
theorem dX0_actOn_40 : decode cX0_actOn 40 = .ok (.iaload, 1) := by decide +kernel
theorem dX0_actOn_41 : decode cX0_actOn 41 = .ok (.if_icmp .lt 5, 3) := by decide +kernel
theorem dX0_actOn_44 : decode cX0_actOn 44 = .ok (.iload_n 3, 1) := by decide +kernel
theorem dX0_actOn_45 : decode cX0_actOn 45 = .ok (.istore_n 2, 1) := by decide +kernel
theorem dX0_actOn_46 : decode cX0_actOn 46 = .ok (.iinc 3 1, 3) := by decide +kernel
theorem dX0_actOn_49 : decode cX0_actOn 49 = .ok (.goto (-44), 3) := by decide +kernel
theorem dX0_actOn_52 : decode cX0_actOn 52 = .ok (.iload_n 2, 1) := by decide +kernel
theorem dX0_actOn_53 : decode cX0_actOn 53 = .ok (.ireturn, 1) := by decide +kernel
theorem dX0_gradesOn_0 : decode cX0_gradesOn 0 = .ok (.aload_n 0, 1) := by decide +kernel
theorem dX0_gradesOn_1 : decode cX0_gradesOn 1 = .ok (.iload_n 1, 1) := by decide +kernel
theorem dX0_gradesOn_2 : decode cX0_gradesOn 2 = .ok (.invokevirtual 58, 3) := by decide +kernel
theorem dX0_gradesOn_5 : decode cX0_gradesOn 5 = .ok (.istore_n 2, 1) := by decide +kernel
theorem dX0_gradesOn_6 : decode cX0_gradesOn 6 = .ok (.iconst 0, 1) := by decide +kernel
theorem dX0_gradesOn_7 : decode cX0_gradesOn 7 = .ok (.istore_n 3, 1) := by decide +kernel
theorem dX0_gradesOn_8 : decode cX0_gradesOn 8 = .ok (.iconst 0, 1) := by decide +kernel
theorem dX0_gradesOn_9 : decode cX0_gradesOn 9 = .ok (.istore 4, 2) := by decide +kernel
theorem dX0_gradesOn_11 : decode cX0_gradesOn 11 = .ok (.iload_n 2, 1) := by decide +kernel
theorem dX0_gradesOn_12 : decode cX0_gradesOn 12 = .ok (.bipush (-6), 2) := by decide +kernel
theorem dX0_gradesOn_14 : decode cX0_gradesOn 14 = .ok (.if_icmp .eq 33, 3) := by decide +kernel
theorem dX0_gradesOn_17 : decode cX0_gradesOn 17 = .ok (.iload 4, 2) := by decide +kernel
theorem dX0_gradesOn_19 : decode cX0_gradesOn 19 = .ok (.aload_n 0, 1) := by decide +kernel
theorem dX0_gradesOn_20 : decode cX0_gradesOn 20 = .ok (.getfield 15, 3) := by decide +kernel
theorem dX0_gradesOn_23 : decode cX0_gradesOn 23 = .ok (.iload_n 2, 1) := by decide +kernel
theorem dX0_gradesOn_24 : decode cX0_gradesOn 24 = .ok (.iaload, 1) := by decide +kernel
theorem dX0_gradesOn_25 : decode cX0_gradesOn 25 = .ok (.if_icmp .ge 22, 3) := by decide +kernel
theorem dX0_gradesOn_28 : decode cX0_gradesOn 28 = .ok (.aload_n 0, 1) := by decide +kernel
theorem dX0_gradesOn_29 : decode cX0_gradesOn 29 = .ok (.iload_n 2, 1) := by decide +kernel
theorem dX0_gradesOn_30 : decode cX0_gradesOn 30 = .ok (.iload 4, 2) := by decide +kernel
theorem dX0_gradesOn_32 : decode cX0_gradesOn 32 = .ok (.invokevirtual 61, 3) := by decide +kernel
theorem dX0_gradesOn_35 : decode cX0_gradesOn 35 = .ok (.ifCond .eq 6, 3) := by decide +kernel
theorem dX0_gradesOn_38 : decode cX0_gradesOn 38 = .ok (.iinc 3 1, 3) := by decide +kernel
theorem dX0_gradesOn_41 : decode cX0_gradesOn 41 = .ok (.iinc 4 1, 3) := by decide +kernel
theorem dX0_gradesOn_44 : decode cX0_gradesOn 44 = .ok (.goto (-33), 3) := by decide +kernel
theorem dX0_gradesOn_47 : decode cX0_gradesOn 47 = .ok (.iload_n 3, 1) := by decide +kernel
theorem dX0_gradesOn_48 : decode cX0_gradesOn 48 = .ok (.ireturn, 1) := by decide +kernel
theorem dX0_gradeAt_0 : decode cX0_gradeAt 0 = .ok (.aload_n 0, 1) := by decide +kernel
theorem dX0_gradeAt_1 : decode cX0_gradeAt 1 = .ok (.iload_n 1, 1) := by decide +kernel
theorem dX0_gradeAt_2 : decode cX0_gradeAt 2 = .ok (.invokevirtual 58, 3) := by decide +kernel
theorem dX0_gradeAt_5 : decode cX0_gradeAt 5 = .ok (.istore_n 3, 1) := by decide +kernel
theorem dX0_gradeAt_6 : decode cX0_gradeAt 6 = .ok (.iconst 0, 1) := by decide +kernel
theorem dX0_gradeAt_7 : decode cX0_gradeAt 7 = .ok (.istore 4, 2) := by decide +kernel
theorem dX0_gradeAt_9 : decode cX0_gradeAt 9 = .ok (.iconst 0, 1) := by decide +kernel
theorem dX0_gradeAt_10 : decode cX0_gradeAt 10 = .ok (.istore 5, 2) := by decide +kernel
theorem dX0_gradeAt_12 : decode cX0_gradeAt 12 = .ok (.iload_n 3, 1) := by decide +kernel
theorem dX0_gradeAt_13 : decode cX0_gradeAt 13 = .ok (.bipush (-6), 2) := by decide +kernel
theorem dX0_gradeAt_15 : decode cX0_gradeAt 15 = .ok (.if_icmp .eq 52, 3) := by decide +kernel
theorem dX0_gradeAt_18 : decode cX0_gradeAt 18 = .ok (.iload 5, 2) := by decide +kernel
theorem dX0_gradeAt_20 : decode cX0_gradeAt 20 = .ok (.aload_n 0, 1) := by decide +kernel
theorem dX0_gradeAt_21 : decode cX0_gradeAt 21 = .ok (.getfield 15, 3) := by decide +kernel
theorem dX0_gradeAt_24 : decode cX0_gradeAt 24 = .ok (.iload_n 3, 1) := by decide +kernel
theorem dX0_gradeAt_25 : decode cX0_gradeAt 25 = .ok (.iaload, 1) := by decide +kernel
theorem dX0_gradeAt_26 : decode cX0_gradeAt 26 = .ok (.if_icmp .ge 41, 3) := by decide +kernel
theorem dX0_gradeAt_29 : decode cX0_gradeAt 29 = .ok (.aload_n 0, 1) := by decide +kernel
theorem dX0_gradeAt_30 : decode cX0_gradeAt 30 = .ok (.iload_n 3, 1) := by decide +kernel
theorem dX0_gradeAt_31 : decode cX0_gradeAt 31 = .ok (.iload 5, 2) := by decide +kernel
theorem dX0_gradeAt_33 : decode cX0_gradeAt 33 = .ok (.invokevirtual 61, 3) := by decide +kernel
theorem dX0_gradeAt_36 : decode cX0_gradeAt 36 = .ok (.ifCond .eq 25, 3) := by decide +kernel
theorem dX0_gradeAt_39 : decode cX0_gradeAt 39 = .ok (.iload 4, 2) := by decide +kernel
theorem dX0_gradeAt_41 : decode cX0_gradeAt 41 = .ok (.iload_n 2, 1) := by decide +kernel
theorem dX0_gradeAt_42 : decode cX0_gradeAt 42 = .ok (.if_icmp .ne 16, 3) := by decide +kernel
theorem dX0_gradeAt_45 : decode cX0_gradeAt 45 = .ok (.aload_n 0, 1) := by decide +kernel
theorem dX0_gradeAt_46 : decode cX0_gradeAt 46 = .ok (.getfield 18, 3) := by decide +kernel
theorem dX0_gradeAt_49 : decode cX0_gradeAt 49 = .ok (.iload_n 3, 1) := by decide +kernel
theorem dX0_gradeAt_50 : decode cX0_gradeAt 50 = .ok (.bipush 15, 2) := by decide +kernel
theorem dX0_gradeAt_52 : decode cX0_gradeAt 52 = .ok (.imul, 1) := by decide +kernel
theorem dX0_gradeAt_53 : decode cX0_gradeAt 53 = .ok (.iload 5, 2) := by decide +kernel
theorem dX0_gradeAt_55 : decode cX0_gradeAt 55 = .ok (.iadd, 1) := by decide +kernel
theorem dX0_gradeAt_56 : decode cX0_gradeAt 56 = .ok (.iaload, 1) := by decide +kernel
theorem dX0_gradeAt_57 : decode cX0_gradeAt 57 = .ok (.ireturn, 1) := by decide +kernel
theorem dX0_gradeAt_58 : decode cX0_gradeAt 58 = .ok (.iinc 4 1, 3) := by decide +kernel
theorem dX0_gradeAt_61 : decode cX0_gradeAt 61 = .ok (.iinc 5 1, 3) := by decide +kernel
theorem dX0_gradeAt_64 : decode cX0_gradeAt 64 = .ok (.goto (-52), 3) := by decide +kernel
theorem dX0_gradeAt_67 : decode cX0_gradeAt 67 = .ok (.bipush (-6), 2) := by decide +kernel
theorem dX0_gradeAt_69 : decode cX0_gradeAt 69 = .ok (.ireturn, 1) := by decide +kernel
theorem dX0_beginsGrade_0 : decode cX0_beginsGrade 0 = .ok (.iload_n 2, 1) := by decide +kernel
theorem dX0_beginsGrade_1 : decode cX0_beginsGrade 1 = .ok (.ifCond .eq 30, 3) := by decide +kernel
theorem dX0_beginsGrade_4 : decode cX0_beginsGrade 4 = .ok (.aload_n 0, 1) := by decide +kernel
theorem dX0_beginsGrade_5 : decode cX0_beginsGrade 5 = .ok (.getfield 18, 3) := by decide +kernel
theorem dX0_beginsGrade_8 : decode cX0_beginsGrade 8 = .ok (.iload_n 1, 1) := by decide +kernel
theorem dX0_beginsGrade_9 : decode cX0_beginsGrade 9 = .ok (.bipush 15, 2) := by decide +kernel
theorem dX0_beginsGrade_11 : decode cX0_beginsGrade 11 = .ok (.imul, 1) := by decide +kernel
theorem dX0_beginsGrade_12 : decode cX0_beginsGrade 12 = .ok (.iload_n 2, 1) := by decide +kernel
theorem dX0_beginsGrade_13 : decode cX0_beginsGrade 13 = .ok (.iadd, 1) := by decide +kernel
theorem dX0_beginsGrade_14 : decode cX0_beginsGrade 14 = .ok (.iaload, 1) := by decide +kernel
theorem dX0_beginsGrade_15 : decode cX0_beginsGrade 15 = .ok (.aload_n 0, 1) := by decide +kernel
theorem dX0_beginsGrade_16 : decode cX0_beginsGrade 16 = .ok (.getfield 18, 3) := by decide +kernel
theorem dX0_beginsGrade_19 : decode cX0_beginsGrade 19 = .ok (.iload_n 1, 1) := by decide +kernel
theorem dX0_beginsGrade_20 : decode cX0_beginsGrade 20 = .ok (.bipush 15, 2) := by decide +kernel
theorem dX0_beginsGrade_22 : decode cX0_beginsGrade 22 = .ok (.imul, 1) := by decide +kernel
theorem dX0_beginsGrade_23 : decode cX0_beginsGrade 23 = .ok (.iload_n 2, 1) := by decide +kernel
theorem dX0_beginsGrade_24 : decode cX0_beginsGrade 24 = .ok (.iadd, 1) := by decide +kernel
theorem dX0_beginsGrade_25 : decode cX0_beginsGrade 25 = .ok (.iconst 1, 1) := by decide +kernel
theorem dX0_beginsGrade_26 : decode cX0_beginsGrade 26 = .ok (.isub, 1) := by decide +kernel
theorem dX0_beginsGrade_27 : decode cX0_beginsGrade 27 = .ok (.iaload, 1) := by decide +kernel
theorem dX0_beginsGrade_28 : decode cX0_beginsGrade 28 = .ok (.if_icmp .eq 7, 3) := by decide +kernel
theorem dX0_beginsGrade_31 : decode cX0_beginsGrade 31 = .ok (.iconst 1, 1) := by decide +kernel
theorem dX0_beginsGrade_32 : decode cX0_beginsGrade 32 = .ok (.goto 4, 3) := by decide +kernel
theorem dX0_beginsGrade_35 : decode cX0_beginsGrade 35 = .ok (.iconst 0, 1) := by decide +kernel
theorem dX0_beginsGrade_36 : decode cX0_beginsGrade 36 = .ok (.ireturn, 1) := by decide +kernel
theorem dX0_brandOn_0 : decode cX0_brandOn 0 = .ok (.aload_n 0, 1) := by decide +kernel
theorem dX0_brandOn_1 : decode cX0_brandOn 1 = .ok (.iload_n 1, 1) := by decide +kernel
theorem dX0_brandOn_2 : decode cX0_brandOn 2 = .ok (.invokevirtual 58, 3) := by decide +kernel
theorem dX0_brandOn_5 : decode cX0_brandOn 5 = .ok (.istore_n 3, 1) := by decide +kernel
theorem dX0_brandOn_6 : decode cX0_brandOn 6 = .ok (.iconst 0, 1) := by decide +kernel
theorem dX0_brandOn_7 : decode cX0_brandOn 7 = .ok (.istore 4, 2) := by decide +kernel
theorem dX0_brandOn_9 : decode cX0_brandOn 9 = .ok (.iconst 0, 1) := by decide +kernel
theorem dX0_brandOn_10 : decode cX0_brandOn 10 = .ok (.istore 5, 2) := by decide +kernel
theorem dX0_brandOn_12 : decode cX0_brandOn 12 = .ok (.iload_n 3, 1) := by decide +kernel
theorem dX0_brandOn_13 : decode cX0_brandOn 13 = .ok (.bipush (-6), 2) := by decide +kernel
theorem dX0_brandOn_15 : decode cX0_brandOn 15 = .ok (.if_icmp .eq 98, 3) := by decide +kernel
theorem dX0_brandOn_18 : decode cX0_brandOn 18 = .ok (.iload 5, 2) := by decide +kernel
theorem dX0_brandOn_20 : decode cX0_brandOn 20 = .ok (.aload_n 0, 1) := by decide +kernel
theorem dX0_brandOn_21 : decode cX0_brandOn 21 = .ok (.getfield 15, 3) := by decide +kernel
theorem dX0_brandOn_24 : decode cX0_brandOn 24 = .ok (.iload_n 3, 1) := by decide +kernel
theorem dX0_brandOn_25 : decode cX0_brandOn 25 = .ok (.iaload, 1) := by decide +kernel
theorem dX0_brandOn_26 : decode cX0_brandOn 26 = .ok (.if_icmp .ge 87, 3) := by decide +kernel
theorem dX0_brandOn_29 : decode cX0_brandOn 29 = .ok (.iload_n 3, 1) := by decide +kernel
theorem dX0_brandOn_30 : decode cX0_brandOn 30 = .ok (.bipush 15, 2) := by decide +kernel
theorem dX0_brandOn_32 : decode cX0_brandOn 32 = .ok (.imul, 1) := by decide +kernel
theorem dX0_brandOn_33 : decode cX0_brandOn 33 = .ok (.iload 5, 2) := by decide +kernel
theorem dX0_brandOn_35 : decode cX0_brandOn 35 = .ok (.iadd, 1) := by decide +kernel
theorem dX0_brandOn_36 : decode cX0_brandOn 36 = .ok (.istore 6, 2) := by decide +kernel
theorem dX0_brandOn_38 : decode cX0_brandOn 38 = .ok (.aload_n 0, 1) := by decide +kernel
theorem dX0_brandOn_39 : decode cX0_brandOn 39 = .ok (.iload_n 3, 1) := by decide +kernel
theorem dX0_brandOn_40 : decode cX0_brandOn 40 = .ok (.iload 5, 2) := by decide +kernel
theorem dX0_brandOn_42 : decode cX0_brandOn 42 = .ok (.invokevirtual 61, 3) := by decide +kernel
theorem dX0_brandOn_45 : decode cX0_brandOn 45 = .ok (.ifCond .eq 21, 3) := by decide +kernel
theorem dX0_brandOn_48 : decode cX0_brandOn 48 = .ok (.iload 4, 2) := by decide +kernel
theorem dX0_brandOn_50 : decode cX0_brandOn 50 = .ok (.ifCond .eq 13, 3) := by decide +kernel
theorem dX0_brandOn_53 : decode cX0_brandOn 53 = .ok (.aload_n 0, 1) := by decide +kernel
theorem dX0_brandOn_54 : decode cX0_brandOn 54 = .ok (.getfield 18, 3) := by decide +kernel
theorem dX0_brandOn_57 : decode cX0_brandOn 57 = .ok (.iload 6, 2) := by decide +kernel
theorem dX0_brandOn_59 : decode cX0_brandOn 59 = .ok (.iconst 1, 1) := by decide +kernel
theorem dX0_brandOn_60 : decode cX0_brandOn 60 = .ok (.isub, 1) := by decide +kernel
theorem dX0_brandOn_61 : decode cX0_brandOn 61 = .ok (.iaload, 1) := by decide +kernel
theorem dX0_brandOn_62 : decode cX0_brandOn 62 = .ok (.ireturn, 1) := by decide +kernel
theorem dX0_brandOn_63 : decode cX0_brandOn 63 = .ok (.iconst 1, 1) := by decide +kernel
theorem dX0_brandOn_64 : decode cX0_brandOn 64 = .ok (.istore 4, 2) := by decide +kernel
theorem dX0_brandOn_66 : decode cX0_brandOn 66 = .ok (.iload 4, 2) := by decide +kernel
theorem dX0_brandOn_68 : decode cX0_brandOn 68 = .ok (.ifCond .eq 36, 3) := by decide +kernel
theorem dX0_brandOn_71 : decode cX0_brandOn 71 = .ok (.aload_n 0, 1) := by decide +kernel
theorem dX0_brandOn_72 : decode cX0_brandOn 72 = .ok (.getfield 24, 3) := by decide +kernel
theorem dX0_brandOn_75 : decode cX0_brandOn 75 = .ok (.iload 6, 2) := by decide +kernel
theorem dX0_brandOn_77 : decode cX0_brandOn 77 = .ok (.iaload, 1) := by decide +kernel
theorem dX0_brandOn_78 : decode cX0_brandOn 78 = .ok (.aload_n 2, 1) := by decide +kernel
theorem dX0_brandOn_79 : decode cX0_brandOn 79 = .ok (.aload_n 0, 1) := by decide +kernel
theorem dX0_brandOn_80 : decode cX0_brandOn 80 = .ok (.getfield 21, 3) := by decide +kernel
theorem dX0_brandOn_83 : decode cX0_brandOn 83 = .ok (.iload 6, 2) := by decide +kernel
theorem dX0_brandOn_85 : decode cX0_brandOn 85 = .ok (.iaload, 1) := by decide +kernel
theorem dX0_brandOn_86 : decode cX0_brandOn 86 = .ok (.iaload, 1) := by decide +kernel
theorem dX0_brandOn_87 : decode cX0_brandOn 87 = .ok (.aload_n 0, 1) := by decide +kernel
theorem dX0_brandOn_88 : decode cX0_brandOn 88 = .ok (.getfield 27, 3) := by decide +kernel
theorem dX0_brandOn_91 : decode cX0_brandOn 91 = .ok (.iload 6, 2) := by decide +kernel
theorem dX0_brandOn_93 : decode cX0_brandOn 93 = .ok (.iaload, 1) := by decide +kernel
theorem dX0_brandOn_94 : decode cX0_brandOn 94 = .ok (.invokestatic 65, 3) := by decide +kernel
theorem dX0_brandOn_97 : decode cX0_brandOn 97 = .ok (.ifCond .eq 7, 3) := by decide +kernel
theorem dX0_brandOn_100 : decode cX0_brandOn 100 = .ok (.iconst 1, 1) := by decide +kernel
theorem dX0_brandOn_101 : decode cX0_brandOn 101 = .ok (.goto 4, 3) := by decide +kernel
theorem dX0_brandOn_104 : decode cX0_brandOn 104 = .ok (.iconst 0, 1) := by decide +kernel
theorem dX0_brandOn_105 : decode cX0_brandOn 105 = .ok (.istore 4, 2) := by decide +kernel
theorem dX0_brandOn_107 : decode cX0_brandOn 107 = .ok (.iinc 5 1, 3) := by decide +kernel
theorem dX0_brandOn_110 : decode cX0_brandOn 110 = .ok (.goto (-98), 3) := by decide +kernel
theorem dX0_brandOn_113 : decode cX0_brandOn 113 = .ok (.iload 4, 2) := by decide +kernel
theorem dX0_brandOn_115 : decode cX0_brandOn 115 = .ok (.ifCond .eq 24, 3) := by decide +kernel
theorem dX0_brandOn_118 : decode cX0_brandOn 118 = .ok (.aload_n 0, 1) := by decide +kernel
theorem dX0_brandOn_119 : decode cX0_brandOn 119 = .ok (.getfield 18, 3) := by decide +kernel
theorem dX0_brandOn_122 : decode cX0_brandOn 122 = .ok (.iload_n 3, 1) := by decide +kernel
theorem dX0_brandOn_123 : decode cX0_brandOn 123 = .ok (.bipush 15, 2) := by decide +kernel
theorem dX0_brandOn_125 : decode cX0_brandOn 125 = .ok (.imul, 1) := by decide +kernel
theorem dX0_brandOn_126 : decode cX0_brandOn 126 = .ok (.aload_n 0, 1) := by decide +kernel
theorem dX0_brandOn_127 : decode cX0_brandOn 127 = .ok (.getfield 15, 3) := by decide +kernel
theorem dX0_brandOn_130 : decode cX0_brandOn 130 = .ok (.iload_n 3, 1) := by decide +kernel
theorem dX0_brandOn_131 : decode cX0_brandOn 131 = .ok (.iaload, 1) := by decide +kernel
theorem dX0_brandOn_132 : decode cX0_brandOn 132 = .ok (.iadd, 1) := by decide +kernel
theorem dX0_brandOn_133 : decode cX0_brandOn 133 = .ok (.iconst 1, 1) := by decide +kernel
theorem dX0_brandOn_134 : decode cX0_brandOn 134 = .ok (.isub, 1) := by decide +kernel
theorem dX0_brandOn_135 : decode cX0_brandOn 135 = .ok (.iaload, 1) := by decide +kernel
theorem dX0_brandOn_136 : decode cX0_brandOn 136 = .ok (.goto 5, 3) := by decide +kernel
theorem dX0_brandOn_139 : decode cX0_brandOn 139 = .ok (.bipush (-6), 2) := by decide +kernel
theorem dX0_brandOn_141 : decode cX0_brandOn 141 = .ok (.ireturn, 1) := by decide +kernel
theorem dX0_holds_0 : decode cX0_holds 0 = .ok (.iload_n 0, 1) := by decide +kernel
theorem dX0_holds_1 : decode cX0_holds 1 = .ok (.bipush 60, 2) := by decide +kernel
theorem dX0_holds_3 : decode cX0_holds 3 = .ok (.if_icmp .ne 14, 3) := by decide +kernel
theorem dX0_holds_6 : decode cX0_holds 6 = .ok (.iload_n 1, 1) := by decide +kernel
theorem dX0_holds_7 : decode cX0_holds 7 = .ok (.iload_n 2, 1) := by decide +kernel
theorem dX0_holds_8 : decode cX0_holds 8 = .ok (.if_icmp .ge 7, 3) := by decide +kernel
theorem dX0_holds_11 : decode cX0_holds 11 = .ok (.iconst 1, 1) := by decide +kernel
theorem dX0_holds_12 : decode cX0_holds 12 = .ok (.goto 4, 3) := by decide +kernel
theorem dX0_holds_15 : decode cX0_holds 15 = .ok (.iconst 0, 1) := by decide +kernel
theorem dX0_holds_16 : decode cX0_holds 16 = .ok (.ireturn, 1) := by decide +kernel
theorem dX0_holds_17 : decode cX0_holds 17 = .ok (.iload_n 0, 1) := by decide +kernel
theorem dX0_holds_18 : decode cX0_holds 18 = .ok (.bipush 62, 2) := by decide +kernel
theorem dX0_holds_20 : decode cX0_holds 20 = .ok (.if_icmp .ne 16, 3) := by decide +kernel
theorem dX0_holds_23 : decode cX0_holds 23 = .ok (.iload_n 1, 1) := by decide +kernel
theorem dX0_holds_24 : decode cX0_holds 24 = .ok (.iload_n 2, 1) := by decide +kernel
theorem dX0_holds_25 : decode cX0_holds 25 = .ok (.if_icmp .le 7, 3) := by decide +kernel
theorem dX0_holds_28 : decode cX0_holds 28 = .ok (.iconst 1, 1) := by decide +kernel
theorem dX0_holds_29 : decode cX0_holds 29 = .ok (.goto 17, 3) := by decide +kernel
theorem dX0_holds_32 : decode cX0_holds 32 = .ok (.iconst 0, 1) := by decide +kernel
theorem dX0_holds_33 : decode cX0_holds 33 = .ok (.goto 13, 3) := by decide +kernel
theorem dX0_holds_36 : decode cX0_holds 36 = .ok (.iload_n 1, 1) := by decide +kernel
theorem dX0_holds_37 : decode cX0_holds 37 = .ok (.iload_n 2, 1) := by decide +kernel
theorem dX0_holds_38 : decode cX0_holds 38 = .ok (.if_icmp .ne 7, 3) := by decide +kernel
theorem dX0_holds_41 : decode cX0_holds 41 = .ok (.iconst 1, 1) := by decide +kernel
theorem dX0_holds_42 : decode cX0_holds 42 = .ok (.goto 4, 3) := by decide +kernel
theorem dX0_holds_45 : decode cX0_holds 45 = .ok (.iconst 0, 1) := by decide +kernel
theorem dX0_holds_46 : decode cX0_holds 46 = .ok (.ireturn, 1) := by decide +kernel
theorem dX1_init_0 : decode cX1_init 0 = .ok (.aload_n 0, 1) := by decide +kernel
theorem dX1_init_1 : decode cX1_init 1 = .ok (.invokespecial 3, 3) := by decide +kernel
theorem dX1_init_4 : decode cX1_init 4 = .ok (.aload_n 0, 1) := by decide +kernel
theorem dX1_init_5 : decode cX1_init 5 = .ok (.bipush 10, 2) := by decide +kernel
theorem dX1_init_7 : decode cX1_init 7 = .ok (.newarray .int, 2) := by decide +kernel
theorem dX1_init_9 : decode cX1_init 9 = .ok (.putfield 9, 3) := by decide +kernel
theorem dX1_init_12 : decode cX1_init 12 = .ok (.aload_n 0, 1) := by decide +kernel
theorem dX1_init_13 : decode cX1_init 13 = .ok (.bipush 10, 2) := by decide +kernel
theorem dX1_init_15 : decode cX1_init 15 = .ok (.newarray .int, 2) := by decide +kernel
theorem dX1_init_17 : decode cX1_init 17 = .ok (.putfield 15, 3) := by decide +kernel
theorem dX1_init_20 : decode cX1_init 20 = .ok (.aload_n 0, 1) := by decide +kernel
theorem dX1_init_21 : decode cX1_init 21 = .ok (.bipush 10, 2) := by decide +kernel
theorem dX1_init_23 : decode cX1_init 23 = .ok (.newarray .int, 2) := by decide +kernel
theorem dX1_init_25 : decode cX1_init 25 = .ok (.putfield 18, 3) := by decide +kernel
theorem dX1_init_28 : decode cX1_init 28 = .ok (.iconst 0, 1) := by decide +kernel
theorem dX1_init_29 : decode cX1_init 29 = .ok (.istore_n 1, 1) := by decide +kernel
theorem dX1_init_30 : decode cX1_init 30 = .ok (.iload_n 1, 1) := by decide +kernel
theorem dX1_init_31 : decode cX1_init 31 = .ok (.bipush 10, 2) := by decide +kernel
theorem dX1_init_33 : decode cX1_init 33 = .ok (.if_icmp .ge 16, 3) := by decide +kernel
theorem dX1_init_36 : decode cX1_init 36 = .ok (.aload_n 0, 1) := by decide +kernel
theorem dX1_init_37 : decode cX1_init 37 = .ok (.getfield 9, 3) := by decide +kernel
theorem dX1_init_40 : decode cX1_init 40 = .ok (.iload_n 1, 1) := by decide +kernel
theorem dX1_init_41 : decode cX1_init 41 = .ok (.iconst (-1), 1) := by decide +kernel
theorem dX1_init_42 : decode cX1_init 42 = .ok (.iastore, 1) := by decide +kernel
theorem dX1_init_43 : decode cX1_init 43 = .ok (.iinc 1 1, 3) := by decide +kernel
theorem dX1_init_46 : decode cX1_init 46 = .ok (.goto (-16), 3) := by decide +kernel
theorem dX1_init_49 : decode cX1_init 49 = .ok (.return_, 1) := by decide +kernel
theorem dX1_bind_0 : decode cX1_bind 0 = .ok (.aload_n 0, 1) := by decide +kernel
theorem dX1_bind_1 : decode cX1_bind 1 = .ok (.getfield 9, 3) := by decide +kernel
theorem dX1_bind_4 : decode cX1_bind 4 = .ok (.iload_n 1, 1) := by decide +kernel
theorem dX1_bind_5 : decode cX1_bind 5 = .ok (.iload_n 2, 1) := by decide +kernel
theorem dX1_bind_6 : decode cX1_bind 6 = .ok (.iastore, 1) := by decide +kernel
theorem dX1_bind_7 : decode cX1_bind 7 = .ok (.aload_n 0, 1) := by decide +kernel
theorem dX1_bind_8 : decode cX1_bind 8 = .ok (.getfield 15, 3) := by decide +kernel
theorem dX1_bind_11 : decode cX1_bind 11 = .ok (.iload_n 1, 1) := by decide +kernel
theorem dX1_bind_12 : decode cX1_bind 12 = .ok (.iload_n 3, 1) := by decide +kernel
theorem dX1_bind_13 : decode cX1_bind 13 = .ok (.iastore, 1) := by decide +kernel
theorem dX1_bind_14 : decode cX1_bind 14 = .ok (.aload_n 0, 1) := by decide +kernel
theorem dX1_bind_15 : decode cX1_bind 15 = .ok (.getfield 18, 3) := by decide +kernel
theorem dX1_bind_18 : decode cX1_bind 18 = .ok (.iload_n 1, 1) := by decide +kernel
theorem dX1_bind_19 : decode cX1_bind 19 = .ok (.iload 4, 2) := by decide +kernel
theorem dX1_bind_21 : decode cX1_bind 21 = .ok (.iastore, 1) := by decide +kernel
theorem dX1_bind_22 : decode cX1_bind 22 = .ok (.return_, 1) := by decide +kernel
theorem dX1_agreedAt_0 : decode cX1_agreedAt 0 = .ok (.aload_n 0, 1) := by decide +kernel
theorem dX1_agreedAt_1 : decode cX1_agreedAt 1 = .ok (.getfield 9, 3) := by decide +kernel
theorem dX1_agreedAt_4 : decode cX1_agreedAt 4 = .ok (.iload_n 1, 1) := by decide +kernel
theorem dX1_agreedAt_5 : decode cX1_agreedAt 5 = .ok (.iaload, 1) := by decide +kernel
theorem dX1_agreedAt_6 : decode cX1_agreedAt 6 = .ok (.iload_n 2, 1) := by decide +kernel
theorem dX1_agreedAt_7 : decode cX1_agreedAt 7 = .ok (.if_icmp .ne 14, 3) := by decide +kernel
theorem dX1_agreedAt_10 : decode cX1_agreedAt 10 = .ok (.aload_n 0, 1) := by decide +kernel
theorem dX1_agreedAt_11 : decode cX1_agreedAt 11 = .ok (.getfield 15, 3) := by decide +kernel
theorem dX1_agreedAt_14 : decode cX1_agreedAt 14 = .ok (.iload_n 1, 1) := by decide +kernel
theorem dX1_agreedAt_15 : decode cX1_agreedAt 15 = .ok (.iaload, 1) := by decide +kernel
theorem dX1_agreedAt_16 : decode cX1_agreedAt 16 = .ok (.iload_n 3, 1) := by decide +kernel
theorem dX1_agreedAt_17 : decode cX1_agreedAt 17 = .ok (.imul, 1) := by decide +kernel
theorem dX1_agreedAt_18 : decode cX1_agreedAt 18 = .ok (.goto 4, 3) := by decide +kernel
theorem dX1_agreedAt_21 : decode cX1_agreedAt 21 = .ok (.iconst 0, 1) := by decide +kernel
theorem dX1_agreedAt_22 : decode cX1_agreedAt 22 = .ok (.ireturn, 1) := by decide +kernel
theorem dX2_init_0 : decode cX2_init 0 = .ok (.aload_n 0, 1) := by decide +kernel
theorem dX2_init_1 : decode cX2_init 1 = .ok (.invokespecial 3, 3) := by decide +kernel
theorem dX2_init_4 : decode cX2_init 4 = .ok (.return_, 1) := by decide +kernel
theorem dX2_start_0 : decode cX2_start 0 = .ok (.aload_n 0, 1) := by decide +kernel
theorem dX2_start_1 : decode cX2_start 1 = .ok (.iload_n 1, 1) := by decide +kernel
theorem dX2_start_2 : decode cX2_start 2 = .ok (.putfield 9, 3) := by decide +kernel
theorem dX2_start_5 : decode cX2_start 5 = .ok (.aload_n 0, 1) := by decide +kernel
theorem dX2_start_6 : decode cX2_start 6 = .ok (.iconst 0, 1) := by decide +kernel
theorem dX2_start_7 : decode cX2_start 7 = .ok (.putfield 15, 3) := by decide +kernel
theorem dX2_start_10 : decode cX2_start 10 = .ok (.aload_n 0, 1) := by decide +kernel
theorem dX2_start_11 : decode cX2_start 11 = .ok (.bipush (-6), 2) := by decide +kernel
theorem dX2_start_13 : decode cX2_start 13 = .ok (.putfield 18, 3) := by decide +kernel
theorem dX2_start_16 : decode cX2_start 16 = .ok (.return_, 1) := by decide +kernel
theorem dX2_empty_0 : decode cX2_empty 0 = .ok (.aload_n 0, 1) := by decide +kernel
theorem dX2_empty_1 : decode cX2_empty 1 = .ok (.aload_n 0, 1) := by decide +kernel
theorem dX2_empty_2 : decode cX2_empty 2 = .ok (.getfield 18, 3) := by decide +kernel
theorem dX2_empty_5 : decode cX2_empty 5 = .ok (.putfield 21, 3) := by decide +kernel
theorem dX2_empty_8 : decode cX2_empty 8 = .ok (.aload_n 0, 1) := by decide +kernel
theorem dX2_empty_9 : decode cX2_empty 9 = .ok (.aload_n 0, 1) := by decide +kernel
theorem dX2_empty_10 : decode cX2_empty 10 = .ok (.getfield 24, 3) := by decide +kernel
theorem dX2_empty_13 : decode cX2_empty 13 = .ok (.putfield 27, 3) := by decide +kernel
theorem dX2_empty_16 : decode cX2_empty 16 = .ok (.aload_n 0, 1) := by decide +kernel
theorem dX2_empty_17 : decode cX2_empty 17 = .ok (.aload_n 0, 1) := by decide +kernel
theorem dX2_empty_18 : decode cX2_empty 18 = .ok (.getfield 30, 3) := by decide +kernel
theorem dX2_empty_21 : decode cX2_empty 21 = .ok (.putfield 33, 3) := by decide +kernel
theorem dX2_empty_24 : decode cX2_empty 24 = .ok (.aload_n 0, 1) := by decide +kernel
theorem dX2_empty_25 : decode cX2_empty 25 = .ok (.iconst 0, 1) := by decide +kernel
theorem dX2_empty_26 : decode cX2_empty 26 = .ok (.putfield 18, 3) := by decide +kernel
theorem dX2_empty_29 : decode cX2_empty 29 = .ok (.aload_n 0, 1) := by decide +kernel
theorem dX2_empty_30 : decode cX2_empty 30 = .ok (.iconst 0, 1) := by decide +kernel
theorem dX2_empty_31 : decode cX2_empty 31 = .ok (.putfield 24, 3) := by decide +kernel
theorem dX2_empty_34 : decode cX2_empty 34 = .ok (.aload_n 0, 1) := by decide +kernel
theorem dX2_empty_35 : decode cX2_empty 35 = .ok (.bipush 9, 2) := by decide +kernel
theorem dX2_empty_37 : decode cX2_empty 37 = .ok (.putfield 30, 3) := by decide +kernel
theorem dX2_empty_40 : decode cX2_empty 40 = .ok (.aload_n 0, 1) := by decide +kernel
theorem dX2_empty_41 : decode cX2_empty 41 = .ok (.iconst 0, 1) := by decide +kernel
theorem dX2_empty_42 : decode cX2_empty 42 = .ok (.putfield 36, 3) := by decide +kernel
theorem dX2_empty_45 : decode cX2_empty 45 = .ok (.return_, 1) := by decide +kernel
theorem dX2_take_0 : decode cX2_take 0 = .ok (.aload_n 0, 1) := by decide +kernel
theorem dX2_take_1 : decode cX2_take 1 = .ok (.iload_n 1, 1) := by decide +kernel
theorem dX2_take_2 : decode cX2_take 2 = .ok (.putfield 18, 3) := by decide +kernel
theorem dX2_take_5 : decode cX2_take 5 = .ok (.aload_n 0, 1) := by decide +kernel
theorem dX2_take_6 : decode cX2_take 6 = .ok (.aload_n 0, 1) := by decide +kernel
theorem dX2_take_7 : decode cX2_take 7 = .ok (.getfield 24, 3) := by decide +kernel
theorem dX2_take_10 : decode cX2_take 10 = .ok (.iload_n 2, 1) := by decide +kernel
theorem dX2_take_11 : decode cX2_take 11 = .ok (.invokestatic 39, 3) := by decide +kernel
theorem dX2_take_14 : decode cX2_take 14 = .ok (.putfield 24, 3) := by decide +kernel
theorem dX2_take_17 : decode cX2_take 17 = .ok (.aload_n 0, 1) := by decide +kernel
theorem dX2_take_18 : decode cX2_take 18 = .ok (.aload_n 0, 1) := by decide +kernel
theorem dX2_take_19 : decode cX2_take 19 = .ok (.getfield 30, 3) := by decide +kernel
theorem dX2_take_22 : decode cX2_take 22 = .ok (.iload_n 3, 1) := by decide +kernel
theorem dX2_take_23 : decode cX2_take 23 = .ok (.invokestatic 45, 3) := by decide +kernel
theorem dX2_take_26 : decode cX2_take 26 = .ok (.putfield 30, 3) := by decide +kernel
theorem dX2_take_29 : decode cX2_take 29 = .ok (.aload_n 0, 1) := by decide +kernel
theorem dX2_take_30 : decode cX2_take 30 = .ok (.dup, 1) := by decide +kernel
theorem dX2_take_31 : decode cX2_take 31 = .ok (.getfield 36, 3) := by decide +kernel
theorem dX2_take_34 : decode cX2_take 34 = .ok (.iconst 1, 1) := by decide +kernel
theorem dX2_take_35 : decode cX2_take 35 = .ok (.iadd, 1) := by decide +kernel
theorem dX2_take_36 : decode cX2_take 36 = .ok (.putfield 36, 3) := by decide +kernel
theorem dX2_take_39 : decode cX2_take 39 = .ok (.return_, 1) := by decide +kernel
theorem dX2_compare_0 : decode cX2_compare 0 = .ok (.aload_n 0, 1) := by decide +kernel
theorem dX2_compare_1 : decode cX2_compare 1 = .ok (.aload_n 0, 1) := by decide +kernel
theorem dX2_compare_2 : decode cX2_compare 2 = .ok (.getfield 18, 3) := by decide +kernel
theorem dX2_compare_5 : decode cX2_compare 5 = .ok (.aload_n 0, 1) := by decide +kernel
theorem dX2_compare_6 : decode cX2_compare 6 = .ok (.getfield 21, 3) := by decide +kernel
theorem dX2_compare_9 : decode cX2_compare 9 = .ok (.if_icmp .ne 29, 3) := by decide +kernel
theorem dX2_compare_12 : decode cX2_compare 12 = .ok (.aload_n 0, 1) := by decide +kernel
theorem dX2_compare_13 : decode cX2_compare 13 = .ok (.getfield 24, 3) := by decide +kernel
theorem dX2_compare_16 : decode cX2_compare 16 = .ok (.aload_n 0, 1) := by decide +kernel
theorem dX2_compare_17 : decode cX2_compare 17 = .ok (.getfield 27, 3) := by decide +kernel
theorem dX2_compare_20 : decode cX2_compare 20 = .ok (.if_icmp .ne 18, 3) := by decide +kernel
theorem dX2_compare_23 : decode cX2_compare 23 = .ok (.aload_n 0, 1) := by decide +kernel
theorem dX2_compare_24 : decode cX2_compare 24 = .ok (.getfield 30, 3) := by decide +kernel
theorem dX2_compare_27 : decode cX2_compare 27 = .ok (.aload_n 0, 1) := by decide +kernel
theorem dX2_compare_28 : decode cX2_compare 28 = .ok (.getfield 33, 3) := by decide +kernel
theorem dX2_compare_31 : decode cX2_compare 31 = .ok (.if_icmp .ne 7, 3) := by decide +kernel
theorem dX2_compare_34 : decode cX2_compare 34 = .ok (.iconst 1, 1) := by decide +kernel
theorem dX2_compare_35 : decode cX2_compare 35 = .ok (.goto 4, 3) := by decide +kernel
theorem dX2_compare_38 : decode cX2_compare 38 = .ok (.iconst 0, 1) := by decide +kernel
theorem dX2_compare_39 : decode cX2_compare 39 = .ok (.putfield 48, 3) := by decide +kernel
theorem dX2_compare_42 : decode cX2_compare 42 = .ok (.return_, 1) := by decide +kernel
theorem dX3_init_0 : decode cX3_init 0 = .ok (.aload_n 0, 1) := by decide +kernel
theorem dX3_init_1 : decode cX3_init 1 = .ok (.invokespecial 3, 3) := by decide +kernel
theorem dX3_init_4 : decode cX3_init 4 = .ok (.aload_n 0, 1) := by decide +kernel
theorem dX3_init_5 : decode cX3_init 5 = .ok (.bipush 60, 2) := by decide +kernel
theorem dX3_init_7 : decode cX3_init 7 = .ok (.newarray .int, 2) := by decide +kernel
theorem dX3_init_9 : decode cX3_init 9 = .ok (.putfield 9, 3) := by decide +kernel
theorem dX3_init_12 : decode cX3_init 12 = .ok (.return_, 1) := by decide +kernel
theorem dX3_add_0 : decode cX3_add 0 = .ok (.aload_n 0, 1) := by decide +kernel
theorem dX3_add_1 : decode cX3_add 1 = .ok (.getfield 9, 3) := by decide +kernel
theorem dX3_add_4 : decode cX3_add 4 = .ok (.aload_n 0, 1) := by decide +kernel
theorem dX3_add_5 : decode cX3_add 5 = .ok (.getfield 15, 3) := by decide +kernel
theorem dX3_add_8 : decode cX3_add 8 = .ok (.iload_n 1, 1) := by decide +kernel
theorem dX3_add_9 : decode cX3_add 9 = .ok (.iastore, 1) := by decide +kernel
theorem dX3_add_10 : decode cX3_add 10 = .ok (.aload_n 0, 1) := by decide +kernel
theorem dX3_add_11 : decode cX3_add 11 = .ok (.dup, 1) := by decide +kernel
theorem dX3_add_12 : decode cX3_add 12 = .ok (.getfield 15, 3) := by decide +kernel
theorem dX3_add_15 : decode cX3_add 15 = .ok (.iconst 1, 1) := by decide +kernel
theorem dX3_add_16 : decode cX3_add 16 = .ok (.iadd, 1) := by decide +kernel
theorem dX3_add_17 : decode cX3_add 17 = .ok (.putfield 15, 3) := by decide +kernel
theorem dX3_add_20 : decode cX3_add 20 = .ok (.aload_n 0, 1) := by decide +kernel
theorem dX3_add_21 : decode cX3_add 21 = .ok (.getfield 15, 3) := by decide +kernel
theorem dX3_add_24 : decode cX3_add 24 = .ok (.ireturn, 1) := by decide +kernel
theorem dX3_clear_0 : decode cX3_clear 0 = .ok (.aload_n 0, 1) := by decide +kernel
theorem dX3_clear_1 : decode cX3_clear 1 = .ok (.getfield 15, 3) := by decide +kernel
theorem dX3_clear_4 : decode cX3_clear 4 = .ok (.istore_n 1, 1) := by decide +kernel
theorem dX3_clear_5 : decode cX3_clear 5 = .ok (.aload_n 0, 1) := by decide +kernel
theorem dX3_clear_6 : decode cX3_clear 6 = .ok (.iconst 0, 1) := by decide +kernel
theorem dX3_clear_7 : decode cX3_clear 7 = .ok (.putfield 15, 3) := by decide +kernel
theorem dX3_clear_10 : decode cX3_clear 10 = .ok (.iload_n 1, 1) := by decide +kernel
theorem dX3_clear_11 : decode cX3_clear 11 = .ok (.ireturn, 1) := by decide +kernel
theorem dX3_firstFault_0 : decode cX3_firstFault 0 = .ok (.iconst 0, 1) := by decide +kernel
theorem dX3_firstFault_1 : decode cX3_firstFault 1 = .ok (.istore_n 1, 1) := by decide +kernel
theorem dX3_firstFault_2 : decode cX3_firstFault 2 = .ok (.iconst 0, 1) := by decide +kernel
theorem dX3_firstFault_3 : decode cX3_firstFault 3 = .ok (.istore_n 2, 1) := by decide +kernel
theorem dX3_firstFault_4 : decode cX3_firstFault 4 = .ok (.iconst 0, 1) := by decide +kernel
theorem dX3_firstFault_5 : decode cX3_firstFault 5 = .ok (.istore_n 3, 1) := by decide +kernel
theorem dX3_firstFault_6 : decode cX3_firstFault 6 = .ok (.iload_n 3, 1) := by decide +kernel
theorem dX3_firstFault_7 : decode cX3_firstFault 7 = .ok (.aload_n 0, 1) := by decide +kernel
theorem dX3_firstFault_8 : decode cX3_firstFault 8 = .ok (.getfield 15, 3) := by decide +kernel
theorem dX3_firstFault_11 : decode cX3_firstFault 11 = .ok (.if_icmp .ge 51, 3) := by decide +kernel
theorem dX3_firstFault_14 : decode cX3_firstFault 14 = .ok (.iload_n 1, 1) := by decide +kernel
theorem dX3_firstFault_15 : decode cX3_firstFault 15 = .ok (.aload_n 0, 1) := by decide +kernel
theorem dX3_firstFault_16 : decode cX3_firstFault 16 = .ok (.getfield 9, 3) := by decide +kernel
theorem dX3_firstFault_19 : decode cX3_firstFault 19 = .ok (.iload_n 3, 1) := by decide +kernel
theorem dX3_firstFault_20 : decode cX3_firstFault 20 = .ok (.iaload, 1) := by decide +kernel
theorem dX3_firstFault_21 : decode cX3_firstFault 21 = .ok (.iload_n 2, 1) := by decide +kernel
theorem dX3_firstFault_22 : decode cX3_firstFault 22 = .ok (.invokestatic 19, 3) := by decide +kernel
theorem dX3_firstFault_25 : decode cX3_firstFault 25 = .ok (.istore 4, 2) := by decide +kernel
theorem dX3_firstFault_27 : decode cX3_firstFault 27 = .ok (.iload 4, 2) := by decide +kernel
theorem dX3_firstFault_29 : decode cX3_firstFault 29 = .ok (.iconst (-1), 1) := by decide +kernel
theorem dX3_firstFault_30 : decode cX3_firstFault 30 = .ok (.if_icmp .ne 5, 3) := by decide +kernel
theorem dX3_firstFault_33 : decode cX3_firstFault 33 = .ok (.iload_n 3, 1) := by decide +kernel
theorem dX3_firstFault_34 : decode cX3_firstFault 34 = .ok (.ireturn, 1) := by decide +kernel
theorem dX3_firstFault_35 : decode cX3_firstFault 35 = .ok (.iload_n 1, 1) := by decide +kernel
theorem dX3_firstFault_36 : decode cX3_firstFault 36 = .ok (.ifCond .ne 17, 3) := by decide +kernel
theorem dX3_firstFault_39 : decode cX3_firstFault 39 = .ok (.iload_n 2, 1) := by decide +kernel
theorem dX3_firstFault_40 : decode cX3_firstFault 40 = .ok (.iconst 1, 1) := by decide +kernel
theorem dX3_firstFault_41 : decode cX3_firstFault 41 = .ok (.aload_n 0, 1) := by decide +kernel
theorem dX3_firstFault_42 : decode cX3_firstFault 42 = .ok (.getfield 9, 3) := by decide +kernel
theorem dX3_firstFault_45 : decode cX3_firstFault 45 = .ok (.iload_n 3, 1) := by decide +kernel
theorem dX3_firstFault_46 : decode cX3_firstFault 46 = .ok (.iaload, 1) := by decide +kernel
theorem dX3_firstFault_47 : decode cX3_firstFault 47 = .ok (.invokestatic 23, 3) := by decide +kernel
theorem dX3_firstFault_50 : decode cX3_firstFault 50 = .ok (.ishl, 1) := by decide +kernel
theorem dX3_firstFault_51 : decode cX3_firstFault 51 = .ok (.ior, 1) := by decide +kernel
theorem dX3_firstFault_52 : decode cX3_firstFault 52 = .ok (.istore_n 2, 1) := by decide +kernel
theorem dX3_firstFault_53 : decode cX3_firstFault 53 = .ok (.iload 4, 2) := by decide +kernel
theorem dX3_firstFault_55 : decode cX3_firstFault 55 = .ok (.istore_n 1, 1) := by decide +kernel
theorem dX3_firstFault_56 : decode cX3_firstFault 56 = .ok (.iinc 3 1, 3) := by decide +kernel
theorem dX3_firstFault_59 : decode cX3_firstFault 59 = .ok (.goto (-53), 3) := by decide +kernel
theorem dX3_firstFault_62 : decode cX3_firstFault 62 = .ok (.iload_n 1, 1) := by decide +kernel
theorem dX3_firstFault_63 : decode cX3_firstFault 63 = .ok (.iconst 5, 1) := by decide +kernel
theorem dX3_firstFault_64 : decode cX3_firstFault 64 = .ok (.if_icmp .lt 8, 3) := by decide +kernel
theorem dX3_firstFault_67 : decode cX3_firstFault 67 = .ok (.bipush (-6), 2) := by decide +kernel
theorem dX3_firstFault_69 : decode cX3_firstFault 69 = .ok (.goto 7, 3) := by decide +kernel
theorem dX3_firstFault_72 : decode cX3_firstFault 72 = .ok (.aload_n 0, 1) := by decide +kernel
theorem dX3_firstFault_73 : decode cX3_firstFault 73 = .ok (.getfield 15, 3) := by decide +kernel
theorem dX3_firstFault_76 : decode cX3_firstFault 76 = .ok (.ireturn, 1) := by decide +kernel
theorem dX3_following_0 : decode cX3_following 0 = .ok (.iload_n 0, 1) := by decide +kernel
theorem dX3_following_1 : decode cX3_following 1 = .ok (.tableswitch 102 0 4 #[35, 49, 61, 76, 89], 35) := by decide +kernel
theorem dX3_following_36 : decode cX3_following 36 = .ok (.iload_n 1, 1) := by decide +kernel
theorem dX3_following_37 : decode cX3_following 37 = .ok (.iload_n 2, 1) := by decide +kernel
theorem dX3_following_38 : decode cX3_following 38 = .ok (.invokestatic 29, 3) := by decide +kernel
theorem dX3_following_41 : decode cX3_following 41 = .ok (.ifCond .eq 7, 3) := by decide +kernel
theorem dX3_following_44 : decode cX3_following 44 = .ok (.iconst 1, 1) := by decide +kernel
theorem dX3_following_45 : decode cX3_following 45 = .ok (.goto 4, 3) := by decide +kernel
theorem dX3_following_48 : decode cX3_following 48 = .ok (.iconst (-1), 1) := by decide +kernel
theorem dX3_following_49 : decode cX3_following 49 = .ok (.ireturn, 1) := by decide +kernel
theorem dX3_following_50 : decode cX3_following 50 = .ok (.iload_n 1, 1) := by decide +kernel
theorem dX3_following_51 : decode cX3_following 51 = .ok (.bipush 58, 2) := by decide +kernel
theorem dX3_following_53 : decode cX3_following 53 = .ok (.if_icmp .ne 7, 3) := by decide +kernel
theorem dX3_following_56 : decode cX3_following 56 = .ok (.iconst 2, 1) := by decide +kernel
theorem dX3_following_57 : decode cX3_following 57 = .ok (.goto 4, 3) := by decide +kernel
theorem dX3_following_60 : decode cX3_following 60 = .ok (.iconst (-1), 1) := by decide +kernel
theorem dX3_following_61 : decode cX3_following 61 = .ok (.ireturn, 1) := by decide +kernel
theorem dX3_following_62 : decode cX3_following 62 = .ok (.iload_n 1, 1) := by decide +kernel
theorem dX3_following_63 : decode cX3_following 63 = .ok (.invokestatic 33, 3) := by decide +kernel
theorem dX3_following_66 : decode cX3_following 66 = .ok (.bipush (-6), 2) := by decide +kernel
theorem dX3_following_68 : decode cX3_following 68 = .ok (.if_icmp .eq 7, 3) := by decide +kernel
theorem dX3_following_71 : decode cX3_following 71 = .ok (.iconst 3, 1) := by decide +kernel
theorem dX3_following_72 : decode cX3_following 72 = .ok (.goto 4, 3) := by decide +kernel
theorem dX3_following_75 : decode cX3_following 75 = .ok (.iconst (-1), 1) := by decide +kernel
theorem dX3_following_76 : decode cX3_following 76 = .ok (.ireturn, 1) := by decide +kernel
theorem dX3_following_77 : decode cX3_following 77 = .ok (.iload_n 1, 1) := by decide +kernel
theorem dX3_following_78 : decode cX3_following 78 = .ok (.invokestatic 36, 3) := by decide +kernel
theorem dX3_following_81 : decode cX3_following 81 = .ok (.ifCond .eq 7, 3) := by decide +kernel
theorem dX3_following_84 : decode cX3_following 84 = .ok (.iconst 4, 1) := by decide +kernel
theorem dX3_following_85 : decode cX3_following 85 = .ok (.goto 4, 3) := by decide +kernel
theorem dX3_following_88 : decode cX3_following 88 = .ok (.iconst (-1), 1) := by decide +kernel
theorem dX3_following_89 : decode cX3_following 89 = .ok (.ireturn, 1) := by decide +kernel
theorem dX3_following_90 : decode cX3_following 90 = .ok (.iload_n 1, 1) := by decide +kernel
theorem dX3_following_91 : decode cX3_following 91 = .ok (.invokestatic 40, 3) := by decide +kernel
theorem dX3_following_94 : decode cX3_following 94 = .ok (.ifCond .eq 7, 3) := by decide +kernel
theorem dX3_following_97 : decode cX3_following 97 = .ok (.iconst 5, 1) := by decide +kernel
theorem dX3_following_98 : decode cX3_following 98 = .ok (.goto 4, 3) := by decide +kernel
theorem dX3_following_101 : decode cX3_following 101 = .ok (.iconst (-1), 1) := by decide +kernel
theorem dX3_following_102 : decode cX3_following 102 = .ok (.ireturn, 1) := by decide +kernel
theorem dX3_following_103 : decode cX3_following 103 = .ok (.iload_n 0, 1) := by decide +kernel
theorem dX3_following_104 : decode cX3_following 104 = .ok (.iload_n 1, 1) := by decide +kernel
theorem dX3_following_105 : decode cX3_following 105 = .ok (.iload_n 2, 1) := by decide +kernel
theorem dX3_following_106 : decode cX3_following 106 = .ok (.invokestatic 43, 3) := by decide +kernel
theorem dX3_following_109 : decode cX3_following 109 = .ok (.ireturn, 1) := by decide +kernel
theorem dX3_isNewLetter_0 : decode cX3_isNewLetter 0 = .ok (.iload_n 0, 1) := by decide +kernel
theorem dX3_isNewLetter_1 : decode cX3_isNewLetter 1 = .ok (.invokestatic 23, 3) := by decide +kernel
theorem dX3_isNewLetter_4 : decode cX3_isNewLetter 4 = .ok (.istore_n 2, 1) := by decide +kernel
theorem dX3_isNewLetter_5 : decode cX3_isNewLetter 5 = .ok (.iload_n 2, 1) := by decide +kernel
theorem dX3_isNewLetter_6 : decode cX3_isNewLetter 6 = .ok (.bipush (-6), 2) := by decide +kernel
theorem dX3_isNewLetter_8 : decode cX3_isNewLetter 8 = .ok (.if_icmp .eq 15, 3) := by decide +kernel
theorem dX3_isNewLetter_11 : decode cX3_isNewLetter 11 = .ok (.iload_n 1, 1) := by decide +kernel
theorem dX3_isNewLetter_12 : decode cX3_isNewLetter 12 = .ok (.iload_n 2, 1) := by decide +kernel
theorem dX3_isNewLetter_13 : decode cX3_isNewLetter 13 = .ok (.ishr, 1) := by decide +kernel
theorem dX3_isNewLetter_14 : decode cX3_isNewLetter 14 = .ok (.iconst 1, 1) := by decide +kernel
theorem dX3_isNewLetter_15 : decode cX3_isNewLetter 15 = .ok (.iand, 1) := by decide +kernel
theorem dX3_isNewLetter_16 : decode cX3_isNewLetter 16 = .ok (.ifCond .ne 7, 3) := by decide +kernel
theorem dX3_isNewLetter_19 : decode cX3_isNewLetter 19 = .ok (.iconst 1, 1) := by decide +kernel
theorem dX3_isNewLetter_20 : decode cX3_isNewLetter 20 = .ok (.goto 4, 3) := by decide +kernel
theorem dX3_isNewLetter_23 : decode cX3_isNewLetter 23 = .ok (.iconst 0, 1) := by decide +kernel
theorem dX3_isNewLetter_24 : decode cX3_isNewLetter 24 = .ok (.ireturn, 1) := by decide +kernel
theorem dX3_behindDigit_0 : decode cX3_behindDigit 0 = .ok (.iload_n 1, 1) := by decide +kernel
theorem dX3_behindDigit_1 : decode cX3_behindDigit 1 = .ok (.bipush 44, 2) := by decide +kernel
theorem dX3_behindDigit_3 : decode cX3_behindDigit 3 = .ok (.if_icmp .ne 5, 3) := by decide +kernel
theorem dX3_behindDigit_6 : decode cX3_behindDigit 6 = .ok (.iconst 2, 1) := by decide +kernel
theorem dX3_behindDigit_7 : decode cX3_behindDigit 7 = .ok (.ireturn, 1) := by decide +kernel
theorem dX3_behindDigit_8 : decode cX3_behindDigit 8 = .ok (.iload_n 1, 1) := by decide +kernel
theorem dX3_behindDigit_9 : decode cX3_behindDigit 9 = .ok (.bipush 59, 2) := by decide +kernel
theorem dX3_behindDigit_11 : decode cX3_behindDigit 11 = .ok (.if_icmp .ne 15, 3) := by decide +kernel
theorem dX3_behindDigit_14 : decode cX3_behindDigit 14 = .ok (.iload_n 2, 1) := by decide +kernel
theorem dX3_behindDigit_15 : decode cX3_behindDigit 15 = .ok (.bipush 63, 2) := by decide +kernel
theorem dX3_behindDigit_17 : decode cX3_behindDigit 17 = .ok (.if_icmp .ne 7, 3) := by decide +kernel
theorem dX3_behindDigit_20 : decode cX3_behindDigit 20 = .ok (.iconst (-1), 1) := by decide +kernel
theorem dX3_behindDigit_21 : decode cX3_behindDigit 21 = .ok (.goto 4, 3) := by decide +kernel
theorem dX3_behindDigit_24 : decode cX3_behindDigit 24 = .ok (.iconst 0, 1) := by decide +kernel
theorem dX3_behindDigit_25 : decode cX3_behindDigit 25 = .ok (.ireturn, 1) := by decide +kernel
theorem dX3_behindDigit_26 : decode cX3_behindDigit 26 = .ok (.iload_n 1, 1) := by decide +kernel
theorem dX3_behindDigit_27 : decode cX3_behindDigit 27 = .ok (.invokestatic 40, 3) := by decide +kernel
theorem dX3_behindDigit_30 : decode cX3_behindDigit 30 = .ok (.ifCond .eq 15, 3) := by decide +kernel
theorem dX3_behindDigit_33 : decode cX3_behindDigit 33 = .ok (.iload_n 0, 1) := by decide +kernel
theorem dX3_behindDigit_34 : decode cX3_behindDigit 34 = .ok (.bipush 8, 2) := by decide +kernel
theorem dX3_behindDigit_36 : decode cX3_behindDigit 36 = .ok (.if_icmp .ge 9, 3) := by decide +kernel
theorem dX3_behindDigit_39 : decode cX3_behindDigit 39 = .ok (.iload_n 0, 1) := by decide +kernel
theorem dX3_behindDigit_40 : decode cX3_behindDigit 40 = .ok (.iconst 1, 1) := by decide +kernel
theorem dX3_behindDigit_41 : decode cX3_behindDigit 41 = .ok (.iadd, 1) := by decide +kernel
theorem dX3_behindDigit_42 : decode cX3_behindDigit 42 = .ok (.goto 4, 3) := by decide +kernel
theorem dX3_behindDigit_45 : decode cX3_behindDigit 45 = .ok (.iconst (-1), 1) := by decide +kernel
theorem dX3_behindDigit_46 : decode cX3_behindDigit 46 = .ok (.ireturn, 1) := by decide +kernel
theorem dX4_init_0 : decode cX4_init 0 = .ok (.aload_n 0, 1) := by decide +kernel
theorem dX4_init_1 : decode cX4_init 1 = .ok (.invokespecial 5, 3) := by decide +kernel
theorem dX4_init_4 : decode cX4_init 4 = .ok (.aload_n 0, 1) := by decide +kernel
theorem dX4_init_5 : decode cX4_init 5 = .ok (.iconst 4, 1) := by decide +kernel
theorem dX4_init_6 : decode cX4_init 6 = .ok (.newarray .int, 2) := by decide +kernel
theorem dX4_init_8 : decode cX4_init 8 = .ok (.putfield 11, 3) := by decide +kernel
theorem dX4_init_11 : decode cX4_init 11 = .ok (.aload_n 0, 1) := by decide +kernel
theorem dX4_init_12 : decode cX4_init 12 = .ok (.iconst 4, 1) := by decide +kernel
theorem dX4_init_13 : decode cX4_init 13 = .ok (.newarray .int, 2) := by decide +kernel
theorem dX4_init_15 : decode cX4_init 15 = .ok (.putfield 15, 3) := by decide +kernel
theorem dX4_init_18 : decode cX4_init 18 = .ok (.aload_n 0, 1) := by decide +kernel
theorem dX4_init_19 : decode cX4_init 19 = .ok (.iconst 4, 1) := by decide +kernel
theorem dX4_init_20 : decode cX4_init 20 = .ok (.newarray .int, 2) := by decide +kernel
theorem dX4_init_22 : decode cX4_init 22 = .ok (.putfield 18, 3) := by decide +kernel
theorem dX4_init_25 : decode cX4_init 25 = .ok (.aload_n 0, 1) := by decide +kernel
theorem dX4_init_26 : decode cX4_init 26 = .ok (.iconst 4, 1) := by decide +kernel
theorem dX4_init_27 : decode cX4_init 27 = .ok (.newarray .int, 2) := by decide +kernel
theorem dX4_init_29 : decode cX4_init 29 = .ok (.putfield 21, 3) := by decide +kernel
theorem dX4_init_32 : decode cX4_init 32 = .ok (.aload_n 0, 1) := by decide +kernel
theorem dX4_init_33 : decode cX4_init 33 = .ok (.sipush 2205, 3) := by decide +kernel
theorem dX4_init_36 : decode cX4_init 36 = .ok (.newarray .int, 2) := by decide +kernel
theorem dX4_init_38 : decode cX4_init 38 = .ok (.putfield 24, 3) := by decide +kernel
theorem dX4_init_41 : decode cX4_init 41 = .ok (.return_, 1) := by decide +kernel
theorem dX4_worth_0 : decode cX4_worth 0 = .ok (.aload_n 0, 1) := by decide +kernel
theorem dX4_worth_1 : decode cX4_worth 1 = .ok (.getfield 24, 3) := by decide +kernel
theorem dX4_worth_4 : decode cX4_worth 4 = .ok (.iload_n 1, 1) := by decide +kernel
theorem dX4_worth_5 : decode cX4_worth 5 = .ok (.sipush 441, 3) := by decide +kernel
theorem dX4_worth_8 : decode cX4_worth 8 = .ok (.imul, 1) := by decide +kernel
theorem dX4_worth_9 : decode cX4_worth 9 = .ok (.iload_n 2, 1) := by decide +kernel
theorem dX4_worth_10 : decode cX4_worth 10 = .ok (.bipush 21, 2) := by decide +kernel
theorem dX4_worth_12 : decode cX4_worth 12 = .ok (.imul, 1) := by decide +kernel
theorem dX4_worth_13 : decode cX4_worth 13 = .ok (.iadd, 1) := by decide +kernel
theorem dX4_worth_14 : decode cX4_worth 14 = .ok (.iload_n 3, 1) := by decide +kernel
theorem dX4_worth_15 : decode cX4_worth 15 = .ok (.iadd, 1) := by decide +kernel
theorem dX4_worth_16 : decode cX4_worth 16 = .ok (.iaload, 1) := by decide +kernel
theorem dX4_worth_17 : decode cX4_worth 17 = .ok (.ireturn, 1) := by decide +kernel
theorem dX4_plan_0 : decode cX4_plan 0 = .ok (.iconst 3, 1) := by decide +kernel
theorem dX4_plan_1 : decode cX4_plan 1 = .ok (.istore_n 3, 1) := by decide +kernel
theorem dX4_plan_2 : decode cX4_plan 2 = .ok (.iload_n 3, 1) := by decide +kernel
theorem dX4_plan_3 : decode cX4_plan 3 = .ok (.ifCond .lt 62, 3) := by decide +kernel
theorem dX4_plan_6 : decode cX4_plan 6 = .ok (.aload_n 0, 1) := by decide +kernel
theorem dX4_plan_7 : decode cX4_plan 7 = .ok (.getfield 24, 3) := by decide +kernel
theorem dX4_plan_10 : decode cX4_plan 10 = .ok (.iload_n 3, 1) := by decide +kernel
theorem dX4_plan_11 : decode cX4_plan 11 = .ok (.iconst 1, 1) := by decide +kernel
theorem dX4_plan_12 : decode cX4_plan 12 = .ok (.iadd, 1) := by decide +kernel
theorem dX4_plan_13 : decode cX4_plan 13 = .ok (.sipush 441, 3) := by decide +kernel
theorem dX4_plan_16 : decode cX4_plan 16 = .ok (.imul, 1) := by decide +kernel
theorem dX4_plan_17 : decode cX4_plan 17 = .ok (.aload_n 0, 1) := by decide +kernel
theorem dX4_plan_18 : decode cX4_plan 18 = .ok (.getfield 24, 3) := by decide +kernel
theorem dX4_plan_21 : decode cX4_plan 21 = .ok (.iload_n 3, 1) := by decide +kernel
theorem dX4_plan_22 : decode cX4_plan 22 = .ok (.sipush 441, 3) := by decide +kernel
theorem dX4_plan_25 : decode cX4_plan 25 = .ok (.imul, 1) := by decide +kernel
theorem dX4_plan_26 : decode cX4_plan 26 = .ok (.sipush 441, 3) := by decide +kernel
theorem dX4_plan_29 : decode cX4_plan 29 = .ok (.invokestatic 27, 3) := by decide +kernel
theorem dX4_plan_32 : decode cX4_plan 32 = .ok (.iconst 0, 1) := by decide +kernel
theorem dX4_plan_33 : decode cX4_plan 33 = .ok (.istore 4, 2) := by decide +kernel
theorem dX4_plan_35 : decode cX4_plan 35 = .ok (.iload 4, 2) := by decide +kernel
theorem dX4_plan_37 : decode cX4_plan 37 = .ok (.aload_n 0, 1) := by decide +kernel
theorem dX4_plan_38 : decode cX4_plan 38 = .ok (.getfield 15, 3) := by decide +kernel
theorem dX4_plan_41 : decode cX4_plan 41 = .ok (.iload_n 3, 1) := by decide +kernel
theorem dX4_plan_42 : decode cX4_plan 42 = .ok (.iaload, 1) := by decide +kernel
theorem dX4_plan_43 : decode cX4_plan 43 = .ok (.if_icmp .ge 16, 3) := by decide +kernel
theorem dX4_plan_46 : decode cX4_plan 46 = .ok (.aload_n 0, 1) := by decide +kernel
theorem dX4_plan_47 : decode cX4_plan 47 = .ok (.iload_n 3, 1) := by decide +kernel
theorem dX4_plan_48 : decode cX4_plan 48 = .ok (.iload_n 1, 1) := by decide +kernel
theorem dX4_plan_49 : decode cX4_plan 49 = .ok (.iload_n 2, 1) := by decide +kernel
theorem dX4_plan_50 : decode cX4_plan 50 = .ok (.invokevirtual 33, 3) := by decide +kernel
theorem dX4_plan_53 : decode cX4_plan 53 = .ok (.iinc 4 1, 3) := by decide +kernel
theorem dX4_plan_56 : decode cX4_plan 56 = .ok (.goto (-21), 3) := by decide +kernel
theorem dX4_plan_59 : decode cX4_plan 59 = .ok (.iinc 3 (-1), 3) := by decide +kernel
theorem dX4_plan_62 : decode cX4_plan 62 = .ok (.goto (-60), 3) := by decide +kernel
theorem dX4_plan_65 : decode cX4_plan 65 = .ok (.return_, 1) := by decide +kernel
theorem dX4_bearOneMore_0 : decode cX4_bearOneMore 0 = .ok (.iload_n 2, 1) := by decide +kernel
theorem dX4_bearOneMore_1 : decode cX4_bearOneMore 1 = .ok (.istore 4, 2) := by decide +kernel
theorem dX4_bearOneMore_3 : decode cX4_bearOneMore 3 = .ok (.iload 4, 2) := by decide +kernel
theorem dX4_bearOneMore_5 : decode cX4_bearOneMore 5 = .ok (.ifCond .lt 115, 3) := by decide +kernel
theorem dX4_bearOneMore_8 : decode cX4_bearOneMore 8 = .ok (.iload_n 3, 1) := by decide +kernel
theorem dX4_bearOneMore_9 : decode cX4_bearOneMore 9 = .ok (.istore 5, 2) := by decide +kernel
theorem dX4_bearOneMore_11 : decode cX4_bearOneMore 11 = .ok (.iload 5, 2) := by decide +kernel
theorem dX4_bearOneMore_13 : decode cX4_bearOneMore 13 = .ok (.ifCond .lt 101, 3) := by decide +kernel
theorem dX4_bearOneMore_16 : decode cX4_bearOneMore 16 = .ok (.aload_n 0, 1) := by decide +kernel
theorem dX4_bearOneMore_17 : decode cX4_bearOneMore 17 = .ok (.iload_n 1, 1) := by decide +kernel
theorem dX4_bearOneMore_18 : decode cX4_bearOneMore 18 = .ok (.iload 4, 2) := by decide +kernel
theorem dX4_bearOneMore_20 : decode cX4_bearOneMore 20 = .ok (.iload 5, 2) := by decide +kernel
theorem dX4_bearOneMore_22 : decode cX4_bearOneMore 22 = .ok (.invokevirtual 37, 3) := by decide +kernel
theorem dX4_bearOneMore_25 : decode cX4_bearOneMore 25 = .ok (.istore 6, 2) := by decide +kernel
theorem dX4_bearOneMore_27 : decode cX4_bearOneMore 27 = .ok (.iload 4, 2) := by decide +kernel
theorem dX4_bearOneMore_29 : decode cX4_bearOneMore 29 = .ok (.ifCond .le 28, 3) := by decide +kernel
theorem dX4_bearOneMore_32 : decode cX4_bearOneMore 32 = .ok (.iload 6, 2) := by decide +kernel
theorem dX4_bearOneMore_34 : decode cX4_bearOneMore 34 = .ok (.aload_n 0, 1) := by decide +kernel
theorem dX4_bearOneMore_35 : decode cX4_bearOneMore 35 = .ok (.iload_n 1, 1) := by decide +kernel
theorem dX4_bearOneMore_36 : decode cX4_bearOneMore 36 = .ok (.iload 4, 2) := by decide +kernel
theorem dX4_bearOneMore_38 : decode cX4_bearOneMore 38 = .ok (.iconst 1, 1) := by decide +kernel
theorem dX4_bearOneMore_39 : decode cX4_bearOneMore 39 = .ok (.isub, 1) := by decide +kernel
theorem dX4_bearOneMore_40 : decode cX4_bearOneMore 40 = .ok (.iload 5, 2) := by decide +kernel
theorem dX4_bearOneMore_42 : decode cX4_bearOneMore 42 = .ok (.invokevirtual 37, 3) := by decide +kernel
theorem dX4_bearOneMore_45 : decode cX4_bearOneMore 45 = .ok (.aload_n 0, 1) := by decide +kernel
theorem dX4_bearOneMore_46 : decode cX4_bearOneMore 46 = .ok (.getfield 18, 3) := by decide +kernel
theorem dX4_bearOneMore_49 : decode cX4_bearOneMore 49 = .ok (.iload_n 1, 1) := by decide +kernel
theorem dX4_bearOneMore_50 : decode cX4_bearOneMore 50 = .ok (.iaload, 1) := by decide +kernel
theorem dX4_bearOneMore_51 : decode cX4_bearOneMore 51 = .ok (.iadd, 1) := by decide +kernel
theorem dX4_bearOneMore_52 : decode cX4_bearOneMore 52 = .ok (.invokestatic 41, 3) := by decide +kernel
theorem dX4_bearOneMore_55 : decode cX4_bearOneMore 55 = .ok (.istore 6, 2) := by decide +kernel
theorem dX4_bearOneMore_57 : decode cX4_bearOneMore 57 = .ok (.iload 5, 2) := by decide +kernel
theorem dX4_bearOneMore_59 : decode cX4_bearOneMore 59 = .ok (.ifCond .le 28, 3) := by decide +kernel
theorem dX4_bearOneMore_62 : decode cX4_bearOneMore 62 = .ok (.iload 6, 2) := by decide +kernel
theorem dX4_bearOneMore_64 : decode cX4_bearOneMore 64 = .ok (.aload_n 0, 1) := by decide +kernel
theorem dX4_bearOneMore_65 : decode cX4_bearOneMore 65 = .ok (.iload_n 1, 1) := by decide +kernel
theorem dX4_bearOneMore_66 : decode cX4_bearOneMore 66 = .ok (.iload 4, 2) := by decide +kernel
theorem dX4_bearOneMore_68 : decode cX4_bearOneMore 68 = .ok (.iload 5, 2) := by decide +kernel
theorem dX4_bearOneMore_70 : decode cX4_bearOneMore 70 = .ok (.iconst 1, 1) := by decide +kernel
theorem dX4_bearOneMore_71 : decode cX4_bearOneMore 71 = .ok (.isub, 1) := by decide +kernel
theorem dX4_bearOneMore_72 : decode cX4_bearOneMore 72 = .ok (.invokevirtual 37, 3) := by decide +kernel
theorem dX4_bearOneMore_75 : decode cX4_bearOneMore 75 = .ok (.aload_n 0, 1) := by decide +kernel
theorem dX4_bearOneMore_76 : decode cX4_bearOneMore 76 = .ok (.getfield 21, 3) := by decide +kernel
theorem dX4_bearOneMore_79 : decode cX4_bearOneMore 79 = .ok (.iload_n 1, 1) := by decide +kernel
theorem dX4_bearOneMore_80 : decode cX4_bearOneMore 80 = .ok (.iaload, 1) := by decide +kernel
theorem dX4_bearOneMore_81 : decode cX4_bearOneMore 81 = .ok (.iadd, 1) := by decide +kernel
theorem dX4_bearOneMore_82 : decode cX4_bearOneMore 82 = .ok (.invokestatic 41, 3) := by decide +kernel
theorem dX4_bearOneMore_85 : decode cX4_bearOneMore 85 = .ok (.istore 6, 2) := by decide +kernel
theorem dX4_bearOneMore_87 : decode cX4_bearOneMore 87 = .ok (.aload_n 0, 1) := by decide +kernel
theorem dX4_bearOneMore_88 : decode cX4_bearOneMore 88 = .ok (.getfield 24, 3) := by decide +kernel
theorem dX4_bearOneMore_91 : decode cX4_bearOneMore 91 = .ok (.iload_n 1, 1) := by decide +kernel
theorem dX4_bearOneMore_92 : decode cX4_bearOneMore 92 = .ok (.sipush 441, 3) := by decide +kernel
theorem dX4_bearOneMore_95 : decode cX4_bearOneMore 95 = .ok (.imul, 1) := by decide +kernel
theorem dX4_bearOneMore_96 : decode cX4_bearOneMore 96 = .ok (.iload 4, 2) := by decide +kernel
theorem dX4_bearOneMore_98 : decode cX4_bearOneMore 98 = .ok (.bipush 21, 2) := by decide +kernel
theorem dX4_bearOneMore_100 : decode cX4_bearOneMore 100 = .ok (.imul, 1) := by decide +kernel
theorem dX4_bearOneMore_101 : decode cX4_bearOneMore 101 = .ok (.iadd, 1) := by decide +kernel
theorem dX4_bearOneMore_102 : decode cX4_bearOneMore 102 = .ok (.iload 5, 2) := by decide +kernel
theorem dX4_bearOneMore_104 : decode cX4_bearOneMore 104 = .ok (.iadd, 1) := by decide +kernel
theorem dX4_bearOneMore_105 : decode cX4_bearOneMore 105 = .ok (.iload 6, 2) := by decide +kernel
theorem dX4_bearOneMore_107 : decode cX4_bearOneMore 107 = .ok (.iastore, 1) := by decide +kernel
theorem dX4_bearOneMore_108 : decode cX4_bearOneMore 108 = .ok (.iinc 5 (-1), 3) := by decide +kernel
theorem dX4_bearOneMore_111 : decode cX4_bearOneMore 111 = .ok (.goto (-100), 3) := by decide +kernel
theorem dX4_bearOneMore_114 : decode cX4_bearOneMore 114 = .ok (.iinc 4 (-1), 3) := by decide +kernel
theorem dX4_bearOneMore_117 : decode cX4_bearOneMore 117 = .ok (.goto (-114), 3) := by decide +kernel
theorem dX4_bearOneMore_120 : decode cX4_bearOneMore 120 = .ok (.return_, 1) := by decide +kernel
theorem dX4_borneBy_0 : decode cX4_borneBy 0 = .ok (.iload_n 2, 1) := by decide +kernel
theorem dX4_borneBy_1 : decode cX4_borneBy 1 = .ok (.istore 4, 2) := by decide +kernel
theorem dX4_borneBy_3 : decode cX4_borneBy 3 = .ok (.iload_n 3, 1) := by decide +kernel
theorem dX4_borneBy_4 : decode cX4_borneBy 4 = .ok (.istore 5, 2) := by decide +kernel
theorem dX4_borneBy_6 : decode cX4_borneBy 6 = .ok (.iconst 0, 1) := by decide +kernel
theorem dX4_borneBy_7 : decode cX4_borneBy 7 = .ok (.istore 6, 2) := by decide +kernel
theorem dX4_borneBy_9 : decode cX4_borneBy 9 = .ok (.iconst 0, 1) := by decide +kernel
theorem dX4_borneBy_10 : decode cX4_borneBy 10 = .ok (.istore 7, 2) := by decide +kernel
theorem dX4_borneBy_12 : decode cX4_borneBy 12 = .ok (.iload 7, 2) := by decide +kernel
theorem dX4_borneBy_14 : decode cX4_borneBy 14 = .ok (.iload_n 1, 1) := by decide +kernel
theorem dX4_borneBy_15 : decode cX4_borneBy 15 = .ok (.if_icmp .gt 41, 3) := by decide +kernel
theorem dX4_borneBy_18 : decode cX4_borneBy 18 = .ok (.aload_n 0, 1) := by decide +kernel
theorem dX4_borneBy_19 : decode cX4_borneBy 19 = .ok (.iload 7, 2) := by decide +kernel
theorem dX4_borneBy_21 : decode cX4_borneBy 21 = .ok (.iload 4, 2) := by decide +kernel
theorem dX4_borneBy_23 : decode cX4_borneBy 23 = .ok (.iload 5, 2) := by decide +kernel
theorem dX4_borneBy_25 : decode cX4_borneBy 25 = .ok (.invokevirtual 47, 3) := by decide +kernel
theorem dX4_borneBy_28 : decode cX4_borneBy 28 = .ok (.istore 6, 2) := by decide +kernel
theorem dX4_borneBy_30 : decode cX4_borneBy 30 = .ok (.iload 4, 2) := by decide +kernel
theorem dX4_borneBy_32 : decode cX4_borneBy 32 = .ok (.iload 6, 2) := by decide +kernel
theorem dX4_borneBy_34 : decode cX4_borneBy 34 = .ok (.bipush 100, 2) := by decide +kernel
theorem dX4_borneBy_36 : decode cX4_borneBy 36 = .ok (.idiv, 1) := by decide +kernel
theorem dX4_borneBy_37 : decode cX4_borneBy 37 = .ok (.isub, 1) := by decide +kernel
theorem dX4_borneBy_38 : decode cX4_borneBy 38 = .ok (.istore 4, 2) := by decide +kernel
theorem dX4_borneBy_40 : decode cX4_borneBy 40 = .ok (.iload 5, 2) := by decide +kernel
theorem dX4_borneBy_42 : decode cX4_borneBy 42 = .ok (.iload 6, 2) := by decide +kernel
theorem dX4_borneBy_44 : decode cX4_borneBy 44 = .ok (.bipush 100, 2) := by decide +kernel
theorem dX4_borneBy_46 : decode cX4_borneBy 46 = .ok (.irem, 1) := by decide +kernel
theorem dX4_borneBy_47 : decode cX4_borneBy 47 = .ok (.isub, 1) := by decide +kernel
theorem dX4_borneBy_48 : decode cX4_borneBy 48 = .ok (.istore 5, 2) := by decide +kernel
theorem dX4_borneBy_50 : decode cX4_borneBy 50 = .ok (.iinc 7 1, 3) := by decide +kernel
theorem dX4_borneBy_53 : decode cX4_borneBy 53 = .ok (.goto (-41), 3) := by decide +kernel
theorem dX4_borneBy_56 : decode cX4_borneBy 56 = .ok (.iload 6, 2) := by decide +kernel
theorem dX4_borneBy_58 : decode cX4_borneBy 58 = .ok (.ireturn, 1) := by decide +kernel
theorem dX4_leastRow_0 : decode cX4_leastRow 0 = .ok (.aload_n 0, 1) := by decide +kernel
theorem dX4_leastRow_1 : decode cX4_leastRow 1 = .ok (.iload_n 1, 1) := by decide +kernel
theorem dX4_leastRow_2 : decode cX4_leastRow 2 = .ok (.iload_n 2, 1) := by decide +kernel
theorem dX4_leastRow_3 : decode cX4_leastRow 3 = .ok (.iload_n 3, 1) := by decide +kernel
theorem dX4_leastRow_4 : decode cX4_leastRow 4 = .ok (.invokevirtual 37, 3) := by decide +kernel
theorem dX4_leastRow_7 : decode cX4_leastRow 7 = .ok (.istore 4, 2) := by decide +kernel
theorem dX4_leastRow_9 : decode cX4_leastRow 9 = .ok (.iconst 0, 1) := by decide +kernel
theorem dX4_leastRow_10 : decode cX4_leastRow 10 = .ok (.istore 5, 2) := by decide +kernel
theorem dX4_leastRow_12 : decode cX4_leastRow 12 = .ok (.iload 5, 2) := by decide +kernel
theorem dX4_leastRow_14 : decode cX4_leastRow 14 = .ok (.aload_n 0, 1) := by decide +kernel
theorem dX4_leastRow_15 : decode cX4_leastRow 15 = .ok (.getfield 15, 3) := by decide +kernel
theorem dX4_leastRow_18 : decode cX4_leastRow 18 = .ok (.iload_n 1, 1) := by decide +kernel
theorem dX4_leastRow_19 : decode cX4_leastRow 19 = .ok (.iaload, 1) := by decide +kernel
theorem dX4_leastRow_20 : decode cX4_leastRow 20 = .ok (.iload_n 2, 1) := by decide +kernel
theorem dX4_leastRow_21 : decode cX4_leastRow 21 = .ok (.invokestatic 50, 3) := by decide +kernel
theorem dX4_leastRow_24 : decode cX4_leastRow 24 = .ok (.if_icmp .gt 89, 3) := by decide +kernel
theorem dX4_leastRow_27 : decode cX4_leastRow 27 = .ok (.iconst 0, 1) := by decide +kernel
theorem dX4_leastRow_28 : decode cX4_leastRow 28 = .ok (.istore 6, 2) := by decide +kernel
theorem dX4_leastRow_30 : decode cX4_leastRow 30 = .ok (.iload 6, 2) := by decide +kernel
theorem dX4_leastRow_32 : decode cX4_leastRow 32 = .ok (.aload_n 0, 1) := by decide +kernel
theorem dX4_leastRow_33 : decode cX4_leastRow 33 = .ok (.getfield 15, 3) := by decide +kernel
theorem dX4_leastRow_36 : decode cX4_leastRow 36 = .ok (.iload_n 1, 1) := by decide +kernel
theorem dX4_leastRow_37 : decode cX4_leastRow 37 = .ok (.iaload, 1) := by decide +kernel
theorem dX4_leastRow_38 : decode cX4_leastRow 38 = .ok (.iload 5, 2) := by decide +kernel
theorem dX4_leastRow_40 : decode cX4_leastRow 40 = .ok (.isub, 1) := by decide +kernel
theorem dX4_leastRow_41 : decode cX4_leastRow 41 = .ok (.iload_n 3, 1) := by decide +kernel
theorem dX4_leastRow_42 : decode cX4_leastRow 42 = .ok (.invokestatic 50, 3) := by decide +kernel
theorem dX4_leastRow_45 : decode cX4_leastRow 45 = .ok (.if_icmp .gt 62, 3) := by decide +kernel
theorem dX4_leastRow_48 : decode cX4_leastRow 48 = .ok (.iload 5, 2) := by decide +kernel
theorem dX4_leastRow_50 : decode cX4_leastRow 50 = .ok (.aload_n 0, 1) := by decide +kernel
theorem dX4_leastRow_51 : decode cX4_leastRow 51 = .ok (.getfield 18, 3) := by decide +kernel
theorem dX4_leastRow_54 : decode cX4_leastRow 54 = .ok (.iload_n 1, 1) := by decide +kernel
theorem dX4_leastRow_55 : decode cX4_leastRow 55 = .ok (.iaload, 1) := by decide +kernel
theorem dX4_leastRow_56 : decode cX4_leastRow 56 = .ok (.imul, 1) := by decide +kernel
theorem dX4_leastRow_57 : decode cX4_leastRow 57 = .ok (.iload 6, 2) := by decide +kernel
theorem dX4_leastRow_59 : decode cX4_leastRow 59 = .ok (.aload_n 0, 1) := by decide +kernel
theorem dX4_leastRow_60 : decode cX4_leastRow 60 = .ok (.getfield 21, 3) := by decide +kernel
theorem dX4_leastRow_63 : decode cX4_leastRow 63 = .ok (.iload_n 1, 1) := by decide +kernel
theorem dX4_leastRow_64 : decode cX4_leastRow 64 = .ok (.iaload, 1) := by decide +kernel
theorem dX4_leastRow_65 : decode cX4_leastRow 65 = .ok (.imul, 1) := by decide +kernel
theorem dX4_leastRow_66 : decode cX4_leastRow 66 = .ok (.iadd, 1) := by decide +kernel
theorem dX4_leastRow_67 : decode cX4_leastRow 67 = .ok (.aload_n 0, 1) := by decide +kernel
theorem dX4_leastRow_68 : decode cX4_leastRow 68 = .ok (.iload_n 1, 1) := by decide +kernel
theorem dX4_leastRow_69 : decode cX4_leastRow 69 = .ok (.iconst 1, 1) := by decide +kernel
theorem dX4_leastRow_70 : decode cX4_leastRow 70 = .ok (.iadd, 1) := by decide +kernel
theorem dX4_leastRow_71 : decode cX4_leastRow 71 = .ok (.iload_n 2, 1) := by decide +kernel
theorem dX4_leastRow_72 : decode cX4_leastRow 72 = .ok (.iload 5, 2) := by decide +kernel
theorem dX4_leastRow_74 : decode cX4_leastRow 74 = .ok (.isub, 1) := by decide +kernel
theorem dX4_leastRow_75 : decode cX4_leastRow 75 = .ok (.iload_n 3, 1) := by decide +kernel
theorem dX4_leastRow_76 : decode cX4_leastRow 76 = .ok (.iload 6, 2) := by decide +kernel
theorem dX4_leastRow_78 : decode cX4_leastRow 78 = .ok (.isub, 1) := by decide +kernel
theorem dX4_leastRow_79 : decode cX4_leastRow 79 = .ok (.invokevirtual 37, 3) := by decide +kernel
theorem dX4_leastRow_82 : decode cX4_leastRow 82 = .ok (.iadd, 1) := by decide +kernel
theorem dX4_leastRow_83 : decode cX4_leastRow 83 = .ok (.istore 7, 2) := by decide +kernel
theorem dX4_leastRow_85 : decode cX4_leastRow 85 = .ok (.iload 7, 2) := by decide +kernel
theorem dX4_leastRow_87 : decode cX4_leastRow 87 = .ok (.iload 4, 2) := by decide +kernel
theorem dX4_leastRow_89 : decode cX4_leastRow 89 = .ok (.if_icmp .ne 12, 3) := by decide +kernel
theorem dX4_leastRow_92 : decode cX4_leastRow 92 = .ok (.bipush 100, 2) := by decide +kernel
theorem dX4_leastRow_94 : decode cX4_leastRow 94 = .ok (.iload 5, 2) := by decide +kernel
theorem dX4_leastRow_96 : decode cX4_leastRow 96 = .ok (.imul, 1) := by decide +kernel
theorem dX4_leastRow_97 : decode cX4_leastRow 97 = .ok (.iload 6, 2) := by decide +kernel
theorem dX4_leastRow_99 : decode cX4_leastRow 99 = .ok (.iadd, 1) := by decide +kernel
theorem dX4_leastRow_100 : decode cX4_leastRow 100 = .ok (.ireturn, 1) := by decide +kernel
theorem dX4_leastRow_101 : decode cX4_leastRow 101 = .ok (.iinc 6 1, 3) := by decide +kernel
theorem dX4_leastRow_104 : decode cX4_leastRow 104 = .ok (.goto (-74), 3) := by decide +kernel
theorem dX4_leastRow_107 : decode cX4_leastRow 107 = .ok (.iinc 5 1, 3) := by decide +kernel
theorem dX4_leastRow_110 : decode cX4_leastRow 110 = .ok (.goto (-98), 3) := by decide +kernel
theorem dX4_leastRow_113 : decode cX4_leastRow 113 = .ok (.iconst 0, 1) := by decide +kernel
theorem dX4_leastRow_114 : decode cX4_leastRow 114 = .ok (.ireturn, 1) := by decide +kernel
theorem dX5_init_0 : decode cX5_init 0 = .ok (.aload_n 0, 1) := by decide +kernel
theorem dX5_init_1 : decode cX5_init 1 = .ok (.invokespecial 3, 3) := by decide +kernel
theorem dX5_init_4 : decode cX5_init 4 = .ok (.aload_n 0, 1) := by decide +kernel
theorem dX5_init_5 : decode cX5_init 5 = .ok (.bipush 60, 2) := by decide +kernel
theorem dX5_init_7 : decode cX5_init 7 = .ok (.newarray .int, 2) := by decide +kernel
theorem dX5_init_9 : decode cX5_init 9 = .ok (.putfield 9, 3) := by decide +kernel
theorem dX5_init_12 : decode cX5_init 12 = .ok (.aload_n 0, 1) := by decide +kernel
theorem dX5_init_13 : decode cX5_init 13 = .ok (.bipush 60, 2) := by decide +kernel
theorem dX5_init_15 : decode cX5_init 15 = .ok (.newarray .int, 2) := by decide +kernel
theorem dX5_init_17 : decode cX5_init 17 = .ok (.putfield 15, 3) := by decide +kernel
theorem dX5_init_20 : decode cX5_init 20 = .ok (.aload_n 0, 1) := by decide +kernel
theorem dX5_init_21 : decode cX5_init 21 = .ok (.bipush 60, 2) := by decide +kernel
theorem dX5_init_23 : decode cX5_init 23 = .ok (.newarray .int, 2) := by decide +kernel
theorem dX5_init_25 : decode cX5_init 25 = .ok (.putfield 18, 3) := by decide +kernel
theorem dX5_init_28 : decode cX5_init 28 = .ok (.aload_n 0, 1) := by decide +kernel
theorem dX5_init_29 : decode cX5_init 29 = .ok (.bipush 60, 2) := by decide +kernel
theorem dX5_init_31 : decode cX5_init 31 = .ok (.newarray .int, 2) := by decide +kernel
theorem dX5_init_33 : decode cX5_init 33 = .ok (.putfield 21, 3) := by decide +kernel
theorem dX5_init_36 : decode cX5_init 36 = .ok (.return_, 1) := by decide +kernel
theorem dX5_add_0 : decode cX5_add 0 = .ok (.aload_n 0, 1) := by decide +kernel
theorem dX5_add_1 : decode cX5_add 1 = .ok (.getfield 9, 3) := by decide +kernel
theorem dX5_add_4 : decode cX5_add 4 = .ok (.aload_n 0, 1) := by decide +kernel
theorem dX5_add_5 : decode cX5_add 5 = .ok (.getfield 24, 3) := by decide +kernel
theorem dX5_add_8 : decode cX5_add 8 = .ok (.iload_n 1, 1) := by decide +kernel
theorem dX5_add_9 : decode cX5_add 9 = .ok (.iastore, 1) := by decide +kernel
theorem dX5_add_10 : decode cX5_add 10 = .ok (.aload_n 0, 1) := by decide +kernel
theorem dX5_add_11 : decode cX5_add 11 = .ok (.getfield 15, 3) := by decide +kernel
theorem dX5_add_14 : decode cX5_add 14 = .ok (.aload_n 0, 1) := by decide +kernel
theorem dX5_add_15 : decode cX5_add 15 = .ok (.getfield 24, 3) := by decide +kernel
theorem dX5_add_18 : decode cX5_add 18 = .ok (.iload_n 2, 1) := by decide +kernel
theorem dX5_add_19 : decode cX5_add 19 = .ok (.iastore, 1) := by decide +kernel
theorem dX5_add_20 : decode cX5_add 20 = .ok (.aload_n 0, 1) := by decide +kernel
theorem dX5_add_21 : decode cX5_add 21 = .ok (.getfield 18, 3) := by decide +kernel
theorem dX5_add_24 : decode cX5_add 24 = .ok (.aload_n 0, 1) := by decide +kernel
theorem dX5_add_25 : decode cX5_add 25 = .ok (.getfield 24, 3) := by decide +kernel
theorem dX5_add_28 : decode cX5_add 28 = .ok (.iload_n 3, 1) := by decide +kernel
theorem dX5_add_29 : decode cX5_add 29 = .ok (.iastore, 1) := by decide +kernel
theorem dX5_add_30 : decode cX5_add 30 = .ok (.aload_n 0, 1) := by decide +kernel
theorem dX5_add_31 : decode cX5_add 31 = .ok (.getfield 21, 3) := by decide +kernel
theorem dX5_add_34 : decode cX5_add 34 = .ok (.aload_n 0, 1) := by decide +kernel
theorem dX5_add_35 : decode cX5_add 35 = .ok (.getfield 24, 3) := by decide +kernel
theorem dX5_add_38 : decode cX5_add 38 = .ok (.iload 4, 2) := by decide +kernel
theorem dX5_add_40 : decode cX5_add 40 = .ok (.iastore, 1) := by decide +kernel
theorem dX5_add_41 : decode cX5_add 41 = .ok (.aload_n 0, 1) := by decide +kernel
theorem dX5_add_42 : decode cX5_add 42 = .ok (.dup, 1) := by decide +kernel
theorem dX5_add_43 : decode cX5_add 43 = .ok (.getfield 24, 3) := by decide +kernel
theorem dX5_add_46 : decode cX5_add 46 = .ok (.iconst 1, 1) := by decide +kernel
theorem dX5_add_47 : decode cX5_add 47 = .ok (.iadd, 1) := by decide +kernel
theorem dX5_add_48 : decode cX5_add 48 = .ok (.putfield 24, 3) := by decide +kernel
theorem dX5_add_51 : decode cX5_add 51 = .ok (.aload_n 0, 1) := by decide +kernel
theorem dX5_add_52 : decode cX5_add 52 = .ok (.getfield 24, 3) := by decide +kernel
theorem dX5_add_55 : decode cX5_add 55 = .ok (.ireturn, 1) := by decide +kernel
theorem dX5_find_0 : decode cX5_find 0 = .ok (.bipush (-6), 2) := by decide +kernel
theorem dX5_find_2 : decode cX5_find 2 = .ok (.istore 5, 2) := by decide +kernel
theorem dX5_find_4 : decode cX5_find 4 = .ok (.iconst 0, 1) := by decide +kernel
theorem dX5_find_5 : decode cX5_find 5 = .ok (.istore 6, 2) := by decide +kernel
theorem dX5_find_7 : decode cX5_find 7 = .ok (.iload 6, 2) := by decide +kernel
theorem dX5_find_9 : decode cX5_find 9 = .ok (.aload_n 0, 1) := by decide +kernel
theorem dX5_find_10 : decode cX5_find 10 = .ok (.getfield 24, 3) := by decide +kernel
theorem dX5_find_13 : decode cX5_find 13 = .ok (.if_icmp .ge 82, 3) := by decide +kernel
theorem dX5_find_16 : decode cX5_find 16 = .ok (.aload_n 0, 1) := by decide +kernel
theorem dX5_find_17 : decode cX5_find 17 = .ok (.getfield 9, 3) := by decide +kernel
theorem dX5_find_20 : decode cX5_find 20 = .ok (.iload 6, 2) := by decide +kernel
theorem dX5_find_22 : decode cX5_find 22 = .ok (.iaload, 1) := by decide +kernel
theorem dX5_find_23 : decode cX5_find 23 = .ok (.iload_n 1, 1) := by decide +kernel
theorem dX5_find_24 : decode cX5_find 24 = .ok (.if_icmp .ne 29, 3) := by decide +kernel
theorem dX5_find_27 : decode cX5_find 27 = .ok (.aload_n 0, 1) := by decide +kernel
theorem dX5_find_28 : decode cX5_find 28 = .ok (.getfield 21, 3) := by decide +kernel
theorem dX5_find_31 : decode cX5_find 31 = .ok (.iload 6, 2) := by decide +kernel
theorem dX5_find_33 : decode cX5_find 33 = .ok (.iaload, 1) := by decide +kernel
theorem dX5_find_34 : decode cX5_find 34 = .ok (.iload_n 3, 1) := by decide +kernel
theorem dX5_find_35 : decode cX5_find 35 = .ok (.if_icmp .gt 18, 3) := by decide +kernel
theorem dX5_find_38 : decode cX5_find 38 = .ok (.aload_n 0, 1) := by decide +kernel
theorem dX5_find_39 : decode cX5_find 39 = .ok (.getfield 15, 3) := by decide +kernel
theorem dX5_find_42 : decode cX5_find 42 = .ok (.iload 6, 2) := by decide +kernel
theorem dX5_find_44 : decode cX5_find 44 = .ok (.iaload, 1) := by decide +kernel
theorem dX5_find_45 : decode cX5_find 45 = .ok (.iload_n 2, 1) := by decide +kernel
theorem dX5_find_46 : decode cX5_find 46 = .ok (.if_icmp .gt 7, 3) := by decide +kernel
theorem dX5_find_49 : decode cX5_find 49 = .ok (.iconst 1, 1) := by decide +kernel
theorem dX5_find_50 : decode cX5_find 50 = .ok (.goto 4, 3) := by decide +kernel
theorem dX5_find_53 : decode cX5_find 53 = .ok (.iconst 0, 1) := by decide +kernel
theorem dX5_find_54 : decode cX5_find 54 = .ok (.istore 7, 2) := by decide +kernel
theorem dX5_find_56 : decode cX5_find 56 = .ok (.iload 7, 2) := by decide +kernel
theorem dX5_find_58 : decode cX5_find 58 = .ok (.ifCond .eq 31, 3) := by decide +kernel
theorem dX5_find_61 : decode cX5_find 61 = .ok (.iload 5, 2) := by decide +kernel
theorem dX5_find_63 : decode cX5_find 63 = .ok (.bipush (-6), 2) := by decide +kernel
theorem dX5_find_65 : decode cX5_find 65 = .ok (.if_icmp .eq 20, 3) := by decide +kernel
theorem dX5_find_68 : decode cX5_find 68 = .ok (.aload_n 0, 1) := by decide +kernel
theorem dX5_find_69 : decode cX5_find 69 = .ok (.getfield 15, 3) := by decide +kernel
theorem dX5_find_72 : decode cX5_find 72 = .ok (.iload 6, 2) := by decide +kernel
theorem dX5_find_74 : decode cX5_find 74 = .ok (.iaload, 1) := by decide +kernel
theorem dX5_find_75 : decode cX5_find 75 = .ok (.aload_n 0, 1) := by decide +kernel
theorem dX5_find_76 : decode cX5_find 76 = .ok (.getfield 15, 3) := by decide +kernel
theorem dX5_find_79 : decode cX5_find 79 = .ok (.iload 5, 2) := by decide +kernel
theorem dX5_find_81 : decode cX5_find 81 = .ok (.iaload, 1) := by decide +kernel
theorem dX5_find_82 : decode cX5_find 82 = .ok (.if_icmp .lt 7, 3) := by decide +kernel
theorem dX5_find_85 : decode cX5_find 85 = .ok (.iload 6, 2) := by decide +kernel
theorem dX5_find_87 : decode cX5_find 87 = .ok (.istore 5, 2) := by decide +kernel
theorem dX5_find_89 : decode cX5_find 89 = .ok (.iinc 6 1, 3) := by decide +kernel
theorem dX5_find_92 : decode cX5_find 92 = .ok (.goto (-85), 3) := by decide +kernel
theorem dX5_find_95 : decode cX5_find 95 = .ok (.iload 5, 2) := by decide +kernel
theorem dX5_find_97 : decode cX5_find 97 = .ok (.bipush (-6), 2) := by decide +kernel
theorem dX5_find_99 : decode cX5_find 99 = .ok (.if_icmp .ne 8, 3) := by decide +kernel
theorem dX5_find_102 : decode cX5_find 102 = .ok (.iload 4, 2) := by decide +kernel
theorem dX5_find_104 : decode cX5_find 104 = .ok (.goto 10, 3) := by decide +kernel
theorem dX5_find_107 : decode cX5_find 107 = .ok (.aload_n 0, 1) := by decide +kernel
theorem dX5_find_108 : decode cX5_find 108 = .ok (.getfield 18, 3) := by decide +kernel
theorem dX5_find_111 : decode cX5_find 111 = .ok (.iload 5, 2) := by decide +kernel
theorem dX5_find_113 : decode cX5_find 113 = .ok (.iaload, 1) := by decide +kernel
theorem dX5_find_114 : decode cX5_find 114 = .ok (.ireturn, 1) := by decide +kernel
theorem dX6_init_0 : decode cX6_init 0 = .ok (.aload_n 0, 1) := by decide +kernel
theorem dX6_init_1 : decode cX6_init 1 = .ok (.invokespecial 3, 3) := by decide +kernel
theorem dX6_init_4 : decode cX6_init 4 = .ok (.aload_n 0, 1) := by decide +kernel
theorem dX6_init_5 : decode cX6_init 5 = .ok (.bipush 30, 2) := by decide +kernel
theorem dX6_init_7 : decode cX6_init 7 = .ok (.newarray .int, 2) := by decide +kernel
theorem dX6_init_9 : decode cX6_init 9 = .ok (.putfield 9, 3) := by decide +kernel
theorem dX6_init_12 : decode cX6_init 12 = .ok (.aload_n 0, 1) := by decide +kernel
theorem dX6_init_13 : decode cX6_init 13 = .ok (.bipush 30, 2) := by decide +kernel
theorem dX6_init_15 : decode cX6_init 15 = .ok (.newarray .int, 2) := by decide +kernel
theorem dX6_init_17 : decode cX6_init 17 = .ok (.putfield 15, 3) := by decide +kernel
theorem dX6_init_20 : decode cX6_init 20 = .ok (.aload_n 0, 1) := by decide +kernel
theorem dX6_init_21 : decode cX6_init 21 = .ok (.iconst 3, 1) := by decide +kernel
theorem dX6_init_22 : decode cX6_init 22 = .ok (.newarray .int, 2) := by decide +kernel
theorem dX6_init_24 : decode cX6_init 24 = .ok (.putfield 18, 3) := by decide +kernel
theorem dX6_init_27 : decode cX6_init 27 = .ok (.return_, 1) := by decide +kernel
theorem dX6_add_0 : decode cX6_add 0 = .ok (.iconst 1, 1) := by decide +kernel
theorem dX6_add_1 : decode cX6_add 1 = .ok (.aload_n 0, 1) := by decide +kernel
theorem dX6_add_2 : decode cX6_add 2 = .ok (.getfield 21, 3) := by decide +kernel
theorem dX6_add_5 : decode cX6_add 5 = .ok (.ishl, 1) := by decide +kernel
theorem dX6_add_6 : decode cX6_add 6 = .ok (.istore 5, 2) := by decide +kernel
theorem dX6_add_8 : decode cX6_add 8 = .ok (.aload_n 0, 1) := by decide +kernel
theorem dX6_add_9 : decode cX6_add 9 = .ok (.getfield 9, 3) := by decide +kernel
theorem dX6_add_12 : decode cX6_add 12 = .ok (.iload_n 1, 1) := by decide +kernel
theorem dX6_add_13 : decode cX6_add 13 = .ok (.dup2, 1) := by decide +kernel
theorem dX6_add_14 : decode cX6_add 14 = .ok (.iaload, 1) := by decide +kernel
theorem dX6_add_15 : decode cX6_add 15 = .ok (.iload 5, 2) := by decide +kernel
theorem dX6_add_17 : decode cX6_add 17 = .ok (.ior, 1) := by decide +kernel
theorem dX6_add_18 : decode cX6_add 18 = .ok (.iastore, 1) := by decide +kernel
theorem dX6_add_19 : decode cX6_add 19 = .ok (.aload_n 0, 1) := by decide +kernel
theorem dX6_add_20 : decode cX6_add 20 = .ok (.getfield 9, 3) := by decide +kernel
theorem dX6_add_23 : decode cX6_add 23 = .ok (.bipush 10, 2) := by decide +kernel
theorem dX6_add_25 : decode cX6_add 25 = .ok (.iload_n 2, 1) := by decide +kernel
theorem dX6_add_26 : decode cX6_add 26 = .ok (.iadd, 1) := by decide +kernel
theorem dX6_add_27 : decode cX6_add 27 = .ok (.dup2, 1) := by decide +kernel
theorem dX6_add_28 : decode cX6_add 28 = .ok (.iaload, 1) := by decide +kernel
theorem dX6_add_29 : decode cX6_add 29 = .ok (.iload 5, 2) := by decide +kernel
theorem dX6_add_31 : decode cX6_add 31 = .ok (.ior, 1) := by decide +kernel
theorem dX6_add_32 : decode cX6_add 32 = .ok (.iastore, 1) := by decide +kernel
theorem dX6_add_33 : decode cX6_add 33 = .ok (.aload_n 0, 1) := by decide +kernel
theorem dX6_add_34 : decode cX6_add 34 = .ok (.getfield 9, 3) := by decide +kernel
theorem dX6_add_37 : decode cX6_add 37 = .ok (.bipush 20, 2) := by decide +kernel
theorem dX6_add_39 : decode cX6_add 39 = .ok (.iload_n 3, 1) := by decide +kernel
theorem dX6_add_40 : decode cX6_add 40 = .ok (.iadd, 1) := by decide +kernel
theorem dX6_add_41 : decode cX6_add 41 = .ok (.dup2, 1) := by decide +kernel
theorem dX6_add_42 : decode cX6_add 42 = .ok (.iaload, 1) := by decide +kernel
theorem dX6_add_43 : decode cX6_add 43 = .ok (.iload 5, 2) := by decide +kernel
theorem dX6_add_45 : decode cX6_add 45 = .ok (.ior, 1) := by decide +kernel
theorem dX6_add_46 : decode cX6_add 46 = .ok (.iastore, 1) := by decide +kernel
theorem dX6_add_47 : decode cX6_add 47 = .ok (.iload 4, 2) := by decide +kernel
theorem dX6_add_49 : decode cX6_add 49 = .ok (.ifCond .eq 14, 3) := by decide +kernel
theorem dX6_add_52 : decode cX6_add 52 = .ok (.aload_n 0, 1) := by decide +kernel
theorem dX6_add_53 : decode cX6_add 53 = .ok (.dup, 1) := by decide +kernel
theorem dX6_add_54 : decode cX6_add 54 = .ok (.getfield 25, 3) := by decide +kernel
theorem dX6_add_57 : decode cX6_add 57 = .ok (.iload 5, 2) := by decide +kernel
theorem dX6_add_59 : decode cX6_add 59 = .ok (.ior, 1) := by decide +kernel
theorem dX6_add_60 : decode cX6_add 60 = .ok (.putfield 25, 3) := by decide +kernel
theorem dX6_add_63 : decode cX6_add 63 = .ok (.aload_n 0, 1) := by decide +kernel
theorem dX6_add_64 : decode cX6_add 64 = .ok (.dup, 1) := by decide +kernel
theorem dX6_add_65 : decode cX6_add 65 = .ok (.getfield 21, 3) := by decide +kernel
theorem dX6_add_68 : decode cX6_add 68 = .ok (.iconst 1, 1) := by decide +kernel
theorem dX6_add_69 : decode cX6_add 69 = .ok (.iadd, 1) := by decide +kernel
theorem dX6_add_70 : decode cX6_add 70 = .ok (.putfield 21, 3) := by decide +kernel
theorem dX6_add_73 : decode cX6_add 73 = .ok (.aload_n 0, 1) := by decide +kernel
theorem dX6_add_74 : decode cX6_add 74 = .ok (.getfield 21, 3) := by decide +kernel
theorem dX6_add_77 : decode cX6_add 77 = .ok (.ireturn, 1) := by decide +kernel
theorem dX6_clear_0 : decode cX6_clear 0 = .ok (.aload_n 0, 1) := by decide +kernel
theorem dX6_clear_1 : decode cX6_clear 1 = .ok (.getfield 21, 3) := by decide +kernel
theorem dX6_clear_4 : decode cX6_clear 4 = .ok (.istore_n 1, 1) := by decide +kernel
theorem dX6_clear_5 : decode cX6_clear 5 = .ok (.iconst 0, 1) := by decide +kernel
theorem dX6_clear_6 : decode cX6_clear 6 = .ok (.istore_n 2, 1) := by decide +kernel
theorem dX6_clear_7 : decode cX6_clear 7 = .ok (.iload_n 2, 1) := by decide +kernel
theorem dX6_clear_8 : decode cX6_clear 8 = .ok (.bipush 30, 2) := by decide +kernel
theorem dX6_clear_10 : decode cX6_clear 10 = .ok (.if_icmp .ge 16, 3) := by decide +kernel
theorem dX6_clear_13 : decode cX6_clear 13 = .ok (.aload_n 0, 1) := by decide +kernel
theorem dX6_clear_14 : decode cX6_clear 14 = .ok (.getfield 9, 3) := by decide +kernel
theorem dX6_clear_17 : decode cX6_clear 17 = .ok (.iload_n 2, 1) := by decide +kernel
theorem dX6_clear_18 : decode cX6_clear 18 = .ok (.iconst 0, 1) := by decide +kernel
theorem dX6_clear_19 : decode cX6_clear 19 = .ok (.iastore, 1) := by decide +kernel
theorem dX6_clear_20 : decode cX6_clear 20 = .ok (.iinc 2 1, 3) := by decide +kernel
theorem dX6_clear_23 : decode cX6_clear 23 = .ok (.goto (-16), 3) := by decide +kernel
theorem dX6_clear_26 : decode cX6_clear 26 = .ok (.aload_n 0, 1) := by decide +kernel
theorem dX6_clear_27 : decode cX6_clear 27 = .ok (.iconst 0, 1) := by decide +kernel
theorem dX6_clear_28 : decode cX6_clear 28 = .ok (.putfield 25, 3) := by decide +kernel
theorem dX6_clear_31 : decode cX6_clear 31 = .ok (.aload_n 0, 1) := by decide +kernel
theorem dX6_clear_32 : decode cX6_clear 32 = .ok (.iconst 0, 1) := by decide +kernel
theorem dX6_clear_33 : decode cX6_clear 33 = .ok (.putfield 21, 3) := by decide +kernel
theorem dX6_clear_36 : decode cX6_clear 36 = .ok (.iload_n 1, 1) := by decide +kernel
theorem dX6_clear_37 : decode cX6_clear 37 = .ok (.ireturn, 1) := by decide +kernel
theorem dX6_mayBe_0 : decode cX6_mayBe 0 = .ok (.aload_n 0, 1) := by decide +kernel
theorem dX6_mayBe_1 : decode cX6_mayBe 1 = .ok (.getfield 9, 3) := by decide +kernel
theorem dX6_mayBe_4 : decode cX6_mayBe 4 = .ok (.iload_n 1, 1) := by decide +kernel
theorem dX6_mayBe_5 : decode cX6_mayBe 5 = .ok (.iaload, 1) := by decide +kernel
theorem dX6_mayBe_6 : decode cX6_mayBe 6 = .ok (.aload_n 0, 1) := by decide +kernel
theorem dX6_mayBe_7 : decode cX6_mayBe 7 = .ok (.getfield 25, 3) := by decide +kernel
theorem dX6_mayBe_10 : decode cX6_mayBe 10 = .ok (.iconst (-1), 1) := by decide +kernel
theorem dX6_mayBe_11 : decode cX6_mayBe 11 = .ok (.ixor, 1) := by decide +kernel
theorem dX6_mayBe_12 : decode cX6_mayBe 12 = .ok (.iand, 1) := by decide +kernel
theorem dX6_mayBe_13 : decode cX6_mayBe 13 = .ok (.ifCond .ne 20, 3) := by decide +kernel
theorem dX6_mayBe_16 : decode cX6_mayBe 16 = .ok (.aload_n 0, 1) := by decide +kernel
theorem dX6_mayBe_17 : decode cX6_mayBe 17 = .ok (.getfield 9, 3) := by decide +kernel
theorem dX6_mayBe_20 : decode cX6_mayBe 20 = .ok (.iload_n 1, 1) := by decide +kernel
theorem dX6_mayBe_21 : decode cX6_mayBe 21 = .ok (.iaload, 1) := by decide +kernel
theorem dX6_mayBe_22 : decode cX6_mayBe 22 = .ok (.invokestatic 28, 3) := by decide +kernel
theorem dX6_mayBe_25 : decode cX6_mayBe 25 = .ok (.iconst 2, 1) := by decide +kernel
theorem dX6_mayBe_26 : decode cX6_mayBe 26 = .ok (.if_icmp .lt 7, 3) := by decide +kernel
theorem dX6_mayBe_29 : decode cX6_mayBe 29 = .ok (.iconst 1, 1) := by decide +kernel
theorem dX6_mayBe_30 : decode cX6_mayBe 30 = .ok (.goto 4, 3) := by decide +kernel
theorem dX6_mayBe_33 : decode cX6_mayBe 33 = .ok (.iconst 0, 1) := by decide +kernel
theorem dX6_mayBe_34 : decode cX6_mayBe 34 = .ok (.ireturn, 1) := by decide +kernel
theorem dX6_fewest_0 : decode cX6_fewest 0 = .ok (.iconst 0, 1) := by decide +kernel
theorem dX6_fewest_1 : decode cX6_fewest 1 = .ok (.istore_n 1, 1) := by decide +kernel
theorem dX6_fewest_2 : decode cX6_fewest 2 = .ok (.iload_n 1, 1) := by decide +kernel
theorem dX6_fewest_3 : decode cX6_fewest 3 = .ok (.iconst 3, 1) := by decide +kernel
theorem dX6_fewest_4 : decode cX6_fewest 4 = .ok (.if_icmp .gt 20, 3) := by decide +kernel
theorem dX6_fewest_7 : decode cX6_fewest 7 = .ok (.aload_n 0, 1) := by decide +kernel
theorem dX6_fewest_8 : decode cX6_fewest 8 = .ok (.iload_n 1, 1) := by decide +kernel
theorem dX6_fewest_9 : decode cX6_fewest 9 = .ok (.iconst 0, 1) := by decide +kernel
theorem dX6_fewest_10 : decode cX6_fewest 10 = .ok (.invokevirtual 34, 3) := by decide +kernel
theorem dX6_fewest_13 : decode cX6_fewest 13 = .ok (.ifCond .le 5, 3) := by decide +kernel
theorem dX6_fewest_16 : decode cX6_fewest 16 = .ok (.iload_n 1, 1) := by decide +kernel
theorem dX6_fewest_17 : decode cX6_fewest 17 = .ok (.ireturn, 1) := by decide +kernel
theorem dX6_fewest_18 : decode cX6_fewest 18 = .ok (.iinc 1 1, 3) := by decide +kernel
theorem dX6_fewest_21 : decode cX6_fewest 21 = .ok (.goto (-19), 3) := by decide +kernel
theorem dX6_fewest_24 : decode cX6_fewest 24 = .ok (.bipush (-6), 2) := by decide +kernel
theorem dX6_fewest_26 : decode cX6_fewest 26 = .ok (.ireturn, 1) := by decide +kernel
theorem dX6_explaining_0 : decode cX6_explaining 0 = .ok (.aload_n 0, 1) := by decide +kernel
theorem dX6_explaining_1 : decode cX6_explaining 1 = .ok (.invokevirtual 38, 3) := by decide +kernel
theorem dX6_explaining_4 : decode cX6_explaining 4 = .ok (.iload_n 1, 1) := by decide +kernel
theorem dX6_explaining_5 : decode cX6_explaining 5 = .ok (.aload_n 0, 1) := by decide +kernel
theorem dX6_explaining_6 : decode cX6_explaining 6 = .ok (.getfield 41, 3) := by decide +kernel
theorem dX6_explaining_9 : decode cX6_explaining 9 = .ok (.if_icmp .gt 7, 3) := by decide +kernel
theorem dX6_explaining_12 : decode cX6_explaining 12 = .ok (.iconst 1, 1) := by decide +kernel
theorem dX6_explaining_13 : decode cX6_explaining 13 = .ok (.goto 4, 3) := by decide +kernel
theorem dX6_explaining_16 : decode cX6_explaining 16 = .ok (.iconst 0, 1) := by decide +kernel
theorem dX6_explaining_17 : decode cX6_explaining 17 = .ok (.istore_n 3, 1) := by decide +kernel
theorem dX6_explaining_18 : decode cX6_explaining 18 = .ok (.iconst 0, 1) := by decide +kernel
theorem dX6_explaining_19 : decode cX6_explaining 19 = .ok (.istore 4, 2) := by decide +kernel
theorem dX6_explaining_21 : decode cX6_explaining 21 = .ok (.iload 4, 2) := by decide +kernel
theorem dX6_explaining_23 : decode cX6_explaining 23 = .ok (.iload_n 1, 1) := by decide +kernel
theorem dX6_explaining_24 : decode cX6_explaining 24 = .ok (.if_icmp .ge 18, 3) := by decide +kernel
theorem dX6_explaining_27 : decode cX6_explaining 27 = .ok (.aload_n 0, 1) := by decide +kernel
theorem dX6_explaining_28 : decode cX6_explaining 28 = .ok (.getfield 18, 3) := by decide +kernel
theorem dX6_explaining_31 : decode cX6_explaining 31 = .ok (.iload 4, 2) := by decide +kernel
theorem dX6_explaining_33 : decode cX6_explaining 33 = .ok (.iload 4, 2) := by decide +kernel
theorem dX6_explaining_35 : decode cX6_explaining 35 = .ok (.iastore, 1) := by decide +kernel
theorem dX6_explaining_36 : decode cX6_explaining 36 = .ok (.iinc 4 1, 3) := by decide +kernel
theorem dX6_explaining_39 : decode cX6_explaining 39 = .ok (.goto (-18), 3) := by decide +kernel
theorem dX6_explaining_42 : decode cX6_explaining 42 = .ok (.iconst 0, 1) := by decide +kernel
theorem dX6_explaining_43 : decode cX6_explaining 43 = .ok (.istore 4, 2) := by decide +kernel
theorem dX6_explaining_45 : decode cX6_explaining 45 = .ok (.iconst 0, 1) := by decide +kernel
theorem dX6_explaining_46 : decode cX6_explaining 46 = .ok (.istore 5, 2) := by decide +kernel
theorem dX6_explaining_48 : decode cX6_explaining 48 = .ok (.iload_n 3, 1) := by decide +kernel
theorem dX6_explaining_49 : decode cX6_explaining 49 = .ok (.ifCond .eq 45, 3) := by decide +kernel
theorem dX6_explaining_52 : decode cX6_explaining 52 = .ok (.iload 5, 2) := by decide +kernel
theorem dX6_explaining_54 : decode cX6_explaining 54 = .ok (.sipush 5000, 3) := by decide +kernel
theorem dX6_explaining_57 : decode cX6_explaining 57 = .ok (.if_icmp .ge 37, 3) := by decide +kernel
theorem dX6_explaining_60 : decode cX6_explaining 60 = .ok (.aload_n 0, 1) := by decide +kernel
theorem dX6_explaining_61 : decode cX6_explaining 61 = .ok (.iload_n 1, 1) := by decide +kernel
theorem dX6_explaining_62 : decode cX6_explaining 62 = .ok (.invokevirtual 44, 3) := by decide +kernel
theorem dX6_explaining_65 : decode cX6_explaining 65 = .ok (.ifCond .eq 17, 3) := by decide +kernel
theorem dX6_explaining_68 : decode cX6_explaining 68 = .ok (.iinc 4 1, 3) := by decide +kernel
theorem dX6_explaining_71 : decode cX6_explaining 71 = .ok (.iload 4, 2) := by decide +kernel
theorem dX6_explaining_73 : decode cX6_explaining 73 = .ok (.iconst 1, 1) := by decide +kernel
theorem dX6_explaining_74 : decode cX6_explaining 74 = .ok (.isub, 1) := by decide +kernel
theorem dX6_explaining_75 : decode cX6_explaining 75 = .ok (.iload_n 2, 1) := by decide +kernel
theorem dX6_explaining_76 : decode cX6_explaining 76 = .ok (.if_icmp .ne 6, 3) := by decide +kernel
theorem dX6_explaining_79 : decode cX6_explaining 79 = .ok (.iload 4, 2) := by decide +kernel
theorem dX6_explaining_81 : decode cX6_explaining 81 = .ok (.ireturn, 1) := by decide +kernel
theorem dX6_explaining_82 : decode cX6_explaining 82 = .ok (.aload_n 0, 1) := by decide +kernel
theorem dX6_explaining_83 : decode cX6_explaining 83 = .ok (.iload_n 1, 1) := by decide +kernel
theorem dX6_explaining_84 : decode cX6_explaining 84 = .ok (.invokevirtual 48, 3) := by decide +kernel
theorem dX6_explaining_87 : decode cX6_explaining 87 = .ok (.istore_n 3, 1) := by decide +kernel
theorem dX6_explaining_88 : decode cX6_explaining 88 = .ok (.iinc 5 1, 3) := by decide +kernel
theorem dX6_explaining_91 : decode cX6_explaining 91 = .ok (.goto (-43), 3) := by decide +kernel
theorem dX6_explaining_94 : decode cX6_explaining 94 = .ok (.iload 4, 2) := by decide +kernel
theorem dX6_explaining_96 : decode cX6_explaining 96 = .ok (.ireturn, 1) := by decide +kernel
theorem dX6_chosenCause_0 : decode cX6_chosenCause 0 = .ok (.aload_n 0, 1) := by decide +kernel
theorem dX6_chosenCause_1 : decode cX6_chosenCause 1 = .ok (.getfield 15, 3) := by decide +kernel
theorem dX6_chosenCause_4 : decode cX6_chosenCause 4 = .ok (.aload_n 0, 1) := by decide +kernel
theorem dX6_chosenCause_5 : decode cX6_chosenCause 5 = .ok (.getfield 18, 3) := by decide +kernel
theorem dX6_chosenCause_8 : decode cX6_chosenCause 8 = .ok (.iload_n 1, 1) := by decide +kernel
theorem dX6_chosenCause_9 : decode cX6_chosenCause 9 = .ok (.iaload, 1) := by decide +kernel
theorem dX6_chosenCause_10 : decode cX6_chosenCause 10 = .ok (.iaload, 1) := by decide +kernel
theorem dX6_chosenCause_11 : decode cX6_chosenCause 11 = .ok (.ireturn, 1) := by decide +kernel
theorem dX6_listAble_0 : decode cX6_listAble 0 = .ok (.aload_n 0, 1) := by decide +kernel
theorem dX6_listAble_1 : decode cX6_listAble 1 = .ok (.iconst 0, 1) := by decide +kernel
theorem dX6_listAble_2 : decode cX6_listAble 2 = .ok (.putfield 41, 3) := by decide +kernel
theorem dX6_listAble_5 : decode cX6_listAble 5 = .ok (.iconst 0, 1) := by decide +kernel
theorem dX6_listAble_6 : decode cX6_listAble 6 = .ok (.istore_n 1, 1) := by decide +kernel
theorem dX6_listAble_7 : decode cX6_listAble 7 = .ok (.iload_n 1, 1) := by decide +kernel
theorem dX6_listAble_8 : decode cX6_listAble 8 = .ok (.bipush 30, 2) := by decide +kernel
theorem dX6_listAble_10 : decode cX6_listAble 10 = .ok (.if_icmp .ge 37, 3) := by decide +kernel
theorem dX6_listAble_13 : decode cX6_listAble 13 = .ok (.aload_n 0, 1) := by decide +kernel
theorem dX6_listAble_14 : decode cX6_listAble 14 = .ok (.iload_n 1, 1) := by decide +kernel
theorem dX6_listAble_15 : decode cX6_listAble 15 = .ok (.invokevirtual 51, 3) := by decide +kernel
theorem dX6_listAble_18 : decode cX6_listAble 18 = .ok (.ifCond .eq 23, 3) := by decide +kernel
theorem dX6_listAble_21 : decode cX6_listAble 21 = .ok (.aload_n 0, 1) := by decide +kernel
theorem dX6_listAble_22 : decode cX6_listAble 22 = .ok (.getfield 15, 3) := by decide +kernel
theorem dX6_listAble_25 : decode cX6_listAble 25 = .ok (.aload_n 0, 1) := by decide +kernel
theorem dX6_listAble_26 : decode cX6_listAble 26 = .ok (.getfield 41, 3) := by decide +kernel
theorem dX6_listAble_29 : decode cX6_listAble 29 = .ok (.iload_n 1, 1) := by decide +kernel
theorem dX6_listAble_30 : decode cX6_listAble 30 = .ok (.iastore, 1) := by decide +kernel
theorem dX6_listAble_31 : decode cX6_listAble 31 = .ok (.aload_n 0, 1) := by decide +kernel
theorem dX6_listAble_32 : decode cX6_listAble 32 = .ok (.dup, 1) := by decide +kernel
theorem dX6_listAble_33 : decode cX6_listAble 33 = .ok (.getfield 41, 3) := by decide +kernel
theorem dX6_listAble_36 : decode cX6_listAble 36 = .ok (.iconst 1, 1) := by decide +kernel
theorem dX6_listAble_37 : decode cX6_listAble 37 = .ok (.iadd, 1) := by decide +kernel
theorem dX6_listAble_38 : decode cX6_listAble 38 = .ok (.putfield 41, 3) := by decide +kernel
theorem dX6_listAble_41 : decode cX6_listAble 41 = .ok (.iinc 1 1, 3) := by decide +kernel
theorem dX6_listAble_44 : decode cX6_listAble 44 = .ok (.goto (-37), 3) := by decide +kernel
theorem dX6_listAble_47 : decode cX6_listAble 47 = .ok (.return_, 1) := by decide +kernel
theorem dX6_explainsAll_0 : decode cX6_explainsAll 0 = .ok (.aload_n 0, 1) := by decide +kernel
theorem dX6_explainsAll_1 : decode cX6_explainsAll 1 = .ok (.getfield 25, 3) := by decide +kernel
theorem dX6_explainsAll_4 : decode cX6_explainsAll 4 = .ok (.istore_n 2, 1) := by decide +kernel
theorem dX6_explainsAll_5 : decode cX6_explainsAll 5 = .ok (.iconst 0, 1) := by decide +kernel
theorem dX6_explainsAll_6 : decode cX6_explainsAll 6 = .ok (.istore_n 3, 1) := by decide +kernel
theorem dX6_explainsAll_7 : decode cX6_explainsAll 7 = .ok (.iload_n 3, 1) := by decide +kernel
theorem dX6_explainsAll_8 : decode cX6_explainsAll 8 = .ok (.iload_n 1, 1) := by decide +kernel
theorem dX6_explainsAll_9 : decode cX6_explainsAll 9 = .ok (.if_icmp .ge 30, 3) := by decide +kernel
theorem dX6_explainsAll_12 : decode cX6_explainsAll 12 = .ok (.iload_n 2, 1) := by decide +kernel
theorem dX6_explainsAll_13 : decode cX6_explainsAll 13 = .ok (.aload_n 0, 1) := by decide +kernel
theorem dX6_explainsAll_14 : decode cX6_explainsAll 14 = .ok (.getfield 9, 3) := by decide +kernel
theorem dX6_explainsAll_17 : decode cX6_explainsAll 17 = .ok (.aload_n 0, 1) := by decide +kernel
theorem dX6_explainsAll_18 : decode cX6_explainsAll 18 = .ok (.getfield 15, 3) := by decide +kernel
theorem dX6_explainsAll_21 : decode cX6_explainsAll 21 = .ok (.aload_n 0, 1) := by decide +kernel
theorem dX6_explainsAll_22 : decode cX6_explainsAll 22 = .ok (.getfield 18, 3) := by decide +kernel
theorem dX6_explainsAll_25 : decode cX6_explainsAll 25 = .ok (.iload_n 3, 1) := by decide +kernel
theorem dX6_explainsAll_26 : decode cX6_explainsAll 26 = .ok (.iaload, 1) := by decide +kernel
theorem dX6_explainsAll_27 : decode cX6_explainsAll 27 = .ok (.iaload, 1) := by decide +kernel
theorem dX6_explainsAll_28 : decode cX6_explainsAll 28 = .ok (.iaload, 1) := by decide +kernel
theorem dX6_explainsAll_29 : decode cX6_explainsAll 29 = .ok (.iconst (-1), 1) := by decide +kernel
theorem dX6_explainsAll_30 : decode cX6_explainsAll 30 = .ok (.ixor, 1) := by decide +kernel
theorem dX6_explainsAll_31 : decode cX6_explainsAll 31 = .ok (.iand, 1) := by decide +kernel
theorem dX6_explainsAll_32 : decode cX6_explainsAll 32 = .ok (.istore_n 2, 1) := by decide +kernel
theorem dX6_explainsAll_33 : decode cX6_explainsAll 33 = .ok (.iinc 3 1, 3) := by decide +kernel
theorem dX6_explainsAll_36 : decode cX6_explainsAll 36 = .ok (.goto (-29), 3) := by decide +kernel
theorem dX6_explainsAll_39 : decode cX6_explainsAll 39 = .ok (.iload_n 2, 1) := by decide +kernel
theorem dX6_explainsAll_40 : decode cX6_explainsAll 40 = .ok (.ifCond .ne 7, 3) := by decide +kernel
theorem dX6_explainsAll_43 : decode cX6_explainsAll 43 = .ok (.iconst 1, 1) := by decide +kernel
theorem dX6_explainsAll_44 : decode cX6_explainsAll 44 = .ok (.goto 4, 3) := by decide +kernel
theorem dX6_explainsAll_47 : decode cX6_explainsAll 47 = .ok (.iconst 0, 1) := by decide +kernel
theorem dX6_explainsAll_48 : decode cX6_explainsAll 48 = .ok (.ireturn, 1) := by decide +kernel
theorem dX6_advance_0 : decode cX6_advance 0 = .ok (.iload_n 1, 1) := by decide +kernel
theorem dX6_advance_1 : decode cX6_advance 1 = .ok (.iconst 1, 1) := by decide +kernel
theorem dX6_advance_2 : decode cX6_advance 2 = .ok (.isub, 1) := by decide +kernel
theorem dX6_advance_3 : decode cX6_advance 3 = .ok (.istore_n 2, 1) := by decide +kernel
theorem dX6_advance_4 : decode cX6_advance 4 = .ok (.iload_n 2, 1) := by decide +kernel
theorem dX6_advance_5 : decode cX6_advance 5 = .ok (.ifCond .lt 69, 3) := by decide +kernel
theorem dX6_advance_8 : decode cX6_advance 8 = .ok (.aload_n 0, 1) := by decide +kernel
theorem dX6_advance_9 : decode cX6_advance 9 = .ok (.getfield 18, 3) := by decide +kernel
theorem dX6_advance_12 : decode cX6_advance 12 = .ok (.iload_n 2, 1) := by decide +kernel
theorem dX6_advance_13 : decode cX6_advance 13 = .ok (.iaload, 1) := by decide +kernel
theorem dX6_advance_14 : decode cX6_advance 14 = .ok (.aload_n 0, 1) := by decide +kernel
theorem dX6_advance_15 : decode cX6_advance 15 = .ok (.getfield 41, 3) := by decide +kernel
theorem dX6_advance_18 : decode cX6_advance 18 = .ok (.iload_n 1, 1) := by decide +kernel
theorem dX6_advance_19 : decode cX6_advance 19 = .ok (.isub, 1) := by decide +kernel
theorem dX6_advance_20 : decode cX6_advance 20 = .ok (.iload_n 2, 1) := by decide +kernel
theorem dX6_advance_21 : decode cX6_advance 21 = .ok (.iadd, 1) := by decide +kernel
theorem dX6_advance_22 : decode cX6_advance 22 = .ok (.if_icmp .ge 46, 3) := by decide +kernel
theorem dX6_advance_25 : decode cX6_advance 25 = .ok (.aload_n 0, 1) := by decide +kernel
theorem dX6_advance_26 : decode cX6_advance 26 = .ok (.getfield 18, 3) := by decide +kernel
theorem dX6_advance_29 : decode cX6_advance 29 = .ok (.iload_n 2, 1) := by decide +kernel
theorem dX6_advance_30 : decode cX6_advance 30 = .ok (.dup2, 1) := by decide +kernel
theorem dX6_advance_31 : decode cX6_advance 31 = .ok (.iaload, 1) := by decide +kernel
theorem dX6_advance_32 : decode cX6_advance 32 = .ok (.iconst 1, 1) := by decide +kernel
theorem dX6_advance_33 : decode cX6_advance 33 = .ok (.iadd, 1) := by decide +kernel
theorem dX6_advance_34 : decode cX6_advance 34 = .ok (.iastore, 1) := by decide +kernel
theorem dX6_advance_35 : decode cX6_advance 35 = .ok (.iload_n 2, 1) := by decide +kernel
theorem dX6_advance_36 : decode cX6_advance 36 = .ok (.iconst 1, 1) := by decide +kernel
theorem dX6_advance_37 : decode cX6_advance 37 = .ok (.iadd, 1) := by decide +kernel
theorem dX6_advance_38 : decode cX6_advance 38 = .ok (.istore_n 3, 1) := by decide +kernel
theorem dX6_advance_39 : decode cX6_advance 39 = .ok (.iload_n 3, 1) := by decide +kernel
theorem dX6_advance_40 : decode cX6_advance 40 = .ok (.iload_n 1, 1) := by decide +kernel
theorem dX6_advance_41 : decode cX6_advance 41 = .ok (.if_icmp .ge 25, 3) := by decide +kernel
theorem dX6_advance_44 : decode cX6_advance 44 = .ok (.aload_n 0, 1) := by decide +kernel
theorem dX6_advance_45 : decode cX6_advance 45 = .ok (.getfield 18, 3) := by decide +kernel
theorem dX6_advance_48 : decode cX6_advance 48 = .ok (.iload_n 3, 1) := by decide +kernel
theorem dX6_advance_49 : decode cX6_advance 49 = .ok (.aload_n 0, 1) := by decide +kernel
theorem dX6_advance_50 : decode cX6_advance 50 = .ok (.getfield 18, 3) := by decide +kernel
theorem dX6_advance_53 : decode cX6_advance 53 = .ok (.iload_n 3, 1) := by decide +kernel
theorem dX6_advance_54 : decode cX6_advance 54 = .ok (.iconst 1, 1) := by decide +kernel
theorem dX6_advance_55 : decode cX6_advance 55 = .ok (.isub, 1) := by decide +kernel
theorem dX6_advance_56 : decode cX6_advance 56 = .ok (.iaload, 1) := by decide +kernel
theorem dX6_advance_57 : decode cX6_advance 57 = .ok (.iconst 1, 1) := by decide +kernel
theorem dX6_advance_58 : decode cX6_advance 58 = .ok (.iadd, 1) := by decide +kernel
theorem dX6_advance_59 : decode cX6_advance 59 = .ok (.iastore, 1) := by decide +kernel
theorem dX6_advance_60 : decode cX6_advance 60 = .ok (.iinc 3 1, 3) := by decide +kernel
theorem dX6_advance_63 : decode cX6_advance 63 = .ok (.goto (-24), 3) := by decide +kernel
theorem dX6_advance_66 : decode cX6_advance 66 = .ok (.iconst 1, 1) := by decide +kernel
theorem dX6_advance_67 : decode cX6_advance 67 = .ok (.ireturn, 1) := by decide +kernel
theorem dX6_advance_68 : decode cX6_advance 68 = .ok (.iinc 2 (-1), 3) := by decide +kernel
theorem dX6_advance_71 : decode cX6_advance 71 = .ok (.goto (-67), 3) := by decide +kernel
theorem dX6_advance_74 : decode cX6_advance 74 = .ok (.iconst 0, 1) := by decide +kernel
theorem dX6_advance_75 : decode cX6_advance 75 = .ok (.ireturn, 1) := by decide +kernel
theorem dX7_init_0 : decode cX7_init 0 = .ok (.aload_n 0, 1) := by decide +kernel
theorem dX7_init_1 : decode cX7_init 1 = .ok (.invokespecial 3, 3) := by decide +kernel
theorem dX7_init_4 : decode cX7_init 4 = .ok (.aload_n 0, 1) := by decide +kernel
theorem dX7_init_5 : decode cX7_init 5 = .ok (.bipush 30, 2) := by decide +kernel
theorem dX7_init_7 : decode cX7_init 7 = .ok (.newarray .int, 2) := by decide +kernel
theorem dX7_init_9 : decode cX7_init 9 = .ok (.putfield 9, 3) := by decide +kernel
theorem dX7_init_12 : decode cX7_init 12 = .ok (.aload_n 0, 1) := by decide +kernel
theorem dX7_init_13 : decode cX7_init 13 = .ok (.bipush 30, 2) := by decide +kernel
theorem dX7_init_15 : decode cX7_init 15 = .ok (.newarray .int, 2) := by decide +kernel
theorem dX7_init_17 : decode cX7_init 17 = .ok (.putfield 15, 3) := by decide +kernel
theorem dX7_init_20 : decode cX7_init 20 = .ok (.aload_n 0, 1) := by decide +kernel
theorem dX7_init_21 : decode cX7_init 21 = .ok (.bipush 30, 2) := by decide +kernel
theorem dX7_init_23 : decode cX7_init 23 = .ok (.newarray .int, 2) := by decide +kernel
theorem dX7_init_25 : decode cX7_init 25 = .ok (.putfield 18, 3) := by decide +kernel
theorem dX7_init_28 : decode cX7_init 28 = .ok (.aload_n 0, 1) := by decide +kernel
theorem dX7_init_29 : decode cX7_init 29 = .ok (.bipush 30, 2) := by decide +kernel
theorem dX7_init_31 : decode cX7_init 31 = .ok (.newarray .int, 2) := by decide +kernel
theorem dX7_init_33 : decode cX7_init 33 = .ok (.putfield 21, 3) := by decide +kernel
theorem dX7_init_36 : decode cX7_init 36 = .ok (.aload_n 0, 1) := by decide +kernel
theorem dX7_init_37 : decode cX7_init 37 = .ok (.bipush 30, 2) := by decide +kernel
theorem dX7_init_39 : decode cX7_init 39 = .ok (.newarray .int, 2) := by decide +kernel
theorem dX7_init_41 : decode cX7_init 41 = .ok (.putfield 24, 3) := by decide +kernel
theorem dX7_init_44 : decode cX7_init 44 = .ok (.aload_n 0, 1) := by decide +kernel
theorem dX7_init_45 : decode cX7_init 45 = .ok (.bipush 30, 2) := by decide +kernel
theorem dX7_init_47 : decode cX7_init 47 = .ok (.newarray .int, 2) := by decide +kernel
theorem dX7_init_49 : decode cX7_init 49 = .ok (.putfield 27, 3) := by decide +kernel
theorem dX7_init_52 : decode cX7_init 52 = .ok (.aload_n 0, 1) := by decide +kernel
theorem dX7_init_53 : decode cX7_init 53 = .ok (.bipush 30, 2) := by decide +kernel
theorem dX7_init_55 : decode cX7_init 55 = .ok (.newarray .int, 2) := by decide +kernel
theorem dX7_init_57 : decode cX7_init 57 = .ok (.putfield 30, 3) := by decide +kernel
theorem dX7_init_60 : decode cX7_init 60 = .ok (.aload_n 0, 1) := by decide +kernel
theorem dX7_init_61 : decode cX7_init 61 = .ok (.bipush 30, 2) := by decide +kernel
theorem dX7_init_63 : decode cX7_init 63 = .ok (.newarray .int, 2) := by decide +kernel
theorem dX7_init_65 : decode cX7_init 65 = .ok (.putfield 33, 3) := by decide +kernel
theorem dX7_init_68 : decode cX7_init 68 = .ok (.aload_n 0, 1) := by decide +kernel
theorem dX7_init_69 : decode cX7_init 69 = .ok (.bipush 30, 2) := by decide +kernel
theorem dX7_init_71 : decode cX7_init 71 = .ok (.newarray .int, 2) := by decide +kernel
theorem dX7_init_73 : decode cX7_init 73 = .ok (.putfield 36, 3) := by decide +kernel
theorem dX7_init_76 : decode cX7_init 76 = .ok (.aload_n 0, 1) := by decide +kernel
theorem dX7_init_77 : decode cX7_init 77 = .ok (.iconst 4, 1) := by decide +kernel
theorem dX7_init_78 : decode cX7_init 78 = .ok (.newarray .int, 2) := by decide +kernel
theorem dX7_init_80 : decode cX7_init 80 = .ok (.dup, 1) := by decide +kernel
theorem dX7_init_81 : decode cX7_init 81 = .ok (.iconst 0, 1) := by decide +kernel
theorem dX7_init_82 : decode cX7_init 82 = .ok (.iconst 1, 1) := by decide +kernel
theorem dX7_init_83 : decode cX7_init 83 = .ok (.iastore, 1) := by decide +kernel
theorem dX7_init_84 : decode cX7_init 84 = .ok (.dup, 1) := by decide +kernel
theorem dX7_init_85 : decode cX7_init 85 = .ok (.iconst 1, 1) := by decide +kernel
theorem dX7_init_86 : decode cX7_init 86 = .ok (.iconst 1, 1) := by decide +kernel
theorem dX7_init_87 : decode cX7_init 87 = .ok (.iastore, 1) := by decide +kernel
theorem dX7_init_88 : decode cX7_init 88 = .ok (.dup, 1) := by decide +kernel
theorem dX7_init_89 : decode cX7_init 89 = .ok (.iconst 2, 1) := by decide +kernel
theorem dX7_init_90 : decode cX7_init 90 = .ok (.iconst 1, 1) := by decide +kernel
theorem dX7_init_91 : decode cX7_init 91 = .ok (.iastore, 1) := by decide +kernel
theorem dX7_init_92 : decode cX7_init 92 = .ok (.dup, 1) := by decide +kernel
theorem dX7_init_93 : decode cX7_init 93 = .ok (.iconst 3, 1) := by decide +kernel
theorem dX7_init_94 : decode cX7_init 94 = .ok (.iconst 1, 1) := by decide +kernel
theorem dX7_init_95 : decode cX7_init 95 = .ok (.iastore, 1) := by decide +kernel
theorem dX7_init_96 : decode cX7_init 96 = .ok (.putfield 39, 3) := by decide +kernel
theorem dX7_init_99 : decode cX7_init 99 = .ok (.aload_n 0, 1) := by decide +kernel
theorem dX7_init_100 : decode cX7_init 100 = .ok (.iconst 4, 1) := by decide +kernel
theorem dX7_init_101 : decode cX7_init 101 = .ok (.newarray .int, 2) := by decide +kernel
theorem dX7_init_103 : decode cX7_init 103 = .ok (.dup, 1) := by decide +kernel
theorem dX7_init_104 : decode cX7_init 104 = .ok (.iconst 0, 1) := by decide +kernel
theorem dX7_init_105 : decode cX7_init 105 = .ok (.sipush 500, 3) := by decide +kernel
theorem dX7_init_108 : decode cX7_init 108 = .ok (.iastore, 1) := by decide +kernel
theorem dX7_init_109 : decode cX7_init 109 = .ok (.dup, 1) := by decide +kernel
theorem dX7_init_110 : decode cX7_init 110 = .ok (.iconst 1, 1) := by decide +kernel
theorem dX7_init_111 : decode cX7_init 111 = .ok (.sipush 500, 3) := by decide +kernel
theorem dX7_init_114 : decode cX7_init 114 = .ok (.iastore, 1) := by decide +kernel
theorem dX7_init_115 : decode cX7_init 115 = .ok (.dup, 1) := by decide +kernel
theorem dX7_init_116 : decode cX7_init 116 = .ok (.iconst 2, 1) := by decide +kernel
theorem dX7_init_117 : decode cX7_init 117 = .ok (.sipush 500, 3) := by decide +kernel
theorem dX7_init_120 : decode cX7_init 120 = .ok (.iastore, 1) := by decide +kernel
theorem dX7_init_121 : decode cX7_init 121 = .ok (.dup, 1) := by decide +kernel
theorem dX7_init_122 : decode cX7_init 122 = .ok (.iconst 3, 1) := by decide +kernel
theorem dX7_init_123 : decode cX7_init 123 = .ok (.sipush 500, 3) := by decide +kernel
theorem dX7_init_126 : decode cX7_init 126 = .ok (.iastore, 1) := by decide +kernel
theorem dX7_init_127 : decode cX7_init 127 = .ok (.putfield 42, 3) := by decide +kernel
theorem dX7_init_130 : decode cX7_init 130 = .ok (.aload_n 0, 1) := by decide +kernel
theorem dX7_init_131 : decode cX7_init 131 = .ok (.iconst 4, 1) := by decide +kernel
theorem dX7_init_132 : decode cX7_init 132 = .ok (.newarray .int, 2) := by decide +kernel
theorem dX7_init_134 : decode cX7_init 134 = .ok (.putfield 45, 3) := by decide +kernel
theorem dX7_init_137 : decode cX7_init 137 = .ok (.aload_n 0, 1) := by decide +kernel
theorem dX7_init_138 : decode cX7_init 138 = .ok (.iconst 4, 1) := by decide +kernel
theorem dX7_init_139 : decode cX7_init 139 = .ok (.newarray .int, 2) := by decide +kernel
theorem dX7_init_141 : decode cX7_init 141 = .ok (.putfield 48, 3) := by decide +kernel
theorem dX7_init_144 : decode cX7_init 144 = .ok (.return_, 1) := by decide +kernel
theorem dX7_add_0 : decode cX7_add 0 = .ok (.aload_n 0, 1) := by decide +kernel
theorem dX7_add_1 : decode cX7_add 1 = .ok (.getfield 51, 3) := by decide +kernel
theorem dX7_add_4 : decode cX7_add 4 = .ok (.istore 6, 2) := by decide +kernel
theorem dX7_add_6 : decode cX7_add 6 = .ok (.aload_n 0, 1) := by decide +kernel
theorem dX7_add_7 : decode cX7_add 7 = .ok (.getfield 9, 3) := by decide +kernel
theorem dX7_add_10 : decode cX7_add 10 = .ok (.iload 6, 2) := by decide +kernel
theorem dX7_add_12 : decode cX7_add 12 = .ok (.iload_n 1, 1) := by decide +kernel
theorem dX7_add_13 : decode cX7_add 13 = .ok (.iastore, 1) := by decide +kernel
theorem dX7_add_14 : decode cX7_add 14 = .ok (.aload_n 0, 1) := by decide +kernel
theorem dX7_add_15 : decode cX7_add 15 = .ok (.getfield 15, 3) := by decide +kernel
theorem dX7_add_18 : decode cX7_add 18 = .ok (.iload 6, 2) := by decide +kernel
theorem dX7_add_20 : decode cX7_add 20 = .ok (.iload_n 2, 1) := by decide +kernel
theorem dX7_add_21 : decode cX7_add 21 = .ok (.iastore, 1) := by decide +kernel
theorem dX7_add_22 : decode cX7_add 22 = .ok (.aload_n 0, 1) := by decide +kernel
theorem dX7_add_23 : decode cX7_add 23 = .ok (.getfield 18, 3) := by decide +kernel
theorem dX7_add_26 : decode cX7_add 26 = .ok (.iload 6, 2) := by decide +kernel
theorem dX7_add_28 : decode cX7_add 28 = .ok (.iload_n 3, 1) := by decide +kernel
theorem dX7_add_29 : decode cX7_add 29 = .ok (.iastore, 1) := by decide +kernel
theorem dX7_add_30 : decode cX7_add 30 = .ok (.aload_n 0, 1) := by decide +kernel
theorem dX7_add_31 : decode cX7_add 31 = .ok (.getfield 21, 3) := by decide +kernel
theorem dX7_add_34 : decode cX7_add 34 = .ok (.iload 6, 2) := by decide +kernel
theorem dX7_add_36 : decode cX7_add 36 = .ok (.iload 4, 2) := by decide +kernel
theorem dX7_add_38 : decode cX7_add 38 = .ok (.iastore, 1) := by decide +kernel
theorem dX7_add_39 : decode cX7_add 39 = .ok (.aload_n 0, 1) := by decide +kernel
theorem dX7_add_40 : decode cX7_add 40 = .ok (.getfield 24, 3) := by decide +kernel
theorem dX7_add_43 : decode cX7_add 43 = .ok (.iload 6, 2) := by decide +kernel
theorem dX7_add_45 : decode cX7_add 45 = .ok (.iload 5, 2) := by decide +kernel
theorem dX7_add_47 : decode cX7_add 47 = .ok (.iastore, 1) := by decide +kernel
theorem dX7_add_48 : decode cX7_add 48 = .ok (.iload 6, 2) := by decide +kernel
theorem dX7_add_50 : decode cX7_add 50 = .ok (.istore 7, 2) := by decide +kernel
theorem dX7_add_52 : decode cX7_add 52 = .ok (.iload 7, 2) := by decide +kernel
theorem dX7_add_54 : decode cX7_add 54 = .ok (.ifCond .le 43, 3) := by decide +kernel
theorem dX7_add_57 : decode cX7_add 57 = .ok (.aload_n 0, 1) := by decide +kernel
theorem dX7_add_58 : decode cX7_add 58 = .ok (.getfield 18, 3) := by decide +kernel
theorem dX7_add_61 : decode cX7_add 61 = .ok (.aload_n 0, 1) := by decide +kernel
theorem dX7_add_62 : decode cX7_add 62 = .ok (.getfield 27, 3) := by decide +kernel
theorem dX7_add_65 : decode cX7_add 65 = .ok (.iload 7, 2) := by decide +kernel
theorem dX7_add_67 : decode cX7_add 67 = .ok (.iconst 1, 1) := by decide +kernel
theorem dX7_add_68 : decode cX7_add 68 = .ok (.isub, 1) := by decide +kernel
theorem dX7_add_69 : decode cX7_add 69 = .ok (.iaload, 1) := by decide +kernel
theorem dX7_add_70 : decode cX7_add 70 = .ok (.iaload, 1) := by decide +kernel
theorem dX7_add_71 : decode cX7_add 71 = .ok (.iload_n 3, 1) := by decide +kernel
theorem dX7_add_72 : decode cX7_add 72 = .ok (.if_icmp .le 25, 3) := by decide +kernel
theorem dX7_add_75 : decode cX7_add 75 = .ok (.aload_n 0, 1) := by decide +kernel
theorem dX7_add_76 : decode cX7_add 76 = .ok (.getfield 27, 3) := by decide +kernel
theorem dX7_add_79 : decode cX7_add 79 = .ok (.iload 7, 2) := by decide +kernel
theorem dX7_add_81 : decode cX7_add 81 = .ok (.aload_n 0, 1) := by decide +kernel
theorem dX7_add_82 : decode cX7_add 82 = .ok (.getfield 27, 3) := by decide +kernel
theorem dX7_add_85 : decode cX7_add 85 = .ok (.iload 7, 2) := by decide +kernel
theorem dX7_add_87 : decode cX7_add 87 = .ok (.iconst 1, 1) := by decide +kernel
theorem dX7_add_88 : decode cX7_add 88 = .ok (.isub, 1) := by decide +kernel
