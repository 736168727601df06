/-! decode rows, by program out of what TURN prints -/
theorem dX11_mayBe_4 : decode cX11_mayBe 4 = .ok (.iconst 0, 1) := by decide +kernel
theorem dX11_mayBe_5 : decode cX11_mayBe 5 = .ok (.istore 4, 2) := by decide +kernel
theorem dX11_mayBe_7 : decode cX11_mayBe 7 = .ok (.iload 4, 2) := by decide +kernel
theorem dX11_mayBe_9 : decode cX11_mayBe 9 = .ok (.aload_n 0, 1) := by decide +kernel
theorem dX11_mayBe_10 : decode cX11_mayBe 10 = .ok (.getfield 201, 3) := by decide +kernel
theorem dX11_mayBe_13 : decode cX11_mayBe 13 = .ok (.if_icmp .ge 75, 3) := by decide +kernel
theorem dX11_mayBe_16 : decode cX11_mayBe 16 = .ok (.aload_n 0, 1) := by decide +kernel
theorem dX11_mayBe_17 : decode cX11_mayBe 17 = .ok (.iload 4, 2) := by decide +kernel
theorem dX11_mayBe_19 : decode cX11_mayBe 19 = .ok (.iload_n 1, 1) := by decide +kernel
theorem dX11_mayBe_20 : decode cX11_mayBe 20 = .ok (.invokevirtual 204, 3) := by decide +kernel
theorem dX11_mayBe_23 : decode cX11_mayBe 23 = .ok (.istore 5, 2) := by decide +kernel
theorem dX11_mayBe_25 : decode cX11_mayBe 25 = .ok (.iload_n 2, 1) := by decide +kernel
theorem dX11_mayBe_26 : decode cX11_mayBe 26 = .ok (.iload 5, 2) := by decide +kernel
theorem dX11_mayBe_28 : decode cX11_mayBe 28 = .ok (.ifCond .eq 22, 3) := by decide +kernel
theorem dX11_mayBe_31 : decode cX11_mayBe 31 = .ok (.aload_n 0, 1) := by decide +kernel
theorem dX11_mayBe_32 : decode cX11_mayBe 32 = .ok (.getfield 37, 3) := by decide +kernel
theorem dX11_mayBe_35 : decode cX11_mayBe 35 = .ok (.iconst 4, 1) := by decide +kernel
theorem dX11_mayBe_36 : decode cX11_mayBe 36 = .ok (.iload 4, 2) := by decide +kernel
theorem dX11_mayBe_38 : decode cX11_mayBe 38 = .ok (.imul, 1) := by decide +kernel
theorem dX11_mayBe_39 : decode cX11_mayBe 39 = .ok (.iconst 3, 1) := by decide +kernel
theorem dX11_mayBe_40 : decode cX11_mayBe 40 = .ok (.iadd, 1) := by decide +kernel
theorem dX11_mayBe_41 : decode cX11_mayBe 41 = .ok (.iaload, 1) := by decide +kernel
theorem dX11_mayBe_42 : decode cX11_mayBe 42 = .ok (.iconst 1, 1) := by decide +kernel
theorem dX11_mayBe_43 : decode cX11_mayBe 43 = .ok (.if_icmp .ne 7, 3) := by decide +kernel
theorem dX11_mayBe_46 : decode cX11_mayBe 46 = .ok (.iconst 1, 1) := by decide +kernel
theorem dX11_mayBe_47 : decode cX11_mayBe 47 = .ok (.goto 4, 3) := by decide +kernel
theorem dX11_mayBe_50 : decode cX11_mayBe 50 = .ok (.iconst 0, 1) := by decide +kernel
theorem dX11_mayBe_51 : decode cX11_mayBe 51 = .ok (.iadd, 1) := by decide +kernel
theorem dX11_mayBe_52 : decode cX11_mayBe 52 = .ok (.istore_n 2, 1) := by decide +kernel
theorem dX11_mayBe_53 : decode cX11_mayBe 53 = .ok (.iload_n 3, 1) := by decide +kernel
theorem dX11_mayBe_54 : decode cX11_mayBe 54 = .ok (.ifCond .ne 22, 3) := by decide +kernel
theorem dX11_mayBe_57 : decode cX11_mayBe 57 = .ok (.iload 5, 2) := by decide +kernel
theorem dX11_mayBe_59 : decode cX11_mayBe 59 = .ok (.ifCond .eq 21, 3) := by decide +kernel
theorem dX11_mayBe_62 : decode cX11_mayBe 62 = .ok (.aload_n 0, 1) := by decide +kernel
theorem dX11_mayBe_63 : decode cX11_mayBe 63 = .ok (.getfield 37, 3) := by decide +kernel
theorem dX11_mayBe_66 : decode cX11_mayBe 66 = .ok (.iconst 4, 1) := by decide +kernel
theorem dX11_mayBe_67 : decode cX11_mayBe 67 = .ok (.iload 4, 2) := by decide +kernel
theorem dX11_mayBe_69 : decode cX11_mayBe 69 = .ok (.imul, 1) := by decide +kernel
theorem dX11_mayBe_70 : decode cX11_mayBe 70 = .ok (.iconst 3, 1) := by decide +kernel
theorem dX11_mayBe_71 : decode cX11_mayBe 71 = .ok (.iadd, 1) := by decide +kernel
theorem dX11_mayBe_72 : decode cX11_mayBe 72 = .ok (.iaload, 1) := by decide +kernel
theorem dX11_mayBe_73 : decode cX11_mayBe 73 = .ok (.ifCond .ne 7, 3) := by decide +kernel
theorem dX11_mayBe_76 : decode cX11_mayBe 76 = .ok (.iconst 1, 1) := by decide +kernel
theorem dX11_mayBe_77 : decode cX11_mayBe 77 = .ok (.goto 4, 3) := by decide +kernel
theorem dX11_mayBe_80 : decode cX11_mayBe 80 = .ok (.iconst 0, 1) := by decide +kernel
theorem dX11_mayBe_81 : decode cX11_mayBe 81 = .ok (.istore_n 3, 1) := by decide +kernel
theorem dX11_mayBe_82 : decode cX11_mayBe 82 = .ok (.iinc 4 1, 3) := by decide +kernel
theorem dX11_mayBe_85 : decode cX11_mayBe 85 = .ok (.goto (-78), 3) := by decide +kernel
theorem dX11_mayBe_88 : decode cX11_mayBe 88 = .ok (.iload_n 2, 1) := by decide +kernel
theorem dX11_mayBe_89 : decode cX11_mayBe 89 = .ok (.iconst 2, 1) := by decide +kernel
theorem dX11_mayBe_90 : decode cX11_mayBe 90 = .ok (.if_icmp .lt 11, 3) := by decide +kernel
theorem dX11_mayBe_93 : decode cX11_mayBe 93 = .ok (.iload_n 3, 1) := by decide +kernel
theorem dX11_mayBe_94 : decode cX11_mayBe 94 = .ok (.ifCond .ne 7, 3) := by decide +kernel
theorem dX11_mayBe_97 : decode cX11_mayBe 97 = .ok (.iconst 1, 1) := by decide +kernel
theorem dX11_mayBe_98 : decode cX11_mayBe 98 = .ok (.goto 4, 3) := by decide +kernel
theorem dX11_mayBe_101 : decode cX11_mayBe 101 = .ok (.iconst 0, 1) := by decide +kernel
theorem dX11_mayBe_102 : decode cX11_mayBe 102 = .ok (.ireturn, 1) := by decide +kernel
theorem dX11_cause_0 : decode cX11_cause 0 = .ok (.iload_n 1, 1) := by decide +kernel
theorem dX11_cause_1 : decode cX11_cause 1 = .ok (.iconst 0, 1) := by decide +kernel
theorem dX11_cause_2 : decode cX11_cause 2 = .ok (.bipush 29, 2) := by decide +kernel
theorem dX11_cause_4 : decode cX11_cause 4 = .ok (.invokestatic 94, 3) := by decide +kernel
theorem dX11_cause_7 : decode cX11_cause 7 = .ok (.ifCond .ne 8, 3) := by decide +kernel
theorem dX11_cause_10 : decode cX11_cause 10 = .ok (.bipush (-2), 2) := by decide +kernel
theorem dX11_cause_12 : decode cX11_cause 12 = .ok (.goto 16, 3) := by decide +kernel
theorem dX11_cause_15 : decode cX11_cause 15 = .ok (.aload_n 0, 1) := by decide +kernel
theorem dX11_cause_16 : decode cX11_cause 16 = .ok (.iload_n 1, 1) := by decide +kernel
theorem dX11_cause_17 : decode cX11_cause 17 = .ok (.invokevirtual 207, 3) := by decide +kernel
theorem dX11_cause_20 : decode cX11_cause 20 = .ok (.ifCond .eq 7, 3) := by decide +kernel
theorem dX11_cause_23 : decode cX11_cause 23 = .ok (.iconst 1, 1) := by decide +kernel
theorem dX11_cause_24 : decode cX11_cause 24 = .ok (.goto 4, 3) := by decide +kernel
theorem dX11_cause_27 : decode cX11_cause 27 = .ok (.iconst 0, 1) := by decide +kernel
theorem dX11_cause_28 : decode cX11_cause 28 = .ok (.ireturn, 1) := by decide +kernel
theorem dX11_explain_0 : decode cX11_explain 0 = .ok (.iconst 1, 1) := by decide +kernel
theorem dX11_explain_1 : decode cX11_explain 1 = .ok (.istore 4, 2) := by decide +kernel
theorem dX11_explain_3 : decode cX11_explain 3 = .ok (.iconst 0, 1) := by decide +kernel
theorem dX11_explain_4 : decode cX11_explain 4 = .ok (.istore 5, 2) := by decide +kernel
theorem dX11_explain_6 : decode cX11_explain 6 = .ok (.iload 5, 2) := by decide +kernel
theorem dX11_explain_8 : decode cX11_explain 8 = .ok (.aload_n 0, 1) := by decide +kernel
theorem dX11_explain_9 : decode cX11_explain 9 = .ok (.getfield 201, 3) := by decide +kernel
theorem dX11_explain_12 : decode cX11_explain 12 = .ok (.if_icmp .ge 89, 3) := by decide +kernel
theorem dX11_explain_15 : decode cX11_explain 15 = .ok (.iload 4, 2) := by decide +kernel
theorem dX11_explain_17 : decode cX11_explain 17 = .ok (.ifCond .eq 84, 3) := by decide +kernel
theorem dX11_explain_20 : decode cX11_explain 20 = .ok (.iload_n 1, 1) := by decide +kernel
theorem dX11_explain_21 : decode cX11_explain 21 = .ok (.ifCond .lt 13, 3) := by decide +kernel
theorem dX11_explain_24 : decode cX11_explain 24 = .ok (.aload_n 0, 1) := by decide +kernel
theorem dX11_explain_25 : decode cX11_explain 25 = .ok (.iload 5, 2) := by decide +kernel
theorem dX11_explain_27 : decode cX11_explain 27 = .ok (.iload_n 1, 1) := by decide +kernel
theorem dX11_explain_28 : decode cX11_explain 28 = .ok (.invokevirtual 204, 3) := by decide +kernel
theorem dX11_explain_31 : decode cX11_explain 31 = .ok (.ifCond .ne 31, 3) := by decide +kernel
theorem dX11_explain_34 : decode cX11_explain 34 = .ok (.iload_n 2, 1) := by decide +kernel
theorem dX11_explain_35 : decode cX11_explain 35 = .ok (.ifCond .lt 13, 3) := by decide +kernel
theorem dX11_explain_38 : decode cX11_explain 38 = .ok (.aload_n 0, 1) := by decide +kernel
theorem dX11_explain_39 : decode cX11_explain 39 = .ok (.iload 5, 2) := by decide +kernel
theorem dX11_explain_41 : decode cX11_explain 41 = .ok (.iload_n 2, 1) := by decide +kernel
theorem dX11_explain_42 : decode cX11_explain 42 = .ok (.invokevirtual 204, 3) := by decide +kernel
theorem dX11_explain_45 : decode cX11_explain 45 = .ok (.ifCond .ne 17, 3) := by decide +kernel
theorem dX11_explain_48 : decode cX11_explain 48 = .ok (.iload_n 3, 1) := by decide +kernel
theorem dX11_explain_49 : decode cX11_explain 49 = .ok (.ifCond .lt 17, 3) := by decide +kernel
theorem dX11_explain_52 : decode cX11_explain 52 = .ok (.aload_n 0, 1) := by decide +kernel
theorem dX11_explain_53 : decode cX11_explain 53 = .ok (.iload 5, 2) := by decide +kernel
theorem dX11_explain_55 : decode cX11_explain 55 = .ok (.iload_n 3, 1) := by decide +kernel
theorem dX11_explain_56 : decode cX11_explain 56 = .ok (.invokevirtual 204, 3) := by decide +kernel
theorem dX11_explain_59 : decode cX11_explain 59 = .ok (.ifCond .eq 7, 3) := by decide +kernel
theorem dX11_explain_62 : decode cX11_explain 62 = .ok (.iconst 1, 1) := by decide +kernel
theorem dX11_explain_63 : decode cX11_explain 63 = .ok (.goto 4, 3) := by decide +kernel
theorem dX11_explain_66 : decode cX11_explain 66 = .ok (.iconst 0, 1) := by decide +kernel
theorem dX11_explain_67 : decode cX11_explain 67 = .ok (.istore 6, 2) := by decide +kernel
theorem dX11_explain_69 : decode cX11_explain 69 = .ok (.aload_n 0, 1) := by decide +kernel
theorem dX11_explain_70 : decode cX11_explain 70 = .ok (.getfield 37, 3) := by decide +kernel
theorem dX11_explain_73 : decode cX11_explain 73 = .ok (.iconst 4, 1) := by decide +kernel
theorem dX11_explain_74 : decode cX11_explain 74 = .ok (.iload 5, 2) := by decide +kernel
theorem dX11_explain_76 : decode cX11_explain 76 = .ok (.imul, 1) := by decide +kernel
theorem dX11_explain_77 : decode cX11_explain 77 = .ok (.iconst 3, 1) := by decide +kernel
theorem dX11_explain_78 : decode cX11_explain 78 = .ok (.iadd, 1) := by decide +kernel
theorem dX11_explain_79 : decode cX11_explain 79 = .ok (.iaload, 1) := by decide +kernel
theorem dX11_explain_80 : decode cX11_explain 80 = .ok (.ifCond .eq 8, 3) := by decide +kernel
theorem dX11_explain_83 : decode cX11_explain 83 = .ok (.iload 6, 2) := by decide +kernel
theorem dX11_explain_85 : decode cX11_explain 85 = .ok (.ifCond .eq 7, 3) := by decide +kernel
theorem dX11_explain_88 : decode cX11_explain 88 = .ok (.iconst 1, 1) := by decide +kernel
theorem dX11_explain_89 : decode cX11_explain 89 = .ok (.goto 4, 3) := by decide +kernel
theorem dX11_explain_92 : decode cX11_explain 92 = .ok (.iconst 0, 1) := by decide +kernel
theorem dX11_explain_93 : decode cX11_explain 93 = .ok (.istore 4, 2) := by decide +kernel
theorem dX11_explain_95 : decode cX11_explain 95 = .ok (.iinc 5 1, 3) := by decide +kernel
theorem dX11_explain_98 : decode cX11_explain 98 = .ok (.goto (-92), 3) := by decide +kernel
theorem dX11_explain_101 : decode cX11_explain 101 = .ok (.iload 4, 2) := by decide +kernel
theorem dX11_explain_103 : decode cX11_explain 103 = .ok (.ireturn, 1) := by decide +kernel
theorem dX11_setOf_0 : decode cX11_setOf 0 = .ok (.iconst 0, 1) := by decide +kernel
theorem dX11_setOf_1 : decode cX11_setOf 1 = .ok (.istore 4, 2) := by decide +kernel
theorem dX11_setOf_3 : decode cX11_setOf 3 = .ok (.iconst 0, 1) := by decide +kernel
theorem dX11_setOf_4 : decode cX11_setOf 4 = .ok (.istore 5, 2) := by decide +kernel
theorem dX11_setOf_6 : decode cX11_setOf 6 = .ok (.iload 5, 2) := by decide +kernel
theorem dX11_setOf_8 : decode cX11_setOf 8 = .ok (.sipush 27000, 3) := by decide +kernel
theorem dX11_setOf_11 : decode cX11_setOf 11 = .ok (.if_icmp .ge 265, 3) := by decide +kernel
theorem dX11_setOf_14 : decode cX11_setOf 14 = .ok (.iload 5, 2) := by decide +kernel
theorem dX11_setOf_16 : decode cX11_setOf 16 = .ok (.sipush 900, 3) := by decide +kernel
theorem dX11_setOf_19 : decode cX11_setOf 19 = .ok (.idiv, 1) := by decide +kernel
theorem dX11_setOf_20 : decode cX11_setOf 20 = .ok (.istore 6, 2) := by decide +kernel
theorem dX11_setOf_22 : decode cX11_setOf 22 = .ok (.iload 5, 2) := by decide +kernel
theorem dX11_setOf_24 : decode cX11_setOf 24 = .ok (.bipush 30, 2) := by decide +kernel
theorem dX11_setOf_26 : decode cX11_setOf 26 = .ok (.idiv, 1) := by decide +kernel
theorem dX11_setOf_27 : decode cX11_setOf 27 = .ok (.bipush 30, 2) := by decide +kernel
theorem dX11_setOf_29 : decode cX11_setOf 29 = .ok (.irem, 1) := by decide +kernel
theorem dX11_setOf_30 : decode cX11_setOf 30 = .ok (.istore 7, 2) := by decide +kernel
theorem dX11_setOf_32 : decode cX11_setOf 32 = .ok (.iload 5, 2) := by decide +kernel
theorem dX11_setOf_34 : decode cX11_setOf 34 = .ok (.bipush 30, 2) := by decide +kernel
theorem dX11_setOf_36 : decode cX11_setOf 36 = .ok (.irem, 1) := by decide +kernel
theorem dX11_setOf_37 : decode cX11_setOf 37 = .ok (.istore 8, 2) := by decide +kernel
theorem dX11_setOf_39 : decode cX11_setOf 39 = .ok (.iload_n 1, 1) := by decide +kernel
theorem dX11_setOf_40 : decode cX11_setOf 40 = .ok (.ifCond .ne 16, 3) := by decide +kernel
theorem dX11_setOf_43 : decode cX11_setOf 43 = .ok (.iload 5, 2) := by decide +kernel
theorem dX11_setOf_45 : decode cX11_setOf 45 = .ok (.ifCond .ne 7, 3) := by decide +kernel
theorem dX11_setOf_48 : decode cX11_setOf 48 = .ok (.iconst 1, 1) := by decide +kernel
theorem dX11_setOf_49 : decode cX11_setOf 49 = .ok (.goto 74, 3) := by decide +kernel
theorem dX11_setOf_52 : decode cX11_setOf 52 = .ok (.iconst 0, 1) := by decide +kernel
theorem dX11_setOf_53 : decode cX11_setOf 53 = .ok (.goto 70, 3) := by decide +kernel
theorem dX11_setOf_56 : decode cX11_setOf 56 = .ok (.iload_n 1, 1) := by decide +kernel
theorem dX11_setOf_57 : decode cX11_setOf 57 = .ok (.iconst 1, 1) := by decide +kernel
theorem dX11_setOf_58 : decode cX11_setOf 58 = .ok (.if_icmp .ne 21, 3) := by decide +kernel
theorem dX11_setOf_61 : decode cX11_setOf 61 = .ok (.iload 7, 2) := by decide +kernel
theorem dX11_setOf_63 : decode cX11_setOf 63 = .ok (.ifCond .ne 12, 3) := by decide +kernel
theorem dX11_setOf_66 : decode cX11_setOf 66 = .ok (.iload 8, 2) := by decide +kernel
theorem dX11_setOf_68 : decode cX11_setOf 68 = .ok (.ifCond .ne 7, 3) := by decide +kernel
theorem dX11_setOf_71 : decode cX11_setOf 71 = .ok (.iconst 1, 1) := by decide +kernel
theorem dX11_setOf_72 : decode cX11_setOf 72 = .ok (.goto 51, 3) := by decide +kernel
theorem dX11_setOf_75 : decode cX11_setOf 75 = .ok (.iconst 0, 1) := by decide +kernel
theorem dX11_setOf_76 : decode cX11_setOf 76 = .ok (.goto 47, 3) := by decide +kernel
theorem dX11_setOf_79 : decode cX11_setOf 79 = .ok (.iload_n 1, 1) := by decide +kernel
theorem dX11_setOf_80 : decode cX11_setOf 80 = .ok (.iconst 2, 1) := by decide +kernel
theorem dX11_setOf_81 : decode cX11_setOf 81 = .ok (.if_icmp .ne 23, 3) := by decide +kernel
theorem dX11_setOf_84 : decode cX11_setOf 84 = .ok (.iload 6, 2) := by decide +kernel
theorem dX11_setOf_86 : decode cX11_setOf 86 = .ok (.iload 7, 2) := by decide +kernel
theorem dX11_setOf_88 : decode cX11_setOf 88 = .ok (.if_icmp .ge 12, 3) := by decide +kernel
theorem dX11_setOf_91 : decode cX11_setOf 91 = .ok (.iload 8, 2) := by decide +kernel
theorem dX11_setOf_93 : decode cX11_setOf 93 = .ok (.ifCond .ne 7, 3) := by decide +kernel
theorem dX11_setOf_96 : decode cX11_setOf 96 = .ok (.iconst 1, 1) := by decide +kernel
theorem dX11_setOf_97 : decode cX11_setOf 97 = .ok (.goto 26, 3) := by decide +kernel
theorem dX11_setOf_100 : decode cX11_setOf 100 = .ok (.iconst 0, 1) := by decide +kernel
theorem dX11_setOf_101 : decode cX11_setOf 101 = .ok (.goto 22, 3) := by decide +kernel
theorem dX11_setOf_104 : decode cX11_setOf 104 = .ok (.iload 6, 2) := by decide +kernel
theorem dX11_setOf_106 : decode cX11_setOf 106 = .ok (.iload 7, 2) := by decide +kernel
theorem dX11_setOf_108 : decode cX11_setOf 108 = .ok (.if_icmp .ge 14, 3) := by decide +kernel
theorem dX11_setOf_111 : decode cX11_setOf 111 = .ok (.iload 7, 2) := by decide +kernel
theorem dX11_setOf_113 : decode cX11_setOf 113 = .ok (.iload 8, 2) := by decide +kernel
theorem dX11_setOf_115 : decode cX11_setOf 115 = .ok (.if_icmp .ge 7, 3) := by decide +kernel
theorem dX11_setOf_118 : decode cX11_setOf 118 = .ok (.iconst 1, 1) := by decide +kernel
theorem dX11_setOf_119 : decode cX11_setOf 119 = .ok (.goto 4, 3) := by decide +kernel
theorem dX11_setOf_122 : decode cX11_setOf 122 = .ok (.iconst 0, 1) := by decide +kernel
theorem dX11_setOf_123 : decode cX11_setOf 123 = .ok (.istore 9, 2) := by decide +kernel
theorem dX11_setOf_125 : decode cX11_setOf 125 = .ok (.iload 9, 2) := by decide +kernel
theorem dX11_setOf_127 : decode cX11_setOf 127 = .ok (.ifCond .eq 49, 3) := by decide +kernel
theorem dX11_setOf_130 : decode cX11_setOf 130 = .ok (.iload_n 1, 1) := by decide +kernel
theorem dX11_setOf_131 : decode cX11_setOf 131 = .ok (.iconst 1, 1) := by decide +kernel
theorem dX11_setOf_132 : decode cX11_setOf 132 = .ok (.if_icmp .lt 12, 3) := by decide +kernel
theorem dX11_setOf_135 : decode cX11_setOf 135 = .ok (.aload_n 0, 1) := by decide +kernel
theorem dX11_setOf_136 : decode cX11_setOf 136 = .ok (.iload 6, 2) := by decide +kernel
theorem dX11_setOf_138 : decode cX11_setOf 138 = .ok (.invokevirtual 207, 3) := by decide +kernel
theorem dX11_setOf_141 : decode cX11_setOf 141 = .ok (.ifCond .eq 35, 3) := by decide +kernel
theorem dX11_setOf_144 : decode cX11_setOf 144 = .ok (.iload_n 1, 1) := by decide +kernel
theorem dX11_setOf_145 : decode cX11_setOf 145 = .ok (.iconst 2, 1) := by decide +kernel
theorem dX11_setOf_146 : decode cX11_setOf 146 = .ok (.if_icmp .lt 12, 3) := by decide +kernel
theorem dX11_setOf_149 : decode cX11_setOf 149 = .ok (.aload_n 0, 1) := by decide +kernel
theorem dX11_setOf_150 : decode cX11_setOf 150 = .ok (.iload 7, 2) := by decide +kernel
theorem dX11_setOf_152 : decode cX11_setOf 152 = .ok (.invokevirtual 207, 3) := by decide +kernel
theorem dX11_setOf_155 : decode cX11_setOf 155 = .ok (.ifCond .eq 21, 3) := by decide +kernel
theorem dX11_setOf_158 : decode cX11_setOf 158 = .ok (.iload_n 1, 1) := by decide +kernel
theorem dX11_setOf_159 : decode cX11_setOf 159 = .ok (.iconst 3, 1) := by decide +kernel
theorem dX11_setOf_160 : decode cX11_setOf 160 = .ok (.if_icmp .lt 12, 3) := by decide +kernel
theorem dX11_setOf_163 : decode cX11_setOf 163 = .ok (.aload_n 0, 1) := by decide +kernel
theorem dX11_setOf_164 : decode cX11_setOf 164 = .ok (.iload 8, 2) := by decide +kernel
theorem dX11_setOf_166 : decode cX11_setOf 166 = .ok (.invokevirtual 207, 3) := by decide +kernel
theorem dX11_setOf_169 : decode cX11_setOf 169 = .ok (.ifCond .eq 7, 3) := by decide +kernel
theorem dX11_setOf_172 : decode cX11_setOf 172 = .ok (.iconst 1, 1) := by decide +kernel
theorem dX11_setOf_173 : decode cX11_setOf 173 = .ok (.goto 4, 3) := by decide +kernel
theorem dX11_setOf_176 : decode cX11_setOf 176 = .ok (.iconst 0, 1) := by decide +kernel
theorem dX11_setOf_177 : decode cX11_setOf 177 = .ok (.istore 9, 2) := by decide +kernel
theorem dX11_setOf_179 : decode cX11_setOf 179 = .ok (.iload 9, 2) := by decide +kernel
theorem dX11_setOf_181 : decode cX11_setOf 181 = .ok (.ifCond .eq 89, 3) := by decide +kernel
theorem dX11_setOf_184 : decode cX11_setOf 184 = .ok (.aload_n 0, 1) := by decide +kernel
theorem dX11_setOf_185 : decode cX11_setOf 185 = .ok (.iload_n 1, 1) := by decide +kernel
theorem dX11_setOf_186 : decode cX11_setOf 186 = .ok (.ifCond .le 8, 3) := by decide +kernel
theorem dX11_setOf_189 : decode cX11_setOf 189 = .ok (.iload 6, 2) := by decide +kernel
theorem dX11_setOf_191 : decode cX11_setOf 191 = .ok (.goto 4, 3) := by decide +kernel
theorem dX11_setOf_194 : decode cX11_setOf 194 = .ok (.iconst (-1), 1) := by decide +kernel
theorem dX11_setOf_195 : decode cX11_setOf 195 = .ok (.iload_n 1, 1) := by decide +kernel
theorem dX11_setOf_196 : decode cX11_setOf 196 = .ok (.iconst 1, 1) := by decide +kernel
theorem dX11_setOf_197 : decode cX11_setOf 197 = .ok (.if_icmp .le 8, 3) := by decide +kernel
theorem dX11_setOf_200 : decode cX11_setOf 200 = .ok (.iload 7, 2) := by decide +kernel
theorem dX11_setOf_202 : decode cX11_setOf 202 = .ok (.goto 4, 3) := by decide +kernel
theorem dX11_setOf_205 : decode cX11_setOf 205 = .ok (.iconst (-1), 1) := by decide +kernel
theorem dX11_setOf_206 : decode cX11_setOf 206 = .ok (.iload_n 1, 1) := by decide +kernel
theorem dX11_setOf_207 : decode cX11_setOf 207 = .ok (.iconst 2, 1) := by decide +kernel
theorem dX11_setOf_208 : decode cX11_setOf 208 = .ok (.if_icmp .le 8, 3) := by decide +kernel
theorem dX11_setOf_211 : decode cX11_setOf 211 = .ok (.iload 8, 2) := by decide +kernel
theorem dX11_setOf_213 : decode cX11_setOf 213 = .ok (.goto 4, 3) := by decide +kernel
theorem dX11_setOf_216 : decode cX11_setOf 216 = .ok (.iconst (-1), 1) := by decide +kernel
theorem dX11_setOf_217 : decode cX11_setOf 217 = .ok (.invokevirtual 210, 3) := by decide +kernel
theorem dX11_setOf_220 : decode cX11_setOf 220 = .ok (.ifCond .eq 50, 3) := by decide +kernel
theorem dX11_setOf_223 : decode cX11_setOf 223 = .ok (.iload 4, 2) := by decide +kernel
theorem dX11_setOf_225 : decode cX11_setOf 225 = .ok (.iload_n 2, 1) := by decide +kernel
theorem dX11_setOf_226 : decode cX11_setOf 226 = .ok (.if_icmp .ne 41, 3) := by decide +kernel
theorem dX11_setOf_229 : decode cX11_setOf 229 = .ok (.iload_n 3, 1) := by decide +kernel
theorem dX11_setOf_230 : decode cX11_setOf 230 = .ok (.iconst 0, 1) := by decide +kernel
theorem dX11_setOf_231 : decode cX11_setOf 231 = .ok (.iload_n 1, 1) := by decide +kernel
theorem dX11_setOf_232 : decode cX11_setOf 232 = .ok (.iconst 1, 1) := by decide +kernel
theorem dX11_setOf_233 : decode cX11_setOf 233 = .ok (.isub, 1) := by decide +kernel
theorem dX11_setOf_234 : decode cX11_setOf 234 = .ok (.invokestatic 94, 3) := by decide +kernel
theorem dX11_setOf_237 : decode cX11_setOf 237 = .ok (.ifCond .ne 8, 3) := by decide +kernel
theorem dX11_setOf_240 : decode cX11_setOf 240 = .ok (.bipush (-6), 2) := by decide +kernel
theorem dX11_setOf_242 : decode cX11_setOf 242 = .ok (.goto 24, 3) := by decide +kernel
theorem dX11_setOf_245 : decode cX11_setOf 245 = .ok (.iload_n 3, 1) := by decide +kernel
theorem dX11_setOf_246 : decode cX11_setOf 246 = .ok (.ifCond .ne 8, 3) := by decide +kernel
theorem dX11_setOf_249 : decode cX11_setOf 249 = .ok (.iload 6, 2) := by decide +kernel
theorem dX11_setOf_251 : decode cX11_setOf 251 = .ok (.goto 15, 3) := by decide +kernel
theorem dX11_setOf_254 : decode cX11_setOf 254 = .ok (.iload_n 3, 1) := by decide +kernel
theorem dX11_setOf_255 : decode cX11_setOf 255 = .ok (.iconst 1, 1) := by decide +kernel
theorem dX11_setOf_256 : decode cX11_setOf 256 = .ok (.if_icmp .ne 8, 3) := by decide +kernel
theorem dX11_setOf_259 : decode cX11_setOf 259 = .ok (.iload 7, 2) := by decide +kernel
theorem dX11_setOf_261 : decode cX11_setOf 261 = .ok (.goto 5, 3) := by decide +kernel
theorem dX11_setOf_264 : decode cX11_setOf 264 = .ok (.iload 8, 2) := by decide +kernel
theorem dX11_setOf_266 : decode cX11_setOf 266 = .ok (.ireturn, 1) := by decide +kernel
theorem dX11_setOf_267 : decode cX11_setOf 267 = .ok (.iinc 4 1, 3) := by decide +kernel
theorem dX11_setOf_270 : decode cX11_setOf 270 = .ok (.iinc 5 1, 3) := by decide +kernel
theorem dX11_setOf_273 : decode cX11_setOf 273 = .ok (.goto (-267), 3) := by decide +kernel
theorem dX11_setOf_276 : decode cX11_setOf 276 = .ok (.iload_n 2, 1) := by decide +kernel
theorem dX11_setOf_277 : decode cX11_setOf 277 = .ok (.iconst (-1), 1) := by decide +kernel
theorem dX11_setOf_278 : decode cX11_setOf 278 = .ok (.if_icmp .ne 8, 3) := by decide +kernel
theorem dX11_setOf_281 : decode cX11_setOf 281 = .ok (.iload 4, 2) := by decide +kernel
theorem dX11_setOf_283 : decode cX11_setOf 283 = .ok (.goto 5, 3) := by decide +kernel
theorem dX11_setOf_286 : decode cX11_setOf 286 = .ok (.bipush (-6), 2) := by decide +kernel
theorem dX11_setOf_288 : decode cX11_setOf 288 = .ok (.ireturn, 1) := by decide +kernel
theorem dX11_fewest_0 : decode cX11_fewest 0 = .ok (.iconst 0, 1) := by decide +kernel
theorem dX11_fewest_1 : decode cX11_fewest 1 = .ok (.istore_n 1, 1) := by decide +kernel
theorem dX11_fewest_2 : decode cX11_fewest 2 = .ok (.iload_n 1, 1) := by decide +kernel
theorem dX11_fewest_3 : decode cX11_fewest 3 = .ok (.iconst 4, 1) := by decide +kernel
theorem dX11_fewest_4 : decode cX11_fewest 4 = .ok (.if_icmp .ge 21, 3) := by decide +kernel
theorem dX11_fewest_7 : decode cX11_fewest 7 = .ok (.aload_n 0, 1) := by decide +kernel
theorem dX11_fewest_8 : decode cX11_fewest 8 = .ok (.iload_n 1, 1) := by decide +kernel
theorem dX11_fewest_9 : decode cX11_fewest 9 = .ok (.iconst (-1), 1) := by decide +kernel
theorem dX11_fewest_10 : decode cX11_fewest 10 = .ok (.iconst 0, 1) := by decide +kernel
theorem dX11_fewest_11 : decode cX11_fewest 11 = .ok (.invokevirtual 213, 3) := by decide +kernel
theorem dX11_fewest_14 : decode cX11_fewest 14 = .ok (.ifCond .le 5, 3) := by decide +kernel
theorem dX11_fewest_17 : decode cX11_fewest 17 = .ok (.iload_n 1, 1) := by decide +kernel
theorem dX11_fewest_18 : decode cX11_fewest 18 = .ok (.ireturn, 1) := by decide +kernel
theorem dX11_fewest_19 : decode cX11_fewest 19 = .ok (.iinc 1 1, 3) := by decide +kernel
theorem dX11_fewest_22 : decode cX11_fewest 22 = .ok (.goto (-20), 3) := by decide +kernel
theorem dX11_fewest_25 : decode cX11_fewest 25 = .ok (.bipush (-6), 2) := by decide +kernel
theorem dX11_fewest_27 : decode cX11_fewest 27 = .ok (.ireturn, 1) := by decide +kernel
theorem dX11_explained_0 : decode cX11_explained 0 = .ok (.aload_n 0, 1) := by decide +kernel
theorem dX11_explained_1 : decode cX11_explained 1 = .ok (.invokevirtual 217, 3) := by decide +kernel
theorem dX11_explained_4 : decode cX11_explained 4 = .ok (.ireturn, 1) := by decide +kernel
theorem dX11_rival_0 : decode cX11_rival 0 = .ok (.aload_n 0, 1) := by decide +kernel
theorem dX11_rival_1 : decode cX11_rival 1 = .ok (.invokevirtual 217, 3) := by decide +kernel
theorem dX11_rival_4 : decode cX11_rival 4 = .ok (.istore_n 3, 1) := by decide +kernel
theorem dX11_rival_5 : decode cX11_rival 5 = .ok (.iload_n 3, 1) := by decide +kernel
theorem dX11_rival_6 : decode cX11_rival 6 = .ok (.ifCond .ge 17, 3) := by decide +kernel
theorem dX11_rival_9 : decode cX11_rival 9 = .ok (.iload_n 1, 1) := by decide +kernel
theorem dX11_rival_10 : decode cX11_rival 10 = .ok (.iconst (-1), 1) := by decide +kernel
theorem dX11_rival_11 : decode cX11_rival 11 = .ok (.if_icmp .ne 7, 3) := by decide +kernel
theorem dX11_rival_14 : decode cX11_rival 14 = .ok (.iconst 0, 1) := by decide +kernel
theorem dX11_rival_15 : decode cX11_rival 15 = .ok (.goto 15, 3) := by decide +kernel
theorem dX11_rival_18 : decode cX11_rival 18 = .ok (.bipush (-6), 2) := by decide +kernel
theorem dX11_rival_20 : decode cX11_rival 20 = .ok (.goto 10, 3) := by decide +kernel
theorem dX11_rival_23 : decode cX11_rival 23 = .ok (.aload_n 0, 1) := by decide +kernel
theorem dX11_rival_24 : decode cX11_rival 24 = .ok (.iload_n 3, 1) := by decide +kernel
theorem dX11_rival_25 : decode cX11_rival 25 = .ok (.iload_n 1, 1) := by decide +kernel
theorem dX11_rival_26 : decode cX11_rival 26 = .ok (.iload_n 2, 1) := by decide +kernel
theorem dX11_rival_27 : decode cX11_rival 27 = .ok (.invokevirtual 213, 3) := by decide +kernel
theorem dX11_rival_30 : decode cX11_rival 30 = .ok (.ireturn, 1) := by decide +kernel
theorem dX11_isPrice_0 : decode cX11_isPrice 0 = .ok (.iload_n 0, 1) := by decide +kernel
theorem dX11_isPrice_1 : decode cX11_isPrice 1 = .ok (.iconst 1, 1) := by decide +kernel
theorem dX11_isPrice_2 : decode cX11_isPrice 2 = .ok (.sipush 1000, 3) := by decide +kernel
theorem dX11_isPrice_5 : decode cX11_isPrice 5 = .ok (.invokestatic 94, 3) := by decide +kernel
theorem dX11_isPrice_8 : decode cX11_isPrice 8 = .ok (.ireturn, 1) := by decide +kernel
theorem dX11_engage_0 : decode cX11_engage 0 = .ok (.iload_n 1, 1) := by decide +kernel
theorem dX11_engage_1 : decode cX11_engage 1 = .ok (.iconst 0, 1) := by decide +kernel
theorem dX11_engage_2 : decode cX11_engage 2 = .ok (.bipush 9, 2) := by decide +kernel
theorem dX11_engage_4 : decode cX11_engage 4 = .ok (.invokestatic 94, 3) := by decide +kernel
theorem dX11_engage_7 : decode cX11_engage 7 = .ok (.ifCond .eq 15, 3) := by decide +kernel
theorem dX11_engage_10 : decode cX11_engage 10 = .ok (.iload_n 2, 1) := by decide +kernel
theorem dX11_engage_11 : decode cX11_engage 11 = .ok (.iconst (-1), 1) := by decide +kernel
theorem dX11_engage_12 : decode cX11_engage 12 = .ok (.if_icmp .eq 12, 3) := by decide +kernel
theorem dX11_engage_15 : decode cX11_engage 15 = .ok (.iload_n 2, 1) := by decide +kernel
theorem dX11_engage_16 : decode cX11_engage 16 = .ok (.invokestatic 133, 3) := by decide +kernel
theorem dX11_engage_19 : decode cX11_engage 19 = .ok (.ifCond .ne 5, 3) := by decide +kernel
theorem dX11_engage_22 : decode cX11_engage 22 = .ok (.iconst (-1), 1) := by decide +kernel
theorem dX11_engage_23 : decode cX11_engage 23 = .ok (.ireturn, 1) := by decide +kernel
theorem dX11_engage_24 : decode cX11_engage 24 = .ok (.iload_n 3, 1) := by decide +kernel
theorem dX11_engage_25 : decode cX11_engage 25 = .ok (.iconst 0, 1) := by decide +kernel
theorem dX11_engage_26 : decode cX11_engage 26 = .ok (.bipush 50, 2) := by decide +kernel
theorem dX11_engage_28 : decode cX11_engage 28 = .ok (.invokestatic 94, 3) := by decide +kernel
theorem dX11_engage_31 : decode cX11_engage 31 = .ok (.ifCond .eq 11, 3) := by decide +kernel
theorem dX11_engage_34 : decode cX11_engage 34 = .ok (.iload 4, 2) := by decide +kernel
theorem dX11_engage_36 : decode cX11_engage 36 = .ok (.invokestatic 220, 3) := by decide +kernel
theorem dX11_engage_39 : decode cX11_engage 39 = .ok (.ifCond .ne 6, 3) := by decide +kernel
theorem dX11_engage_42 : decode cX11_engage 42 = .ok (.bipush (-2), 2) := by decide +kernel
theorem dX11_engage_44 : decode cX11_engage 44 = .ok (.ireturn, 1) := by decide +kernel
theorem dX11_engage_45 : decode cX11_engage 45 = .ok (.aload_n 0, 1) := by decide +kernel
theorem dX11_engage_46 : decode cX11_engage 46 = .ok (.getfield 40, 3) := by decide +kernel
theorem dX11_engage_49 : decode cX11_engage 49 = .ok (.iload_n 1, 1) := by decide +kernel
theorem dX11_engage_50 : decode cX11_engage 50 = .ok (.iload_n 2, 1) := by decide +kernel
theorem dX11_engage_51 : decode cX11_engage 51 = .ok (.iastore, 1) := by decide +kernel
theorem dX11_engage_52 : decode cX11_engage 52 = .ok (.aload_n 0, 1) := by decide +kernel
theorem dX11_engage_53 : decode cX11_engage 53 = .ok (.getfield 43, 3) := by decide +kernel
theorem dX11_engage_56 : decode cX11_engage 56 = .ok (.iload_n 1, 1) := by decide +kernel
theorem dX11_engage_57 : decode cX11_engage 57 = .ok (.iload_n 3, 1) := by decide +kernel
theorem dX11_engage_58 : decode cX11_engage 58 = .ok (.iastore, 1) := by decide +kernel
theorem dX11_engage_59 : decode cX11_engage 59 = .ok (.aload_n 0, 1) := by decide +kernel
theorem dX11_engage_60 : decode cX11_engage 60 = .ok (.getfield 46, 3) := by decide +kernel
theorem dX11_engage_63 : decode cX11_engage 63 = .ok (.iload_n 1, 1) := by decide +kernel
theorem dX11_engage_64 : decode cX11_engage 64 = .ok (.iload 4, 2) := by decide +kernel
theorem dX11_engage_66 : decode cX11_engage 66 = .ok (.iastore, 1) := by decide +kernel
theorem dX11_engage_67 : decode cX11_engage 67 = .ok (.iconst 1, 1) := by decide +kernel
theorem dX11_engage_68 : decode cX11_engage 68 = .ok (.ireturn, 1) := by decide +kernel
theorem dX11_free_0 : decode cX11_free 0 = .ok (.iload_n 1, 1) := by decide +kernel
theorem dX11_free_1 : decode cX11_free 1 = .ok (.invokestatic 110, 3) := by decide +kernel
theorem dX11_free_4 : decode cX11_free 4 = .ok (.ifCond .eq 17, 3) := by decide +kernel
theorem dX11_free_7 : decode cX11_free 7 = .ok (.iload_n 2, 1) := by decide +kernel
theorem dX11_free_8 : decode cX11_free 8 = .ok (.invokestatic 220, 3) := by decide +kernel
theorem dX11_free_11 : decode cX11_free 11 = .ok (.ifCond .eq 10, 3) := by decide +kernel
theorem dX11_free_14 : decode cX11_free 14 = .ok (.iload_n 3, 1) := by decide +kernel
theorem dX11_free_15 : decode cX11_free 15 = .ok (.invokestatic 110, 3) := by decide +kernel
theorem dX11_free_18 : decode cX11_free 18 = .ok (.ifCond .ne 6, 3) := by decide +kernel
theorem dX11_free_21 : decode cX11_free 21 = .ok (.bipush (-2), 2) := by decide +kernel
theorem dX11_free_23 : decode cX11_free 23 = .ok (.ireturn, 1) := by decide +kernel
theorem dX11_free_24 : decode cX11_free 24 = .ok (.aload_n 0, 1) := by decide +kernel
theorem dX11_free_25 : decode cX11_free 25 = .ok (.getfield 223, 3) := by decide +kernel
theorem dX11_free_28 : decode cX11_free 28 = .ok (.bipush 60, 2) := by decide +kernel
theorem dX11_free_30 : decode cX11_free 30 = .ok (.if_icmp .ne 6, 3) := by decide +kernel
theorem dX11_free_33 : decode cX11_free 33 = .ok (.bipush (-4), 2) := by decide +kernel
theorem dX11_free_35 : decode cX11_free 35 = .ok (.ireturn, 1) := by decide +kernel
theorem dX11_free_36 : decode cX11_free 36 = .ok (.aload_n 0, 1) := by decide +kernel
theorem dX11_free_37 : decode cX11_free 37 = .ok (.getfield 49, 3) := by decide +kernel
theorem dX11_free_40 : decode cX11_free 40 = .ok (.aload_n 0, 1) := by decide +kernel
theorem dX11_free_41 : decode cX11_free 41 = .ok (.getfield 223, 3) := by decide +kernel
theorem dX11_free_44 : decode cX11_free 44 = .ok (.iload_n 1, 1) := by decide +kernel
theorem dX11_free_45 : decode cX11_free 45 = .ok (.iastore, 1) := by decide +kernel
theorem dX11_free_46 : decode cX11_free 46 = .ok (.aload_n 0, 1) := by decide +kernel
theorem dX11_free_47 : decode cX11_free 47 = .ok (.getfield 52, 3) := by decide +kernel
theorem dX11_free_50 : decode cX11_free 50 = .ok (.aload_n 0, 1) := by decide +kernel
theorem dX11_free_51 : decode cX11_free 51 = .ok (.getfield 223, 3) := by decide +kernel
theorem dX11_free_54 : decode cX11_free 54 = .ok (.iload_n 2, 1) := by decide +kernel
theorem dX11_free_55 : decode cX11_free 55 = .ok (.iastore, 1) := by decide +kernel
theorem dX11_free_56 : decode cX11_free 56 = .ok (.aload_n 0, 1) := by decide +kernel
theorem dX11_free_57 : decode cX11_free 57 = .ok (.getfield 55, 3) := by decide +kernel
theorem dX11_free_60 : decode cX11_free 60 = .ok (.aload_n 0, 1) := by decide +kernel
theorem dX11_free_61 : decode cX11_free 61 = .ok (.getfield 223, 3) := by decide +kernel
theorem dX11_free_64 : decode cX11_free 64 = .ok (.iload_n 3, 1) := by decide +kernel
theorem dX11_free_65 : decode cX11_free 65 = .ok (.iastore, 1) := by decide +kernel
theorem dX11_free_66 : decode cX11_free 66 = .ok (.aload_n 0, 1) := by decide +kernel
theorem dX11_free_67 : decode cX11_free 67 = .ok (.dup, 1) := by decide +kernel
theorem dX11_free_68 : decode cX11_free 68 = .ok (.getfield 223, 3) := by decide +kernel
theorem dX11_free_71 : decode cX11_free 71 = .ok (.iconst 1, 1) := by decide +kernel
theorem dX11_free_72 : decode cX11_free 72 = .ok (.iadd, 1) := by decide +kernel
theorem dX11_free_73 : decode cX11_free 73 = .ok (.putfield 223, 3) := by decide +kernel
theorem dX11_free_76 : decode cX11_free 76 = .ok (.aload_n 0, 1) := by decide +kernel
theorem dX11_free_77 : decode cX11_free 77 = .ok (.getfield 223, 3) := by decide +kernel
theorem dX11_free_80 : decode cX11_free 80 = .ok (.ireturn, 1) := by decide +kernel
theorem dX11_freeAt_0 : decode cX11_freeAt 0 = .ok (.bipush (-6), 2) := by decide +kernel
theorem dX11_freeAt_2 : decode cX11_freeAt 2 = .ok (.istore_n 3, 1) := by decide +kernel
theorem dX11_freeAt_3 : decode cX11_freeAt 3 = .ok (.iconst 0, 1) := by decide +kernel
theorem dX11_freeAt_4 : decode cX11_freeAt 4 = .ok (.istore 4, 2) := by decide +kernel
theorem dX11_freeAt_6 : decode cX11_freeAt 6 = .ok (.iload 4, 2) := by decide +kernel
theorem dX11_freeAt_8 : decode cX11_freeAt 8 = .ok (.aload_n 0, 1) := by decide +kernel
theorem dX11_freeAt_9 : decode cX11_freeAt 9 = .ok (.getfield 223, 3) := by decide +kernel
theorem dX11_freeAt_12 : decode cX11_freeAt 12 = .ok (.if_icmp .ge 70, 3) := by decide +kernel
theorem dX11_freeAt_15 : decode cX11_freeAt 15 = .ok (.aload_n 0, 1) := by decide +kernel
theorem dX11_freeAt_16 : decode cX11_freeAt 16 = .ok (.getfield 55, 3) := by decide +kernel
theorem dX11_freeAt_19 : decode cX11_freeAt 19 = .ok (.iload 4, 2) := by decide +kernel
theorem dX11_freeAt_21 : decode cX11_freeAt 21 = .ok (.iaload, 1) := by decide +kernel
theorem dX11_freeAt_22 : decode cX11_freeAt 22 = .ok (.iload_n 2, 1) := by decide +kernel
theorem dX11_freeAt_23 : decode cX11_freeAt 23 = .ok (.if_icmp .gt 18, 3) := by decide +kernel
theorem dX11_freeAt_26 : decode cX11_freeAt 26 = .ok (.aload_n 0, 1) := by decide +kernel
theorem dX11_freeAt_27 : decode cX11_freeAt 27 = .ok (.getfield 49, 3) := by decide +kernel
theorem dX11_freeAt_30 : decode cX11_freeAt 30 = .ok (.iload 4, 2) := by decide +kernel
theorem dX11_freeAt_32 : decode cX11_freeAt 32 = .ok (.iaload, 1) := by decide +kernel
theorem dX11_freeAt_33 : decode cX11_freeAt 33 = .ok (.iload_n 1, 1) := by decide +kernel
theorem dX11_freeAt_34 : decode cX11_freeAt 34 = .ok (.if_icmp .gt 7, 3) := by decide +kernel
theorem dX11_freeAt_37 : decode cX11_freeAt 37 = .ok (.iconst 1, 1) := by decide +kernel
theorem dX11_freeAt_38 : decode cX11_freeAt 38 = .ok (.goto 4, 3) := by decide +kernel
theorem dX11_freeAt_41 : decode cX11_freeAt 41 = .ok (.iconst 0, 1) := by decide +kernel
theorem dX11_freeAt_42 : decode cX11_freeAt 42 = .ok (.istore 5, 2) := by decide +kernel
theorem dX11_freeAt_44 : decode cX11_freeAt 44 = .ok (.iload 5, 2) := by decide +kernel
theorem dX11_freeAt_46 : decode cX11_freeAt 46 = .ok (.ifCond .eq 28, 3) := by decide +kernel
theorem dX11_freeAt_49 : decode cX11_freeAt 49 = .ok (.iload_n 3, 1) := by decide +kernel
theorem dX11_freeAt_50 : decode cX11_freeAt 50 = .ok (.ifCond .lt 19, 3) := by decide +kernel
theorem dX11_freeAt_53 : decode cX11_freeAt 53 = .ok (.aload_n 0, 1) := by decide +kernel
theorem dX11_freeAt_54 : decode cX11_freeAt 54 = .ok (.getfield 49, 3) := by decide +kernel
theorem dX11_freeAt_57 : decode cX11_freeAt 57 = .ok (.iload 4, 2) := by decide +kernel
theorem dX11_freeAt_59 : decode cX11_freeAt 59 = .ok (.iaload, 1) := by decide +kernel
theorem dX11_freeAt_60 : decode cX11_freeAt 60 = .ok (.aload_n 0, 1) := by decide +kernel
theorem dX11_freeAt_61 : decode cX11_freeAt 61 = .ok (.getfield 49, 3) := by decide +kernel
theorem dX11_freeAt_64 : decode cX11_freeAt 64 = .ok (.iload_n 3, 1) := by decide +kernel
theorem dX11_freeAt_65 : decode cX11_freeAt 65 = .ok (.iaload, 1) := by decide +kernel
theorem dX11_freeAt_66 : decode cX11_freeAt 66 = .ok (.if_icmp .lt 8, 3) := by decide +kernel
theorem dX11_freeAt_69 : decode cX11_freeAt 69 = .ok (.iload 4, 2) := by decide +kernel
theorem dX11_freeAt_71 : decode cX11_freeAt 71 = .ok (.goto 4, 3) := by decide +kernel
theorem dX11_freeAt_74 : decode cX11_freeAt 74 = .ok (.iload_n 3, 1) := by decide +kernel
theorem dX11_freeAt_75 : decode cX11_freeAt 75 = .ok (.istore_n 3, 1) := by decide +kernel
theorem dX11_freeAt_76 : decode cX11_freeAt 76 = .ok (.iinc 4 1, 3) := by decide +kernel
theorem dX11_freeAt_79 : decode cX11_freeAt 79 = .ok (.goto (-73), 3) := by decide +kernel
theorem dX11_freeAt_82 : decode cX11_freeAt 82 = .ok (.iload_n 3, 1) := by decide +kernel
theorem dX11_freeAt_83 : decode cX11_freeAt 83 = .ok (.ifCond .ge 8, 3) := by decide +kernel
theorem dX11_freeAt_86 : decode cX11_freeAt 86 = .ok (.bipush 10, 2) := by decide +kernel
theorem dX11_freeAt_88 : decode cX11_freeAt 88 = .ok (.goto 9, 3) := by decide +kernel
theorem dX11_freeAt_91 : decode cX11_freeAt 91 = .ok (.aload_n 0, 1) := by decide +kernel
theorem dX11_freeAt_92 : decode cX11_freeAt 92 = .ok (.getfield 52, 3) := by decide +kernel
theorem dX11_freeAt_95 : decode cX11_freeAt 95 = .ok (.iload_n 3, 1) := by decide +kernel
theorem dX11_freeAt_96 : decode cX11_freeAt 96 = .ok (.iaload, 1) := by decide +kernel
theorem dX11_freeAt_97 : decode cX11_freeAt 97 = .ok (.ireturn, 1) := by decide +kernel
theorem dX11_freeOn_0 : decode cX11_freeOn 0 = .ok (.iload_n 1, 1) := by decide +kernel
theorem dX11_freeOn_1 : decode cX11_freeOn 1 = .ok (.invokestatic 110, 3) := by decide +kernel
theorem dX11_freeOn_4 : decode cX11_freeOn 4 = .ok (.ifCond .eq 19, 3) := by decide +kernel
theorem dX11_freeOn_7 : decode cX11_freeOn 7 = .ok (.iload_n 2, 1) := by decide +kernel
theorem dX11_freeOn_8 : decode cX11_freeOn 8 = .ok (.invokestatic 110, 3) := by decide +kernel
theorem dX11_freeOn_11 : decode cX11_freeOn 11 = .ok (.ifCond .eq 12, 3) := by decide +kernel
theorem dX11_freeOn_14 : decode cX11_freeOn 14 = .ok (.aload_n 0, 1) := by decide +kernel
theorem dX11_freeOn_15 : decode cX11_freeOn 15 = .ok (.iload_n 1, 1) := by decide +kernel
theorem dX11_freeOn_16 : decode cX11_freeOn 16 = .ok (.iload_n 2, 1) := by decide +kernel
theorem dX11_freeOn_17 : decode cX11_freeOn 17 = .ok (.invokevirtual 226, 3) := by decide +kernel
theorem dX11_freeOn_20 : decode cX11_freeOn 20 = .ok (.goto 5, 3) := by decide +kernel
theorem dX11_freeOn_23 : decode cX11_freeOn 23 = .ok (.bipush (-2), 2) := by decide +kernel
theorem dX11_freeOn_25 : decode cX11_freeOn 25 = .ok (.ireturn, 1) := by decide +kernel
theorem dX11_layCost_0 : decode cX11_layCost 0 = .ok (.aload_n 0, 1) := by decide +kernel
theorem dX11_layCost_1 : decode cX11_layCost 1 = .ok (.iconst 0, 1) := by decide +kernel
theorem dX11_layCost_2 : decode cX11_layCost 2 = .ok (.putfield 229, 3) := by decide +kernel
theorem dX11_layCost_5 : decode cX11_layCost 5 = .ok (.aload_n 0, 1) := by decide +kernel
theorem dX11_layCost_6 : decode cX11_layCost 6 = .ok (.iconst 0, 1) := by decide +kernel
theorem dX11_layCost_7 : decode cX11_layCost 7 = .ok (.putfield 232, 3) := by decide +kernel
theorem dX11_layCost_10 : decode cX11_layCost 10 = .ok (.aload_n 0, 1) := by decide +kernel
theorem dX11_layCost_11 : decode cX11_layCost 11 = .ok (.iconst 0, 1) := by decide +kernel
theorem dX11_layCost_12 : decode cX11_layCost 12 = .ok (.putfield 235, 3) := by decide +kernel
theorem dX11_layCost_15 : decode cX11_layCost 15 = .ok (.aload_n 0, 1) := by decide +kernel
theorem dX11_layCost_16 : decode cX11_layCost 16 = .ok (.getfield 40, 3) := by decide +kernel
theorem dX11_layCost_19 : decode cX11_layCost 19 = .ok (.iload_n 1, 1) := by decide +kernel
theorem dX11_layCost_20 : decode cX11_layCost 20 = .ok (.iaload, 1) := by decide +kernel
theorem dX11_layCost_21 : decode cX11_layCost 21 = .ok (.iload_n 2, 1) := by decide +kernel
theorem dX11_layCost_22 : decode cX11_layCost 22 = .ok (.if_icmp .ne 19, 3) := by decide +kernel
theorem dX11_layCost_25 : decode cX11_layCost 25 = .ok (.aload_n 0, 1) := by decide +kernel
theorem dX11_layCost_26 : decode cX11_layCost 26 = .ok (.getfield 43, 3) := by decide +kernel
theorem dX11_layCost_29 : decode cX11_layCost 29 = .ok (.iload_n 1, 1) := by decide +kernel
theorem dX11_layCost_30 : decode cX11_layCost 30 = .ok (.iaload, 1) := by decide +kernel
theorem dX11_layCost_31 : decode cX11_layCost 31 = .ok (.aload_n 0, 1) := by decide +kernel
theorem dX11_layCost_32 : decode cX11_layCost 32 = .ok (.getfield 28, 3) := by decide +kernel
theorem dX11_layCost_35 : decode cX11_layCost 35 = .ok (.iconst 4, 1) := by decide +kernel
theorem dX11_layCost_36 : decode cX11_layCost 36 = .ok (.iaload, 1) := by decide +kernel
theorem dX11_layCost_37 : decode cX11_layCost 37 = .ok (.imul, 1) := by decide +kernel
theorem dX11_layCost_38 : decode cX11_layCost 38 = .ok (.goto 4, 3) := by decide +kernel
theorem dX11_layCost_41 : decode cX11_layCost 41 = .ok (.iconst 0, 1) := by decide +kernel
theorem dX11_layCost_42 : decode cX11_layCost 42 = .ok (.istore 4, 2) := by decide +kernel
theorem dX11_layCost_44 : decode cX11_layCost 44 = .ok (.iconst 0, 1) := by decide +kernel
theorem dX11_layCost_45 : decode cX11_layCost 45 = .ok (.istore 5, 2) := by decide +kernel
theorem dX11_layCost_47 : decode cX11_layCost 47 = .ok (.iload 5, 2) := by decide +kernel
theorem dX11_layCost_49 : decode cX11_layCost 49 = .ok (.sipush 2000, 3) := by decide +kernel
theorem dX11_layCost_52 : decode cX11_layCost 52 = .ok (.if_icmp .gt 196, 3) := by decide +kernel
theorem dX11_layCost_55 : decode cX11_layCost 55 = .ok (.iconst 0, 1) := by decide +kernel
theorem dX11_layCost_56 : decode cX11_layCost 56 = .ok (.istore 6, 2) := by decide +kernel
theorem dX11_layCost_58 : decode cX11_layCost 58 = .ok (.iload 6, 2) := by decide +kernel
theorem dX11_layCost_60 : decode cX11_layCost 60 = .ok (.aload_n 0, 1) := by decide +kernel
theorem dX11_layCost_61 : decode cX11_layCost 61 = .ok (.getfield 136, 3) := by decide +kernel
theorem dX11_layCost_64 : decode cX11_layCost 64 = .ok (.if_icmp .ge 178, 3) := by decide +kernel
theorem dX11_layCost_67 : decode cX11_layCost 67 = .ok (.aload_n 0, 1) := by decide +kernel
theorem dX11_layCost_68 : decode cX11_layCost 68 = .ok (.getfield 31, 3) := by decide +kernel
theorem dX11_layCost_71 : decode cX11_layCost 71 = .ok (.bipush 7, 2) := by decide +kernel
theorem dX11_layCost_73 : decode cX11_layCost 73 = .ok (.iload 6, 2) := by decide +kernel
theorem dX11_layCost_75 : decode cX11_layCost 75 = .ok (.imul, 1) := by decide +kernel
theorem dX11_layCost_76 : decode cX11_layCost 76 = .ok (.iaload, 1) := by decide +kernel
theorem dX11_layCost_77 : decode cX11_layCost 77 = .ok (.iload_n 1, 1) := by decide +kernel
theorem dX11_layCost_78 : decode cX11_layCost 78 = .ok (.if_icmp .ne 158, 3) := by decide +kernel
theorem dX11_layCost_81 : decode cX11_layCost 81 = .ok (.aload_n 0, 1) := by decide +kernel
theorem dX11_layCost_82 : decode cX11_layCost 82 = .ok (.getfield 31, 3) := by decide +kernel
theorem dX11_layCost_85 : decode cX11_layCost 85 = .ok (.bipush 7, 2) := by decide +kernel
theorem dX11_layCost_87 : decode cX11_layCost 87 = .ok (.iload 6, 2) := by decide +kernel
theorem dX11_layCost_89 : decode cX11_layCost 89 = .ok (.imul, 1) := by decide +kernel
theorem dX11_layCost_90 : decode cX11_layCost 90 = .ok (.iconst 1, 1) := by decide +kernel
theorem dX11_layCost_91 : decode cX11_layCost 91 = .ok (.iadd, 1) := by decide +kernel
theorem dX11_layCost_92 : decode cX11_layCost 92 = .ok (.iaload, 1) := by decide +kernel
theorem dX11_layCost_93 : decode cX11_layCost 93 = .ok (.iload_n 2, 1) := by decide +kernel
theorem dX11_layCost_94 : decode cX11_layCost 94 = .ok (.if_icmp .ne 142, 3) := by decide +kernel
theorem dX11_layCost_97 : decode cX11_layCost 97 = .ok (.aload_n 0, 1) := by decide +kernel
theorem dX11_layCost_98 : decode cX11_layCost 98 = .ok (.getfield 31, 3) := by decide +kernel
theorem dX11_layCost_101 : decode cX11_layCost 101 = .ok (.bipush 7, 2) := by decide +kernel
theorem dX11_layCost_103 : decode cX11_layCost 103 = .ok (.iload 6, 2) := by decide +kernel
theorem dX11_layCost_105 : decode cX11_layCost 105 = .ok (.imul, 1) := by decide +kernel
theorem dX11_layCost_106 : decode cX11_layCost 106 = .ok (.iconst 2, 1) := by decide +kernel
theorem dX11_layCost_107 : decode cX11_layCost 107 = .ok (.iadd, 1) := by decide +kernel
theorem dX11_layCost_108 : decode cX11_layCost 108 = .ok (.iaload, 1) := by decide +kernel
theorem dX11_layCost_109 : decode cX11_layCost 109 = .ok (.iload 5, 2) := by decide +kernel
theorem dX11_layCost_111 : decode cX11_layCost 111 = .ok (.if_icmp .ne 125, 3) := by decide +kernel
theorem dX11_layCost_114 : decode cX11_layCost 114 = .ok (.aload_n 0, 1) := by decide +kernel
theorem dX11_layCost_115 : decode cX11_layCost 115 = .ok (.getfield 31, 3) := by decide +kernel
theorem dX11_layCost_118 : decode cX11_layCost 118 = .ok (.bipush 7, 2) := by decide +kernel
theorem dX11_layCost_120 : decode cX11_layCost 120 = .ok (.iload 6, 2) := by decide +kernel
theorem dX11_layCost_122 : decode cX11_layCost 122 = .ok (.imul, 1) := by decide +kernel
theorem dX11_layCost_123 : decode cX11_layCost 123 = .ok (.iconst 3, 1) := by decide +kernel
theorem dX11_layCost_124 : decode cX11_layCost 124 = .ok (.iadd, 1) := by decide +kernel
theorem dX11_layCost_125 : decode cX11_layCost 125 = .ok (.iaload, 1) := by decide +kernel
theorem dX11_layCost_126 : decode cX11_layCost 126 = .ok (.istore 7, 2) := by decide +kernel
theorem dX11_layCost_128 : decode cX11_layCost 128 = .ok (.aload_n 0, 1) := by decide +kernel
theorem dX11_layCost_129 : decode cX11_layCost 129 = .ok (.iload 5, 2) := by decide +kernel
theorem dX11_layCost_131 : decode cX11_layCost 131 = .ok (.bipush 24, 2) := by decide +kernel
theorem dX11_layCost_133 : decode cX11_layCost 133 = .ok (.idiv, 1) := by decide +kernel
theorem dX11_layCost_134 : decode cX11_layCost 134 = .ok (.iload_n 3, 1) := by decide +kernel
theorem dX11_layCost_135 : decode cX11_layCost 135 = .ok (.invokevirtual 226, 3) := by decide +kernel
theorem dX11_layCost_138 : decode cX11_layCost 138 = .ok (.istore 8, 2) := by decide +kernel
theorem dX11_layCost_140 : decode cX11_layCost 140 = .ok (.iload 7, 2) := by decide +kernel
theorem dX11_layCost_142 : decode cX11_layCost 142 = .ok (.iload 4, 2) := by decide +kernel
theorem dX11_layCost_144 : decode cX11_layCost 144 = .ok (.if_icmp .ge 8, 3) := by decide +kernel
theorem dX11_layCost_147 : decode cX11_layCost 147 = .ok (.iload 7, 2) := by decide +kernel
theorem dX11_layCost_149 : decode cX11_layCost 149 = .ok (.goto 5, 3) := by decide +kernel
theorem dX11_layCost_152 : decode cX11_layCost 152 = .ok (.iload 4, 2) := by decide +kernel
theorem dX11_layCost_154 : decode cX11_layCost 154 = .ok (.istore 9, 2) := by decide +kernel
theorem dX11_layCost_156 : decode cX11_layCost 156 = .ok (.iload 4, 2) := by decide +kernel
theorem dX11_layCost_158 : decode cX11_layCost 158 = .ok (.iload 9, 2) := by decide +kernel
theorem dX11_layCost_160 : decode cX11_layCost 160 = .ok (.isub, 1) := by decide +kernel
theorem dX11_layCost_161 : decode cX11_layCost 161 = .ok (.istore 4, 2) := by decide +kernel
theorem dX11_layCost_163 : decode cX11_layCost 163 = .ok (.aload_n 0, 1) := by decide +kernel
theorem dX11_layCost_164 : decode cX11_layCost 164 = .ok (.dup, 1) := by decide +kernel
theorem dX11_layCost_165 : decode cX11_layCost 165 = .ok (.getfield 229, 3) := by decide +kernel
theorem dX11_layCost_168 : decode cX11_layCost 168 = .ok (.iload 9, 2) := by decide +kernel
theorem dX11_layCost_170 : decode cX11_layCost 170 = .ok (.aload_n 0, 1) := by decide +kernel
theorem dX11_layCost_171 : decode cX11_layCost 171 = .ok (.getfield 46, 3) := by decide +kernel
theorem dX11_layCost_174 : decode cX11_layCost 174 = .ok (.iload_n 1, 1) := by decide +kernel
theorem dX11_layCost_175 : decode cX11_layCost 175 = .ok (.iaload, 1) := by decide +kernel
theorem dX11_layCost_176 : decode cX11_layCost 176 = .ok (.imul, 1) := by decide +kernel
theorem dX11_layCost_177 : decode cX11_layCost 177 = .ok (.aload_n 0, 1) := by decide +kernel
theorem dX11_layCost_178 : decode cX11_layCost 178 = .ok (.getfield 28, 3) := by decide +kernel
theorem dX11_layCost_181 : decode cX11_layCost 181 = .ok (.iconst 4, 1) := by decide +kernel
theorem dX11_layCost_182 : decode cX11_layCost 182 = .ok (.iaload, 1) := by decide +kernel
theorem dX11_layCost_183 : decode cX11_layCost 183 = .ok (.idiv, 1) := by decide +kernel
theorem dX11_layCost_184 : decode cX11_layCost 184 = .ok (.iload 7, 2) := by decide +kernel
theorem dX11_layCost_186 : decode cX11_layCost 186 = .ok (.iload 9, 2) := by decide +kernel
theorem dX11_layCost_188 : decode cX11_layCost 188 = .ok (.isub, 1) := by decide +kernel
theorem dX11_layCost_189 : decode cX11_layCost 189 = .ok (.iload 8, 2) := by decide +kernel
theorem dX11_layCost_191 : decode cX11_layCost 191 = .ok (.imul, 1) := by decide +kernel
theorem dX11_layCost_192 : decode cX11_layCost 192 = .ok (.aload_n 0, 1) := by decide +kernel
theorem dX11_layCost_193 : decode cX11_layCost 193 = .ok (.getfield 28, 3) := by decide +kernel
theorem dX11_layCost_196 : decode cX11_layCost 196 = .ok (.iconst 4, 1) := by decide +kernel
theorem dX11_layCost_197 : decode cX11_layCost 197 = .ok (.iaload, 1) := by decide +kernel
theorem dX11_layCost_198 : decode cX11_layCost 198 = .ok (.idiv, 1) := by decide +kernel
theorem dX11_layCost_199 : decode cX11_layCost 199 = .ok (.iadd, 1) := by decide +kernel
theorem dX11_layCost_200 : decode cX11_layCost 200 = .ok (.iadd, 1) := by decide +kernel
theorem dX11_layCost_201 : decode cX11_layCost 201 = .ok (.putfield 229, 3) := by decide +kernel
theorem dX11_layCost_204 : decode cX11_layCost 204 = .ok (.aload_n 0, 1) := by decide +kernel
theorem dX11_layCost_205 : decode cX11_layCost 205 = .ok (.dup, 1) := by decide +kernel
theorem dX11_layCost_206 : decode cX11_layCost 206 = .ok (.getfield 232, 3) := by decide +kernel
theorem dX11_layCost_209 : decode cX11_layCost 209 = .ok (.iload 7, 2) := by decide +kernel
theorem dX11_layCost_211 : decode cX11_layCost 211 = .ok (.iload 8, 2) := by decide +kernel
theorem dX11_layCost_213 : decode cX11_layCost 213 = .ok (.imul, 1) := by decide +kernel
theorem dX11_layCost_214 : decode cX11_layCost 214 = .ok (.aload_n 0, 1) := by decide +kernel
theorem dX11_layCost_215 : decode cX11_layCost 215 = .ok (.getfield 28, 3) := by decide +kernel
theorem dX11_layCost_218 : decode cX11_layCost 218 = .ok (.iconst 4, 1) := by decide +kernel
theorem dX11_layCost_219 : decode cX11_layCost 219 = .ok (.iaload, 1) := by decide +kernel
theorem dX11_layCost_220 : decode cX11_layCost 220 = .ok (.idiv, 1) := by decide +kernel
theorem dX11_layCost_221 : decode cX11_layCost 221 = .ok (.iadd, 1) := by decide +kernel
theorem dX11_layCost_222 : decode cX11_layCost 222 = .ok (.putfield 232, 3) := by decide +kernel
theorem dX11_layCost_225 : decode cX11_layCost 225 = .ok (.aload_n 0, 1) := by decide +kernel
theorem dX11_layCost_226 : decode cX11_layCost 226 = .ok (.dup, 1) := by decide +kernel
theorem dX11_layCost_227 : decode cX11_layCost 227 = .ok (.getfield 235, 3) := by decide +kernel
theorem dX11_layCost_230 : decode cX11_layCost 230 = .ok (.iload 7, 2) := by decide +kernel
theorem dX11_layCost_232 : decode cX11_layCost 232 = .ok (.iadd, 1) := by decide +kernel
theorem dX11_layCost_233 : decode cX11_layCost 233 = .ok (.putfield 235, 3) := by decide +kernel
theorem dX11_layCost_236 : decode cX11_layCost 236 = .ok (.iinc 6 1, 3) := by decide +kernel
theorem dX11_layCost_239 : decode cX11_layCost 239 = .ok (.goto (-181), 3) := by decide +kernel
theorem dX11_layCost_242 : decode cX11_layCost 242 = .ok (.iinc 5 1, 3) := by decide +kernel
theorem dX11_layCost_245 : decode cX11_layCost 245 = .ok (.goto (-198), 3) := by decide +kernel
theorem dX11_layCost_248 : decode cX11_layCost 248 = .ok (.return_, 1) := by decide +kernel
theorem dX11_cost_0 : decode cX11_cost 0 = .ok (.iload_n 1, 1) := by decide +kernel
theorem dX11_cost_1 : decode cX11_cost 1 = .ok (.iconst 0, 1) := by decide +kernel
theorem dX11_cost_2 : decode cX11_cost 2 = .ok (.bipush 9, 2) := by decide +kernel
theorem dX11_cost_4 : decode cX11_cost 4 = .ok (.invokestatic 94, 3) := by decide +kernel
theorem dX11_cost_7 : decode cX11_cost 7 = .ok (.ifCond .eq 10, 3) := by decide +kernel
theorem dX11_cost_10 : decode cX11_cost 10 = .ok (.iload_n 2, 1) := by decide +kernel
theorem dX11_cost_11 : decode cX11_cost 11 = .ok (.invokestatic 133, 3) := by decide +kernel
theorem dX11_cost_14 : decode cX11_cost 14 = .ok (.ifCond .ne 5, 3) := by decide +kernel
theorem dX11_cost_17 : decode cX11_cost 17 = .ok (.iconst (-1), 1) := by decide +kernel
theorem dX11_cost_18 : decode cX11_cost 18 = .ok (.ireturn, 1) := by decide +kernel
theorem dX11_cost_19 : decode cX11_cost 19 = .ok (.iload_n 3, 1) := by decide +kernel
theorem dX11_cost_20 : decode cX11_cost 20 = .ok (.invokestatic 110, 3) := by decide +kernel
theorem dX11_cost_23 : decode cX11_cost 23 = .ok (.ifCond .eq 13, 3) := by decide +kernel
theorem dX11_cost_26 : decode cX11_cost 26 = .ok (.iload 4, 2) := by decide +kernel
theorem dX11_cost_28 : decode cX11_cost 28 = .ok (.iconst 0, 1) := by decide +kernel
theorem dX11_cost_29 : decode cX11_cost 29 = .ok (.iconst 2, 1) := by decide +kernel
theorem dX11_cost_30 : decode cX11_cost 30 = .ok (.invokestatic 94, 3) := by decide +kernel
theorem dX11_cost_33 : decode cX11_cost 33 = .ok (.ifCond .ne 6, 3) := by decide +kernel
theorem dX11_cost_36 : decode cX11_cost 36 = .ok (.bipush (-2), 2) := by decide +kernel
theorem dX11_cost_38 : decode cX11_cost 38 = .ok (.ireturn, 1) := by decide +kernel
theorem dX11_cost_39 : decode cX11_cost 39 = .ok (.aload_n 0, 1) := by decide +kernel
theorem dX11_cost_40 : decode cX11_cost 40 = .ok (.iload_n 1, 1) := by decide +kernel
theorem dX11_cost_41 : decode cX11_cost 41 = .ok (.iload_n 2, 1) := by decide +kernel
theorem dX11_cost_42 : decode cX11_cost 42 = .ok (.iload_n 3, 1) := by decide +kernel
theorem dX11_cost_43 : decode cX11_cost 43 = .ok (.invokevirtual 238, 3) := by decide +kernel
theorem dX11_cost_46 : decode cX11_cost 46 = .ok (.iload 4, 2) := by decide +kernel
theorem dX11_cost_48 : decode cX11_cost 48 = .ok (.ifCond .ne 10, 3) := by decide +kernel
theorem dX11_cost_51 : decode cX11_cost 51 = .ok (.aload_n 0, 1) := by decide +kernel
theorem dX11_cost_52 : decode cX11_cost 52 = .ok (.getfield 229, 3) := by decide +kernel
theorem dX11_cost_55 : decode cX11_cost 55 = .ok (.goto 25, 3) := by decide +kernel
theorem dX11_cost_58 : decode cX11_cost 58 = .ok (.iload 4, 2) := by decide +kernel
theorem dX11_cost_60 : decode cX11_cost 60 = .ok (.iconst 1, 1) := by decide +kernel
theorem dX11_cost_61 : decode cX11_cost 61 = .ok (.if_icmp .ne 15, 3) := by decide +kernel
theorem dX11_cost_64 : decode cX11_cost 64 = .ok (.aload_n 0, 1) := by decide +kernel
theorem dX11_cost_65 : decode cX11_cost 65 = .ok (.getfield 232, 3) := by decide +kernel
theorem dX11_cost_68 : decode cX11_cost 68 = .ok (.aload_n 0, 1) := by decide +kernel
theorem dX11_cost_69 : decode cX11_cost 69 = .ok (.getfield 229, 3) := by decide +kernel
theorem dX11_cost_72 : decode cX11_cost 72 = .ok (.isub, 1) := by decide +kernel
theorem dX11_cost_73 : decode cX11_cost 73 = .ok (.goto 7, 3) := by decide +kernel
theorem dX11_cost_76 : decode cX11_cost 76 = .ok (.aload_n 0, 1) := by decide +kernel
theorem dX11_cost_77 : decode cX11_cost 77 = .ok (.getfield 235, 3) := by decide +kernel
theorem dX11_cost_80 : decode cX11_cost 80 = .ok (.ireturn, 1) := by decide +kernel
theorem dX11_costsOf_0 : decode cX11_costsOf 0 = .ok (.iconst 0, 1) := by decide +kernel
theorem dX11_costsOf_1 : decode cX11_costsOf 1 = .ok (.istore_n 3, 1) := by decide +kernel
theorem dX11_costsOf_2 : decode cX11_costsOf 2 = .ok (.iconst 0, 1) := by decide +kernel
theorem dX11_costsOf_3 : decode cX11_costsOf 3 = .ok (.istore 4, 2) := by decide +kernel
theorem dX11_costsOf_5 : decode cX11_costsOf 5 = .ok (.iload 4, 2) := by decide +kernel
theorem dX11_costsOf_7 : decode cX11_costsOf 7 = .ok (.bipush 10, 2) := by decide +kernel
theorem dX11_costsOf_9 : decode cX11_costsOf 9 = .ok (.if_icmp .ge 24, 3) := by decide +kernel
theorem dX11_costsOf_12 : decode cX11_costsOf 12 = .ok (.aload_n 0, 1) := by decide +kernel
theorem dX11_costsOf_13 : decode cX11_costsOf 13 = .ok (.iload 4, 2) := by decide +kernel
theorem dX11_costsOf_15 : decode cX11_costsOf 15 = .ok (.iload_n 1, 1) := by decide +kernel
theorem dX11_costsOf_16 : decode cX11_costsOf 16 = .ok (.iload_n 2, 1) := by decide +kernel
theorem dX11_costsOf_17 : decode cX11_costsOf 17 = .ok (.invokevirtual 238, 3) := by decide +kernel
theorem dX11_costsOf_20 : decode cX11_costsOf 20 = .ok (.iload_n 3, 1) := by decide +kernel
theorem dX11_costsOf_21 : decode cX11_costsOf 21 = .ok (.aload_n 0, 1) := by decide +kernel
theorem dX11_costsOf_22 : decode cX11_costsOf 22 = .ok (.getfield 229, 3) := by decide +kernel
theorem dX11_costsOf_25 : decode cX11_costsOf 25 = .ok (.iadd, 1) := by decide +kernel
theorem dX11_costsOf_26 : decode cX11_costsOf 26 = .ok (.istore_n 3, 1) := by decide +kernel
theorem dX11_costsOf_27 : decode cX11_costsOf 27 = .ok (.iinc 4 1, 3) := by decide +kernel
theorem dX11_costsOf_30 : decode cX11_costsOf 30 = .ok (.goto (-25), 3) := by decide +kernel
theorem dX11_costsOf_33 : decode cX11_costsOf 33 = .ok (.iload_n 3, 1) := by decide +kernel
theorem dX11_costsOf_34 : decode cX11_costsOf 34 = .ok (.ireturn, 1) := by decide +kernel
theorem dX11_brandedOf_0 : decode cX11_brandedOf 0 = .ok (.aload_n 0, 1) := by decide +kernel
theorem dX11_brandedOf_1 : decode cX11_brandedOf 1 = .ok (.iload_n 1, 1) := by decide +kernel
theorem dX11_brandedOf_2 : decode cX11_brandedOf 2 = .ok (.invokevirtual 179, 3) := by decide +kernel
theorem dX11_brandedOf_5 : decode cX11_brandedOf 5 = .ok (.aload_n 0, 1) := by decide +kernel
theorem dX11_brandedOf_6 : decode cX11_brandedOf 6 = .ok (.invokevirtual 182, 3) := by decide +kernel
theorem dX11_brandedOf_9 : decode cX11_brandedOf 9 = .ok (.istore_n 2, 1) := by decide +kernel
theorem dX11_brandedOf_10 : decode cX11_brandedOf 10 = .ok (.iconst 0, 1) := by decide +kernel
theorem dX11_brandedOf_11 : decode cX11_brandedOf 11 = .ok (.istore_n 3, 1) := by decide +kernel
theorem dX11_brandedOf_12 : decode cX11_brandedOf 12 = .ok (.iconst 0, 1) := by decide +kernel
theorem dX11_brandedOf_13 : decode cX11_brandedOf 13 = .ok (.istore 4, 2) := by decide +kernel
theorem dX11_brandedOf_15 : decode cX11_brandedOf 15 = .ok (.iload 4, 2) := by decide +kernel
theorem dX11_brandedOf_17 : decode cX11_brandedOf 17 = .ok (.iload_n 2, 1) := by decide +kernel
theorem dX11_brandedOf_18 : decode cX11_brandedOf 18 = .ok (.if_icmp .ge 36, 3) := by decide +kernel
theorem dX11_brandedOf_21 : decode cX11_brandedOf 21 = .ok (.aload_n 0, 1) := by decide +kernel
theorem dX11_brandedOf_22 : decode cX11_brandedOf 22 = .ok (.invokevirtual 185, 3) := by decide +kernel
theorem dX11_brandedOf_25 : decode cX11_brandedOf 25 = .ok (.iload_n 3, 1) := by decide +kernel
theorem dX11_brandedOf_26 : decode cX11_brandedOf 26 = .ok (.aload_n 0, 1) := by decide +kernel
theorem dX11_brandedOf_27 : decode cX11_brandedOf 27 = .ok (.iload_n 1, 1) := by decide +kernel
theorem dX11_brandedOf_28 : decode cX11_brandedOf 28 = .ok (.aload_n 0, 1) := by decide +kernel
theorem dX11_brandedOf_29 : decode cX11_brandedOf 29 = .ok (.getfield 167, 3) := by decide +kernel
theorem dX11_brandedOf_32 : decode cX11_brandedOf 32 = .ok (.bipush 24, 2) := by decide +kernel
theorem dX11_brandedOf_34 : decode cX11_brandedOf 34 = .ok (.idiv, 1) := by decide +kernel
theorem dX11_brandedOf_35 : decode cX11_brandedOf 35 = .ok (.invokevirtual 192, 3) := by decide +kernel
theorem dX11_brandedOf_38 : decode cX11_brandedOf 38 = .ok (.ifCond .lt 7, 3) := by decide +kernel
theorem dX11_brandedOf_41 : decode cX11_brandedOf 41 = .ok (.iconst 1, 1) := by decide +kernel
theorem dX11_brandedOf_42 : decode cX11_brandedOf 42 = .ok (.goto 4, 3) := by decide +kernel
theorem dX11_brandedOf_45 : decode cX11_brandedOf 45 = .ok (.iconst 0, 1) := by decide +kernel
theorem dX11_brandedOf_46 : decode cX11_brandedOf 46 = .ok (.iadd, 1) := by decide +kernel
theorem dX11_brandedOf_47 : decode cX11_brandedOf 47 = .ok (.istore_n 3, 1) := by decide +kernel
theorem dX11_brandedOf_48 : decode cX11_brandedOf 48 = .ok (.iinc 4 1, 3) := by decide +kernel
theorem dX11_brandedOf_51 : decode cX11_brandedOf 51 = .ok (.goto (-36), 3) := by decide +kernel
theorem dX11_brandedOf_54 : decode cX11_brandedOf 54 = .ok (.iload_n 3, 1) := by decide +kernel
theorem dX11_brandedOf_55 : decode cX11_brandedOf 55 = .ok (.ireturn, 1) := by decide +kernel
theorem dX11_account_0 : decode cX11_account 0 = .ok (.iload_n 1, 1) := by decide +kernel
theorem dX11_account_1 : decode cX11_account 1 = .ok (.invokestatic 133, 3) := by decide +kernel
theorem dX11_account_4 : decode cX11_account 4 = .ok (.ifCond .ne 5, 3) := by decide +kernel
theorem dX11_account_7 : decode cX11_account 7 = .ok (.iconst (-1), 1) := by decide +kernel
theorem dX11_account_8 : decode cX11_account 8 = .ok (.ireturn, 1) := by decide +kernel
theorem dX11_account_9 : decode cX11_account 9 = .ok (.iload_n 2, 1) := by decide +kernel
theorem dX11_account_10 : decode cX11_account 10 = .ok (.invokestatic 110, 3) := by decide +kernel
theorem dX11_account_13 : decode cX11_account 13 = .ok (.ifCond .eq 13, 3) := by decide +kernel
theorem dX11_account_16 : decode cX11_account 16 = .ok (.iload_n 3, 1) := by decide +kernel
theorem dX11_account_17 : decode cX11_account 17 = .ok (.iconst 0, 1) := by decide +kernel
theorem dX11_account_18 : decode cX11_account 18 = .ok (.bipush 7, 2) := by decide +kernel
theorem dX11_account_20 : decode cX11_account 20 = .ok (.invokestatic 94, 3) := by decide +kernel
theorem dX11_account_23 : decode cX11_account 23 = .ok (.ifCond .ne 6, 3) := by decide +kernel
theorem dX11_account_26 : decode cX11_account 26 = .ok (.bipush (-2), 2) := by decide +kernel
theorem dX11_account_28 : decode cX11_account 28 = .ok (.ireturn, 1) := by decide +kernel
theorem dX11_account_29 : decode cX11_account 29 = .ok (.aload_n 0, 1) := by decide +kernel
theorem dX11_account_30 : decode cX11_account 30 = .ok (.iload_n 1, 1) := by decide +kernel
theorem dX11_account_31 : decode cX11_account 31 = .ok (.invokevirtual 242, 3) := by decide +kernel
theorem dX11_account_34 : decode cX11_account 34 = .ok (.istore 4, 2) := by decide +kernel
theorem dX11_account_36 : decode cX11_account 36 = .ok (.aload_n 0, 1) := by decide +kernel
theorem dX11_account_37 : decode cX11_account 37 = .ok (.invokevirtual 182, 3) := by decide +kernel
theorem dX11_account_40 : decode cX11_account 40 = .ok (.istore 5, 2) := by decide +kernel
theorem dX11_account_42 : decode cX11_account 42 = .ok (.iload_n 3, 1) := by decide +kernel
theorem dX11_account_43 : decode cX11_account 43 = .ok (.tableswitch 92 0 6 #[41, 48, 58, 69, 72, 75, 80], 41) := by decide +kernel
theorem dX11_account_84 : decode cX11_account 84 = .ok (.aload_n 0, 1) := by decide +kernel
theorem dX11_account_85 : decode cX11_account 85 = .ok (.iload_n 1, 1) := by decide +kernel
theorem dX11_account_86 : decode cX11_account 86 = .ok (.iload_n 2, 1) := by decide +kernel
theorem dX11_account_87 : decode cX11_account 87 = .ok (.invokevirtual 245, 3) := by decide +kernel
theorem dX11_account_90 : decode cX11_account 90 = .ok (.ireturn, 1) := by decide +kernel
theorem dX11_account_91 : decode cX11_account 91 = .ok (.aload_n 0, 1) := by decide +kernel
theorem dX11_account_92 : decode cX11_account 92 = .ok (.getfield 28, 3) := by decide +kernel
theorem dX11_account_95 : decode cX11_account 95 = .ok (.iconst 5, 1) := by decide +kernel
theorem dX11_account_96 : decode cX11_account 96 = .ok (.iaload, 1) := by decide +kernel
theorem dX11_account_97 : decode cX11_account 97 = .ok (.iload 5, 2) := by decide +kernel
theorem dX11_account_99 : decode cX11_account 99 = .ok (.imul, 1) := by decide +kernel
theorem dX11_account_100 : decode cX11_account 100 = .ok (.ireturn, 1) := by decide +kernel
theorem dX11_account_101 : decode cX11_account 101 = .ok (.aload_n 0, 1) := by decide +kernel
theorem dX11_account_102 : decode cX11_account 102 = .ok (.getfield 28, 3) := by decide +kernel
theorem dX11_account_105 : decode cX11_account 105 = .ok (.bipush 6, 2) := by decide +kernel
theorem dX11_account_107 : decode cX11_account 107 = .ok (.iaload, 1) := by decide +kernel
theorem dX11_account_108 : decode cX11_account 108 = .ok (.iload 4, 2) := by decide +kernel
theorem dX11_account_110 : decode cX11_account 110 = .ok (.imul, 1) := by decide +kernel
theorem dX11_account_111 : decode cX11_account 111 = .ok (.ireturn, 1) := by decide +kernel
theorem dX11_account_112 : decode cX11_account 112 = .ok (.iload 5, 2) := by decide +kernel
theorem dX11_account_114 : decode cX11_account 114 = .ok (.ireturn, 1) := by decide +kernel
theorem dX11_account_115 : decode cX11_account 115 = .ok (.iload 4, 2) := by decide +kernel
theorem dX11_account_117 : decode cX11_account 117 = .ok (.ireturn, 1) := by decide +kernel
theorem dX11_account_118 : decode cX11_account 118 = .ok (.aload_n 0, 1) := by decide +kernel
theorem dX11_account_119 : decode cX11_account 119 = .ok (.getfield 151, 3) := by decide +kernel
theorem dX11_account_122 : decode cX11_account 122 = .ok (.ireturn, 1) := by decide +kernel
theorem dX11_account_123 : decode cX11_account 123 = .ok (.aload_n 0, 1) := by decide +kernel
theorem dX11_account_124 : decode cX11_account 124 = .ok (.getfield 148, 3) := by decide +kernel
theorem dX11_account_127 : decode cX11_account 127 = .ok (.aload_n 0, 1) := by decide +kernel
theorem dX11_account_128 : decode cX11_account 128 = .ok (.getfield 28, 3) := by decide +kernel
theorem dX11_account_131 : decode cX11_account 131 = .ok (.iconst 1, 1) := by decide +kernel
theorem dX11_account_132 : decode cX11_account 132 = .ok (.iaload, 1) := by decide +kernel
theorem dX11_account_133 : decode cX11_account 133 = .ok (.irem, 1) := by decide +kernel
theorem dX11_account_134 : decode cX11_account 134 = .ok (.ireturn, 1) := by decide +kernel
theorem dX11_account_135 : decode cX11_account 135 = .ok (.aload_n 0, 1) := by decide +kernel
theorem dX11_account_136 : decode cX11_account 136 = .ok (.iload_n 1, 1) := by decide +kernel
theorem dX11_account_137 : decode cX11_account 137 = .ok (.iload_n 2, 1) := by decide +kernel
theorem dX11_account_138 : decode cX11_account 138 = .ok (.invokevirtual 245, 3) := by decide +kernel
theorem dX11_account_141 : decode cX11_account 141 = .ok (.aload_n 0, 1) := by decide +kernel
theorem dX11_account_142 : decode cX11_account 142 = .ok (.getfield 28, 3) := by decide +kernel
theorem dX11_account_145 : decode cX11_account 145 = .ok (.iconst 5, 1) := by decide +kernel
theorem dX11_account_146 : decode cX11_account 146 = .ok (.iaload, 1) := by decide +kernel
theorem dX11_account_147 : decode cX11_account 147 = .ok (.iload 5, 2) := by decide +kernel
theorem dX11_account_149 : decode cX11_account 149 = .ok (.imul, 1) := by decide +kernel
theorem dX11_account_150 : decode cX11_account 150 = .ok (.iadd, 1) := by decide +kernel
theorem dX11_account_151 : decode cX11_account 151 = .ok (.aload_n 0, 1) := by decide +kernel
theorem dX11_account_152 : decode cX11_account 152 = .ok (.getfield 28, 3) := by decide +kernel
theorem dX11_account_155 : decode cX11_account 155 = .ok (.bipush 6, 2) := by decide +kernel
theorem dX11_account_157 : decode cX11_account 157 = .ok (.iaload, 1) := by decide +kernel
theorem dX11_account_158 : decode cX11_account 158 = .ok (.iload 4, 2) := by decide +kernel
theorem dX11_account_160 : decode cX11_account 160 = .ok (.imul, 1) := by decide +kernel
theorem dX11_account_161 : decode cX11_account 161 = .ok (.isub, 1) := by decide +kernel
theorem dX11_account_162 : decode cX11_account 162 = .ok (.ireturn, 1) := by decide +kernel
theorem dX11_allSpoilt_0 : decode cX11_allSpoilt 0 = .ok (.iconst 0, 1) := by decide +kernel
theorem dX11_allSpoilt_1 : decode cX11_allSpoilt 1 = .ok (.istore_n 1, 1) := by decide +kernel
theorem dX11_allSpoilt_2 : decode cX11_allSpoilt 2 = .ok (.iconst 0, 1) := by decide +kernel
theorem dX11_allSpoilt_3 : decode cX11_allSpoilt 3 = .ok (.istore_n 2, 1) := by decide +kernel
theorem dX11_allSpoilt_4 : decode cX11_allSpoilt 4 = .ok (.iload_n 2, 1) := by decide +kernel
theorem dX11_allSpoilt_5 : decode cX11_allSpoilt 5 = .ok (.iconst 4, 1) := by decide +kernel
theorem dX11_allSpoilt_6 : decode cX11_allSpoilt 6 = .ok (.if_icmp .ge 21, 3) := by decide +kernel
theorem dX11_allSpoilt_9 : decode cX11_allSpoilt 9 = .ok (.aload_n 0, 1) := by decide +kernel
theorem dX11_allSpoilt_10 : decode cX11_allSpoilt 10 = .ok (.iload_n 2, 1) := by decide +kernel
theorem dX11_allSpoilt_11 : decode cX11_allSpoilt 11 = .ok (.invokevirtual 160, 3) := by decide +kernel
theorem dX11_allSpoilt_14 : decode cX11_allSpoilt 14 = .ok (.iload_n 1, 1) := by decide +kernel
theorem dX11_allSpoilt_15 : decode cX11_allSpoilt 15 = .ok (.aload_n 0, 1) := by decide +kernel
theorem dX11_allSpoilt_16 : decode cX11_allSpoilt 16 = .ok (.getfield 151, 3) := by decide +kernel
theorem dX11_allSpoilt_19 : decode cX11_allSpoilt 19 = .ok (.iadd, 1) := by decide +kernel
theorem dX11_allSpoilt_20 : decode cX11_allSpoilt 20 = .ok (.istore_n 1, 1) := by decide +kernel
theorem dX11_allSpoilt_21 : decode cX11_allSpoilt 21 = .ok (.iinc 2 1, 3) := by decide +kernel
theorem dX11_allSpoilt_24 : decode cX11_allSpoilt 24 = .ok (.goto (-20), 3) := by decide +kernel
theorem dX11_allSpoilt_27 : decode cX11_allSpoilt 27 = .ok (.iload_n 1, 1) := by decide +kernel
theorem dX11_allSpoilt_28 : decode cX11_allSpoilt 28 = .ok (.ireturn, 1) := by decide +kernel
theorem dX11_leadAll_0 : decode cX11_leadAll 0 = .ok (.iload_n 1, 1) := by decide +kernel
theorem dX11_leadAll_1 : decode cX11_leadAll 1 = .ok (.istore_n 2, 1) := by decide +kernel
theorem dX11_leadAll_2 : decode cX11_leadAll 2 = .ok (.aload_n 0, 1) := by decide +kernel
theorem dX11_leadAll_3 : decode cX11_leadAll 3 = .ok (.getfield 248, 3) := by decide +kernel
theorem dX11_leadAll_6 : decode cX11_leadAll 6 = .ok (.iconst 1, 1) := by decide +kernel
theorem dX11_leadAll_7 : decode cX11_leadAll 7 = .ok (.isub, 1) := by decide +kernel
theorem dX11_leadAll_8 : decode cX11_leadAll 8 = .ok (.istore_n 3, 1) := by decide +kernel
theorem dX11_leadAll_9 : decode cX11_leadAll 9 = .ok (.iload_n 3, 1) := by decide +kernel
theorem dX11_leadAll_10 : decode cX11_leadAll 10 = .ok (.ifCond .lt 32, 3) := by decide +kernel
theorem dX11_leadAll_13 : decode cX11_leadAll 13 = .ok (.aload_n 0, 1) := by decide +kernel
theorem dX11_leadAll_14 : decode cX11_leadAll 14 = .ok (.getfield 31, 3) := by decide +kernel
theorem dX11_leadAll_17 : decode cX11_leadAll 17 = .ok (.bipush 7, 2) := by decide +kernel
theorem dX11_leadAll_19 : decode cX11_leadAll 19 = .ok (.aload_n 0, 1) := by decide +kernel
theorem dX11_leadAll_20 : decode cX11_leadAll 20 = .ok (.getfield 88, 3) := by decide +kernel
theorem dX11_leadAll_23 : decode cX11_leadAll 23 = .ok (.iload_n 3, 1) := by decide +kernel
theorem dX11_leadAll_24 : decode cX11_leadAll 24 = .ok (.iaload, 1) := by decide +kernel
theorem dX11_leadAll_25 : decode cX11_leadAll 25 = .ok (.imul, 1) := by decide +kernel
theorem dX11_leadAll_26 : decode cX11_leadAll 26 = .ok (.iconst 1, 1) := by decide +kernel
theorem dX11_leadAll_27 : decode cX11_leadAll 27 = .ok (.iadd, 1) := by decide +kernel
theorem dX11_leadAll_28 : decode cX11_leadAll 28 = .ok (.iload_n 2, 1) := by decide +kernel
theorem dX11_leadAll_29 : decode cX11_leadAll 29 = .ok (.iconst 4, 1) := by decide +kernel
theorem dX11_leadAll_30 : decode cX11_leadAll 30 = .ok (.irem, 1) := by decide +kernel
theorem dX11_leadAll_31 : decode cX11_leadAll 31 = .ok (.iastore, 1) := by decide +kernel
theorem dX11_leadAll_32 : decode cX11_leadAll 32 = .ok (.iload_n 2, 1) := by decide +kernel
theorem dX11_leadAll_33 : decode cX11_leadAll 33 = .ok (.iconst 4, 1) := by decide +kernel
theorem dX11_leadAll_34 : decode cX11_leadAll 34 = .ok (.idiv, 1) := by decide +kernel
theorem dX11_leadAll_35 : decode cX11_leadAll 35 = .ok (.istore_n 2, 1) := by decide +kernel
theorem dX11_leadAll_36 : decode cX11_leadAll 36 = .ok (.iinc 3 (-1), 3) := by decide +kernel
theorem dX11_leadAll_39 : decode cX11_leadAll 39 = .ok (.goto (-30), 3) := by decide +kernel
theorem dX11_leadAll_42 : decode cX11_leadAll 42 = .ok (.return_, 1) := by decide +kernel
theorem dX11_laySpread_0 : decode cX11_laySpread 0 = .ok (.aload_n 0, 1) := by decide +kernel
theorem dX11_laySpread_1 : decode cX11_laySpread 1 = .ok (.iconst 0, 1) := by decide +kernel
theorem dX11_laySpread_2 : decode cX11_laySpread 2 = .ok (.putfield 248, 3) := by decide +kernel
theorem dX11_laySpread_5 : decode cX11_laySpread 5 = .ok (.iconst 0, 1) := by decide +kernel
theorem dX11_laySpread_6 : decode cX11_laySpread 6 = .ok (.istore_n 1, 1) := by decide +kernel
theorem dX11_laySpread_7 : decode cX11_laySpread 7 = .ok (.iload_n 1, 1) := by decide +kernel
theorem dX11_laySpread_8 : decode cX11_laySpread 8 = .ok (.aload_n 0, 1) := by decide +kernel
theorem dX11_laySpread_9 : decode cX11_laySpread 9 = .ok (.getfield 136, 3) := by decide +kernel
theorem dX11_laySpread_12 : decode cX11_laySpread 12 = .ok (.if_icmp .ge 43, 3) := by decide +kernel
theorem dX11_laySpread_15 : decode cX11_laySpread 15 = .ok (.aload_n 0, 1) := by decide +kernel
theorem dX11_laySpread_16 : decode cX11_laySpread 16 = .ok (.getfield 31, 3) := by decide +kernel
theorem dX11_laySpread_19 : decode cX11_laySpread 19 = .ok (.bipush 7, 2) := by decide +kernel
theorem dX11_laySpread_21 : decode cX11_laySpread 21 = .ok (.iload_n 1, 1) := by decide +kernel
theorem dX11_laySpread_22 : decode cX11_laySpread 22 = .ok (.imul, 1) := by decide +kernel
theorem dX11_laySpread_23 : decode cX11_laySpread 23 = .ok (.iconst 1, 1) := by decide +kernel
theorem dX11_laySpread_24 : decode cX11_laySpread 24 = .ok (.iadd, 1) := by decide +kernel
theorem dX11_laySpread_25 : decode cX11_laySpread 25 = .ok (.iaload, 1) := by decide +kernel
theorem dX11_laySpread_26 : decode cX11_laySpread 26 = .ok (.ifCond .ge 23, 3) := by decide +kernel
theorem dX11_laySpread_29 : decode cX11_laySpread 29 = .ok (.aload_n 0, 1) := by decide +kernel
theorem dX11_laySpread_30 : decode cX11_laySpread 30 = .ok (.getfield 88, 3) := by decide +kernel
theorem dX11_laySpread_33 : decode cX11_laySpread 33 = .ok (.aload_n 0, 1) := by decide +kernel
theorem dX11_laySpread_34 : decode cX11_laySpread 34 = .ok (.getfield 248, 3) := by decide +kernel
theorem dX11_laySpread_37 : decode cX11_laySpread 37 = .ok (.iload_n 1, 1) := by decide +kernel
theorem dX11_laySpread_38 : decode cX11_laySpread 38 = .ok (.iastore, 1) := by decide +kernel
theorem dX11_laySpread_39 : decode cX11_laySpread 39 = .ok (.aload_n 0, 1) := by decide +kernel
theorem dX11_laySpread_40 : decode cX11_laySpread 40 = .ok (.dup, 1) := by decide +kernel
theorem dX11_laySpread_41 : decode cX11_laySpread 41 = .ok (.getfield 248, 3) := by decide +kernel
theorem dX11_laySpread_44 : decode cX11_laySpread 44 = .ok (.iconst 1, 1) := by decide +kernel
theorem dX11_laySpread_45 : decode cX11_laySpread 45 = .ok (.iadd, 1) := by decide +kernel
theorem dX11_laySpread_46 : decode cX11_laySpread 46 = .ok (.putfield 248, 3) := by decide +kernel
theorem dX11_laySpread_49 : decode cX11_laySpread 49 = .ok (.iinc 1 1, 3) := by decide +kernel
theorem dX11_laySpread_52 : decode cX11_laySpread 52 = .ok (.goto (-45), 3) := by decide +kernel
theorem dX11_laySpread_55 : decode cX11_laySpread 55 = .ok (.aload_n 0, 1) := by decide +kernel
theorem dX11_laySpread_56 : decode cX11_laySpread 56 = .ok (.iconst (-1), 1) := by decide +kernel
theorem dX11_laySpread_57 : decode cX11_laySpread 57 = .ok (.putfield 251, 3) := by decide +kernel
theorem dX11_laySpread_60 : decode cX11_laySpread 60 = .ok (.iconst 0, 1) := by decide +kernel
theorem dX11_laySpread_61 : decode cX11_laySpread 61 = .ok (.istore_n 1, 1) := by decide +kernel
theorem dX11_laySpread_62 : decode cX11_laySpread 62 = .ok (.iload_n 1, 1) := by decide +kernel
theorem dX11_laySpread_63 : decode cX11_laySpread 63 = .ok (.iconst 1, 1) := by decide +kernel
theorem dX11_laySpread_64 : decode cX11_laySpread 64 = .ok (.iconst 2, 1) := by decide +kernel
theorem dX11_laySpread_65 : decode cX11_laySpread 65 = .ok (.aload_n 0, 1) := by decide +kernel
theorem dX11_laySpread_66 : decode cX11_laySpread 66 = .ok (.getfield 248, 3) := by decide +kernel
theorem dX11_laySpread_69 : decode cX11_laySpread 69 = .ok (.imul, 1) := by decide +kernel
theorem dX11_laySpread_70 : decode cX11_laySpread 70 = .ok (.ishl, 1) := by decide +kernel
theorem dX11_laySpread_71 : decode cX11_laySpread 71 = .ok (.if_icmp .ge 44, 3) := by decide +kernel
theorem dX11_laySpread_74 : decode cX11_laySpread 74 = .ok (.aload_n 0, 1) := by decide +kernel
theorem dX11_laySpread_75 : decode cX11_laySpread 75 = .ok (.iload_n 1, 1) := by decide +kernel
theorem dX11_laySpread_76 : decode cX11_laySpread 76 = .ok (.invokevirtual 254, 3) := by decide +kernel
theorem dX11_laySpread_79 : decode cX11_laySpread 79 = .ok (.aload_n 0, 1) := by decide +kernel
theorem dX11_laySpread_80 : decode cX11_laySpread 80 = .ok (.invokevirtual 257, 3) := by decide +kernel
theorem dX11_laySpread_83 : decode cX11_laySpread 83 = .ok (.istore_n 2, 1) := by decide +kernel
theorem dX11_laySpread_84 : decode cX11_laySpread 84 = .ok (.aload_n 0, 1) := by decide +kernel
theorem dX11_laySpread_85 : decode cX11_laySpread 85 = .ok (.getfield 251, 3) := by decide +kernel
theorem dX11_laySpread_88 : decode cX11_laySpread 88 = .ok (.ifCond .lt 11, 3) := by decide +kernel
theorem dX11_laySpread_91 : decode cX11_laySpread 91 = .ok (.iload_n 2, 1) := by decide +kernel
theorem dX11_laySpread_92 : decode cX11_laySpread 92 = .ok (.aload_n 0, 1) := by decide +kernel
theorem dX11_laySpread_93 : decode cX11_laySpread 93 = .ok (.getfield 251, 3) := by decide +kernel
theorem dX11_laySpread_96 : decode cX11_laySpread 96 = .ok (.if_icmp .ge 13, 3) := by decide +kernel
theorem dX11_laySpread_99 : decode cX11_laySpread 99 = .ok (.aload_n 0, 1) := by decide +kernel
theorem dX11_laySpread_100 : decode cX11_laySpread 100 = .ok (.iload_n 2, 1) := by decide +kernel
theorem dX11_laySpread_101 : decode cX11_laySpread 101 = .ok (.putfield 251, 3) := by decide +kernel
theorem dX11_laySpread_104 : decode cX11_laySpread 104 = .ok (.aload_n 0, 1) := by decide +kernel
theorem dX11_laySpread_105 : decode cX11_laySpread 105 = .ok (.iload_n 1, 1) := by decide +kernel
theorem dX11_laySpread_106 : decode cX11_laySpread 106 = .ok (.putfield 260, 3) := by decide +kernel
theorem dX11_laySpread_109 : decode cX11_laySpread 109 = .ok (.iinc 1 1, 3) := by decide +kernel
theorem dX11_laySpread_112 : decode cX11_laySpread 112 = .ok (.goto (-50), 3) := by decide +kernel
theorem dX11_laySpread_115 : decode cX11_laySpread 115 = .ok (.iconst 0, 1) := by decide +kernel
theorem dX11_laySpread_116 : decode cX11_laySpread 116 = .ok (.istore_n 1, 1) := by decide +kernel
theorem dX11_laySpread_117 : decode cX11_laySpread 117 = .ok (.iload_n 1, 1) := by decide +kernel
theorem dX11_laySpread_118 : decode cX11_laySpread 118 = .ok (.aload_n 0, 1) := by decide +kernel
theorem dX11_laySpread_119 : decode cX11_laySpread 119 = .ok (.getfield 248, 3) := by decide +kernel
theorem dX11_laySpread_122 : decode cX11_laySpread 122 = .ok (.if_icmp .ge 26, 3) := by decide +kernel
theorem dX11_laySpread_125 : decode cX11_laySpread 125 = .ok (.aload_n 0, 1) := by decide +kernel
theorem dX11_laySpread_126 : decode cX11_laySpread 126 = .ok (.getfield 31, 3) := by decide +kernel
theorem dX11_laySpread_129 : decode cX11_laySpread 129 = .ok (.bipush 7, 2) := by decide +kernel
theorem dX11_laySpread_131 : decode cX11_laySpread 131 = .ok (.aload_n 0, 1) := by decide +kernel
theorem dX11_laySpread_132 : decode cX11_laySpread 132 = .ok (.getfield 88, 3) := by decide +kernel
theorem dX11_laySpread_135 : decode cX11_laySpread 135 = .ok (.iload_n 1, 1) := by decide +kernel
theorem dX11_laySpread_136 : decode cX11_laySpread 136 = .ok (.iaload, 1) := by decide +kernel
theorem dX11_laySpread_137 : decode cX11_laySpread 137 = .ok (.imul, 1) := by decide +kernel
theorem dX11_laySpread_138 : decode cX11_laySpread 138 = .ok (.iconst 1, 1) := by decide +kernel
theorem dX11_laySpread_139 : decode cX11_laySpread 139 = .ok (.iadd, 1) := by decide +kernel
theorem dX11_laySpread_140 : decode cX11_laySpread 140 = .ok (.iconst (-1), 1) := by decide +kernel
theorem dX11_laySpread_141 : decode cX11_laySpread 141 = .ok (.iastore, 1) := by decide +kernel
theorem dX11_laySpread_142 : decode cX11_laySpread 142 = .ok (.iinc 1 1, 3) := by decide +kernel
theorem dX11_laySpread_145 : decode cX11_laySpread 145 = .ok (.goto (-28), 3) := by decide +kernel
theorem dX11_laySpread_148 : decode cX11_laySpread 148 = .ok (.return_, 1) := by decide +kernel
theorem dX11_spread_0 : decode cX11_spread 0 = .ok (.aload_n 0, 1) := by decide +kernel
theorem dX11_spread_1 : decode cX11_spread 1 = .ok (.invokevirtual 263, 3) := by decide +kernel
theorem dX11_spread_4 : decode cX11_spread 4 = .ok (.iload_n 1, 1) := by decide +kernel
theorem dX11_spread_5 : decode cX11_spread 5 = .ok (.iconst (-1), 1) := by decide +kernel
theorem dX11_spread_6 : decode cX11_spread 6 = .ok (.if_icmp .ne 10, 3) := by decide +kernel
theorem dX11_spread_9 : decode cX11_spread 9 = .ok (.aload_n 0, 1) := by decide +kernel
theorem dX11_spread_10 : decode cX11_spread 10 = .ok (.getfield 251, 3) := by decide +kernel
theorem dX11_spread_13 : decode cX11_spread 13 = .ok (.goto 39, 3) := by decide +kernel
theorem dX11_spread_16 : decode cX11_spread 16 = .ok (.iload_n 1, 1) := by decide +kernel
theorem dX11_spread_17 : decode cX11_spread 17 = .ok (.iconst 0, 1) := by decide +kernel
theorem dX11_spread_18 : decode cX11_spread 18 = .ok (.aload_n 0, 1) := by decide +kernel
theorem dX11_spread_19 : decode cX11_spread 19 = .ok (.getfield 248, 3) := by decide +kernel
theorem dX11_spread_22 : decode cX11_spread 22 = .ok (.iconst 1, 1) := by decide +kernel
theorem dX11_spread_23 : decode cX11_spread 23 = .ok (.isub, 1) := by decide +kernel
theorem dX11_spread_24 : decode cX11_spread 24 = .ok (.invokestatic 94, 3) := by decide +kernel
theorem dX11_spread_27 : decode cX11_spread 27 = .ok (.ifCond .eq 23, 3) := by decide +kernel
theorem dX11_spread_30 : decode cX11_spread 30 = .ok (.aload_n 0, 1) := by decide +kernel
theorem dX11_spread_31 : decode cX11_spread 31 = .ok (.getfield 260, 3) := by decide +kernel
theorem dX11_spread_34 : decode cX11_spread 34 = .ok (.iconst 2, 1) := by decide +kernel
theorem dX11_spread_35 : decode cX11_spread 35 = .ok (.aload_n 0, 1) := by decide +kernel
theorem dX11_spread_36 : decode cX11_spread 36 = .ok (.getfield 248, 3) := by decide +kernel
theorem dX11_spread_39 : decode cX11_spread 39 = .ok (.iconst 1, 1) := by decide +kernel
theorem dX11_spread_40 : decode cX11_spread 40 = .ok (.isub, 1) := by decide +kernel
theorem dX11_spread_41 : decode cX11_spread 41 = .ok (.iload_n 1, 1) := by decide +kernel
theorem dX11_spread_42 : decode cX11_spread 42 = .ok (.isub, 1) := by decide +kernel
theorem dX11_spread_43 : decode cX11_spread 43 = .ok (.imul, 1) := by decide +kernel
theorem dX11_spread_44 : decode cX11_spread 44 = .ok (.ishr, 1) := by decide +kernel
theorem dX11_spread_45 : decode cX11_spread 45 = .ok (.iconst 3, 1) := by decide +kernel
theorem dX11_spread_46 : decode cX11_spread 46 = .ok (.iand, 1) := by decide +kernel
theorem dX11_spread_47 : decode cX11_spread 47 = .ok (.goto 5, 3) := by decide +kernel
theorem dX11_spread_50 : decode cX11_spread 50 = .ok (.bipush (-6), 2) := by decide +kernel
theorem dX11_spread_52 : decode cX11_spread 52 = .ok (.ireturn, 1) := by decide +kernel
theorem dX11_settle_0 : decode cX11_settle 0 = .ok (.aload_n 0, 1) := by decide +kernel
theorem dX11_settle_1 : decode cX11_settle 1 = .ok (.invokevirtual 263, 3) := by decide +kernel
theorem dX11_settle_4 : decode cX11_settle 4 = .ok (.aload_n 0, 1) := by decide +kernel
theorem dX11_settle_5 : decode cX11_settle 5 = .ok (.aload_n 0, 1) := by decide +kernel
theorem dX11_settle_6 : decode cX11_settle 6 = .ok (.getfield 260, 3) := by decide +kernel
theorem dX11_settle_9 : decode cX11_settle 9 = .ok (.invokevirtual 254, 3) := by decide +kernel
theorem dX11_settle_12 : decode cX11_settle 12 = .ok (.aload_n 0, 1) := by decide +kernel
theorem dX11_settle_13 : decode cX11_settle 13 = .ok (.getfield 248, 3) := by decide +kernel
theorem dX11_settle_16 : decode cX11_settle 16 = .ok (.ireturn, 1) := by decide +kernel
theorem dX11_ship_0 : decode cX11_ship 0 = .ok (.iload_n 1, 1) := by decide +kernel
theorem dX11_ship_1 : decode cX11_ship 1 = .ok (.iconst 0, 1) := by decide +kernel
theorem dX11_ship_2 : decode cX11_ship 2 = .ok (.iconst 3, 1) := by decide +kernel
theorem dX11_ship_3 : decode cX11_ship 3 = .ok (.invokestatic 94, 3) := by decide +kernel
theorem dX11_ship_6 : decode cX11_ship 6 = .ok (.ifCond .ne 5, 3) := by decide +kernel
theorem dX11_ship_9 : decode cX11_ship 9 = .ok (.iconst (-1), 1) := by decide +kernel
theorem dX11_ship_10 : decode cX11_ship 10 = .ok (.ireturn, 1) := by decide +kernel
theorem dX11_ship_11 : decode cX11_ship 11 = .ok (.iload_n 2, 1) := by decide +kernel
theorem dX11_ship_12 : decode cX11_ship 12 = .ok (.invokestatic 110, 3) := by decide +kernel
theorem dX11_ship_15 : decode cX11_ship 15 = .ok (.ifCond .eq 13, 3) := by decide +kernel
theorem dX11_ship_18 : decode cX11_ship 18 = .ok (.iload_n 3, 1) := by decide +kernel
theorem dX11_ship_19 : decode cX11_ship 19 = .ok (.iconst 0, 1) := by decide +kernel
theorem dX11_ship_20 : decode cX11_ship 20 = .ok (.bipush 20, 2) := by decide +kernel
theorem dX11_ship_22 : decode cX11_ship 22 = .ok (.invokestatic 94, 3) := by decide +kernel
theorem dX11_ship_25 : decode cX11_ship 25 = .ok (.ifCond .ne 6, 3) := by decide +kernel
theorem dX11_ship_28 : decode cX11_ship 28 = .ok (.bipush (-2), 2) := by decide +kernel
theorem dX11_ship_30 : decode cX11_ship 30 = .ok (.ireturn, 1) := by decide +kernel
theorem dX11_ship_31 : decode cX11_ship 31 = .ok (.aload_n 0, 1) := by decide +kernel
theorem dX11_ship_32 : decode cX11_ship 32 = .ok (.getfield 58, 3) := by decide +kernel
theorem dX11_ship_35 : decode cX11_ship 35 = .ok (.iload_n 1, 1) := by decide +kernel
theorem dX11_ship_36 : decode cX11_ship 36 = .ok (.iload_n 2, 1) := by decide +kernel
theorem dX11_ship_37 : decode cX11_ship 37 = .ok (.iastore, 1) := by decide +kernel
theorem dX11_ship_38 : decode cX11_ship 38 = .ok (.aload_n 0, 1) := by decide +kernel
theorem dX11_ship_39 : decode cX11_ship 39 = .ok (.getfield 61, 3) := by decide +kernel
theorem dX11_ship_42 : decode cX11_ship 42 = .ok (.iload_n 1, 1) := by decide +kernel
theorem dX11_ship_43 : decode cX11_ship 43 = .ok (.iload_n 3, 1) := by decide +kernel
theorem dX11_ship_44 : decode cX11_ship 44 = .ok (.iastore, 1) := by decide +kernel
theorem dX11_ship_45 : decode cX11_ship 45 = .ok (.iconst 1, 1) := by decide +kernel
theorem dX11_ship_46 : decode cX11_ship 46 = .ok (.ireturn, 1) := by decide +kernel
theorem dX11_price_0 : decode cX11_price 0 = .ok (.iload_n 1, 1) := by decide +kernel
theorem dX11_price_1 : decode cX11_price 1 = .ok (.iconst 0, 1) := by decide +kernel
theorem dX11_price_2 : decode cX11_price 2 = .ok (.iconst 1, 1) := by decide +kernel
theorem dX11_price_3 : decode cX11_price 3 = .ok (.invokestatic 94, 3) := by decide +kernel
theorem dX11_price_6 : decode cX11_price 6 = .ok (.ifCond .ne 5, 3) := by decide +kernel
theorem dX11_price_9 : decode cX11_price 9 = .ok (.iconst (-1), 1) := by decide +kernel
theorem dX11_price_10 : decode cX11_price 10 = .ok (.ireturn, 1) := by decide +kernel
theorem dX11_price_11 : decode cX11_price 11 = .ok (.iload_n 2, 1) := by decide +kernel
theorem dX11_price_12 : decode cX11_price 12 = .ok (.invokestatic 110, 3) := by decide +kernel
theorem dX11_price_15 : decode cX11_price 15 = .ok (.ifCond .eq 22, 3) := by decide +kernel
theorem dX11_price_18 : decode cX11_price 18 = .ok (.iload_n 3, 1) := by decide +kernel
theorem dX11_price_19 : decode cX11_price 19 = .ok (.iconst 0, 1) := by decide +kernel
theorem dX11_price_20 : decode cX11_price 20 = .ok (.sipush 1000, 3) := by decide +kernel
theorem dX11_price_23 : decode cX11_price 23 = .ok (.invokestatic 94, 3) := by decide +kernel
theorem dX11_price_26 : decode cX11_price 26 = .ok (.ifCond .eq 11, 3) := by decide +kernel
theorem dX11_price_29 : decode cX11_price 29 = .ok (.iload 4, 2) := by decide +kernel
theorem dX11_price_31 : decode cX11_price 31 = .ok (.invokestatic 110, 3) := by decide +kernel
theorem dX11_price_34 : decode cX11_price 34 = .ok (.ifCond .ne 6, 3) := by decide +kernel
theorem dX11_price_37 : decode cX11_price 37 = .ok (.bipush (-2), 2) := by decide +kernel
theorem dX11_price_39 : decode cX11_price 39 = .ok (.ireturn, 1) := by decide +kernel
theorem dX11_price_40 : decode cX11_price 40 = .ok (.aload_n 0, 1) := by decide +kernel
theorem dX11_price_41 : decode cX11_price 41 = .ok (.getfield 266, 3) := by decide +kernel
theorem dX11_price_44 : decode cX11_price 44 = .ok (.bipush 60, 2) := by decide +kernel
theorem dX11_price_46 : decode cX11_price 46 = .ok (.if_icmp .ne 6, 3) := by decide +kernel
theorem dX11_price_49 : decode cX11_price 49 = .ok (.bipush (-4), 2) := by decide +kernel
theorem dX11_price_51 : decode cX11_price 51 = .ok (.ireturn, 1) := by decide +kernel
theorem dX11_price_52 : decode cX11_price 52 = .ok (.aload_n 0, 1) := by decide +kernel
theorem dX11_price_53 : decode cX11_price 53 = .ok (.getfield 64, 3) := by decide +kernel
theorem dX11_price_56 : decode cX11_price 56 = .ok (.aload_n 0, 1) := by decide +kernel
theorem dX11_price_57 : decode cX11_price 57 = .ok (.getfield 266, 3) := by decide +kernel
theorem dX11_price_60 : decode cX11_price 60 = .ok (.iload_n 1, 1) := by decide +kernel
theorem dX11_price_61 : decode cX11_price 61 = .ok (.iastore, 1) := by decide +kernel
theorem dX11_price_62 : decode cX11_price 62 = .ok (.aload_n 0, 1) := by decide +kernel
theorem dX11_price_63 : decode cX11_price 63 = .ok (.getfield 67, 3) := by decide +kernel
theorem dX11_price_66 : decode cX11_price 66 = .ok (.aload_n 0, 1) := by decide +kernel
theorem dX11_price_67 : decode cX11_price 67 = .ok (.getfield 266, 3) := by decide +kernel
theorem dX11_price_70 : decode cX11_price 70 = .ok (.iload_n 2, 1) := by decide +kernel
theorem dX11_price_71 : decode cX11_price 71 = .ok (.iastore, 1) := by decide +kernel
theorem dX11_price_72 : decode cX11_price 72 = .ok (.aload_n 0, 1) := by decide +kernel
theorem dX11_price_73 : decode cX11_price 73 = .ok (.getfield 70, 3) := by decide +kernel
theorem dX11_price_76 : decode cX11_price 76 = .ok (.aload_n 0, 1) := by decide +kernel
theorem dX11_price_77 : decode cX11_price 77 = .ok (.getfield 266, 3) := by decide +kernel
theorem dX11_price_80 : decode cX11_price 80 = .ok (.iload_n 3, 1) := by decide +kernel
theorem dX11_price_81 : decode cX11_price 81 = .ok (.iastore, 1) := by decide +kernel
theorem dX11_price_82 : decode cX11_price 82 = .ok (.aload_n 0, 1) := by decide +kernel
theorem dX11_price_83 : decode cX11_price 83 = .ok (.getfield 73, 3) := by decide +kernel
theorem dX11_price_86 : decode cX11_price 86 = .ok (.aload_n 0, 1) := by decide +kernel
theorem dX11_price_87 : decode cX11_price 87 = .ok (.getfield 266, 3) := by decide +kernel
theorem dX11_price_90 : decode cX11_price 90 = .ok (.iload 4, 2) := by decide +kernel
theorem dX11_price_92 : decode cX11_price 92 = .ok (.iastore, 1) := by decide +kernel
theorem dX11_price_93 : decode cX11_price 93 = .ok (.aload_n 0, 1) := by decide +kernel
theorem dX11_price_94 : decode cX11_price 94 = .ok (.dup, 1) := by decide +kernel
theorem dX11_price_95 : decode cX11_price 95 = .ok (.getfield 266, 3) := by decide +kernel
theorem dX11_price_98 : decode cX11_price 98 = .ok (.iconst 1, 1) := by decide +kernel
theorem dX11_price_99 : decode cX11_price 99 = .ok (.iadd, 1) := by decide +kernel
theorem dX11_price_100 : decode cX11_price 100 = .ok (.putfield 266, 3) := by decide +kernel
theorem dX11_price_103 : decode cX11_price 103 = .ok (.aload_n 0, 1) := by decide +kernel
theorem dX11_price_104 : decode cX11_price 104 = .ok (.getfield 266, 3) := by decide +kernel
theorem dX11_price_107 : decode cX11_price 107 = .ok (.ireturn, 1) := by decide +kernel
theorem dX11_priceAt_0 : decode cX11_priceAt 0 = .ok (.bipush (-6), 2) := by decide +kernel
theorem dX11_priceAt_2 : decode cX11_priceAt 2 = .ok (.istore 4, 2) := by decide +kernel
theorem dX11_priceAt_4 : decode cX11_priceAt 4 = .ok (.iconst 0, 1) := by decide +kernel
theorem dX11_priceAt_5 : decode cX11_priceAt 5 = .ok (.istore 5, 2) := by decide +kernel
theorem dX11_priceAt_7 : decode cX11_priceAt 7 = .ok (.iload 5, 2) := by decide +kernel
theorem dX11_priceAt_9 : decode cX11_priceAt 9 = .ok (.aload_n 0, 1) := by decide +kernel
theorem dX11_priceAt_10 : decode cX11_priceAt 10 = .ok (.getfield 266, 3) := by decide +kernel
theorem dX11_priceAt_13 : decode cX11_priceAt 13 = .ok (.if_icmp .ge 85, 3) := by decide +kernel
theorem dX11_priceAt_16 : decode cX11_priceAt 16 = .ok (.aload_n 0, 1) := by decide +kernel
theorem dX11_priceAt_17 : decode cX11_priceAt 17 = .ok (.getfield 64, 3) := by decide +kernel
theorem dX11_priceAt_20 : decode cX11_priceAt 20 = .ok (.iload 5, 2) := by decide +kernel
theorem dX11_priceAt_22 : decode cX11_priceAt 22 = .ok (.iaload, 1) := by decide +kernel
theorem dX11_priceAt_23 : decode cX11_priceAt 23 = .ok (.iload_n 1, 1) := by decide +kernel
theorem dX11_priceAt_24 : decode cX11_priceAt 24 = .ok (.if_icmp .ne 29, 3) := by decide +kernel
theorem dX11_priceAt_27 : decode cX11_priceAt 27 = .ok (.aload_n 0, 1) := by decide +kernel
theorem dX11_priceAt_28 : decode cX11_priceAt 28 = .ok (.getfield 73, 3) := by decide +kernel
theorem dX11_priceAt_31 : decode cX11_priceAt 31 = .ok (.iload 5, 2) := by decide +kernel
theorem dX11_priceAt_33 : decode cX11_priceAt 33 = .ok (.iaload, 1) := by decide +kernel
theorem dX11_priceAt_34 : decode cX11_priceAt 34 = .ok (.iload_n 3, 1) := by decide +kernel
theorem dX11_priceAt_35 : decode cX11_priceAt 35 = .ok (.if_icmp .gt 18, 3) := by decide +kernel
theorem dX11_priceAt_38 : decode cX11_priceAt 38 = .ok (.aload_n 0, 1) := by decide +kernel
theorem dX11_priceAt_39 : decode cX11_priceAt 39 = .ok (.getfield 67, 3) := by decide +kernel
theorem dX11_priceAt_42 : decode cX11_priceAt 42 = .ok (.iload 5, 2) := by decide +kernel
theorem dX11_priceAt_44 : decode cX11_priceAt 44 = .ok (.iaload, 1) := by decide +kernel
theorem dX11_priceAt_45 : decode cX11_priceAt 45 = .ok (.iload_n 2, 1) := by decide +kernel
theorem dX11_priceAt_46 : decode cX11_priceAt 46 = .ok (.if_icmp .gt 7, 3) := by decide +kernel
theorem dX11_priceAt_49 : decode cX11_priceAt 49 = .ok (.iconst 1, 1) := by decide +kernel
theorem dX11_priceAt_50 : decode cX11_priceAt 50 = .ok (.goto 4, 3) := by decide +kernel
theorem dX11_priceAt_53 : decode cX11_priceAt 53 = .ok (.iconst 0, 1) := by decide +kernel
theorem dX11_priceAt_54 : decode cX11_priceAt 54 = .ok (.istore 6, 2) := by decide +kernel
theorem dX11_priceAt_56 : decode cX11_priceAt 56 = .ok (.iload 6, 2) := by decide +kernel
theorem dX11_priceAt_58 : decode cX11_priceAt 58 = .ok (.ifCond .eq 30, 3) := by decide +kernel
theorem dX11_priceAt_61 : decode cX11_priceAt 61 = .ok (.iload 4, 2) := by decide +kernel
theorem dX11_priceAt_63 : decode cX11_priceAt 63 = .ok (.ifCond .lt 20, 3) := by decide +kernel
theorem dX11_priceAt_66 : decode cX11_priceAt 66 = .ok (.aload_n 0, 1) := by decide +kernel
theorem dX11_priceAt_67 : decode cX11_priceAt 67 = .ok (.getfield 67, 3) := by decide +kernel
theorem dX11_priceAt_70 : decode cX11_priceAt 70 = .ok (.iload 5, 2) := by decide +kernel
theorem dX11_priceAt_72 : decode cX11_priceAt 72 = .ok (.iaload, 1) := by decide +kernel
theorem dX11_priceAt_73 : decode cX11_priceAt 73 = .ok (.aload_n 0, 1) := by decide +kernel
theorem dX11_priceAt_74 : decode cX11_priceAt 74 = .ok (.getfield 67, 3) := by decide +kernel
theorem dX11_priceAt_77 : decode cX11_priceAt 77 = .ok (.iload 4, 2) := by decide +kernel
theorem dX11_priceAt_79 : decode cX11_priceAt 79 = .ok (.iaload, 1) := by decide +kernel
theorem dX11_priceAt_80 : decode cX11_priceAt 80 = .ok (.if_icmp .lt 8, 3) := by decide +kernel
theorem dX11_priceAt_83 : decode cX11_priceAt 83 = .ok (.iload 5, 2) := by decide +kernel
theorem dX11_priceAt_85 : decode cX11_priceAt 85 = .ok (.goto 5, 3) := by decide +kernel
theorem dX11_priceAt_88 : decode cX11_priceAt 88 = .ok (.iload 4, 2) := by decide +kernel
theorem dX11_priceAt_90 : decode cX11_priceAt 90 = .ok (.istore 4, 2) := by decide +kernel
theorem dX11_priceAt_92 : decode cX11_priceAt 92 = .ok (.iinc 5 1, 3) := by decide +kernel
theorem dX11_priceAt_95 : decode cX11_priceAt 95 = .ok (.goto (-88), 3) := by decide +kernel
theorem dX11_priceAt_98 : decode cX11_priceAt 98 = .ok (.iload 4, 2) := by decide +kernel
theorem dX11_priceAt_100 : decode cX11_priceAt 100 = .ok (.ifCond .ge 7, 3) := by decide +kernel
theorem dX11_priceAt_103 : decode cX11_priceAt 103 = .ok (.iconst 0, 1) := by decide +kernel
theorem dX11_priceAt_104 : decode cX11_priceAt 104 = .ok (.goto 10, 3) := by decide +kernel
theorem dX11_priceAt_107 : decode cX11_priceAt 107 = .ok (.aload_n 0, 1) := by decide +kernel
theorem dX11_priceAt_108 : decode cX11_priceAt 108 = .ok (.getfield 70, 3) := by decide +kernel
theorem dX11_priceAt_111 : decode cX11_priceAt 111 = .ok (.iload 4, 2) := by decide +kernel
theorem dX11_priceAt_113 : decode cX11_priceAt 113 = .ok (.iaload, 1) := by decide +kernel
theorem dX11_priceAt_114 : decode cX11_priceAt 114 = .ok (.ireturn, 1) := by decide +kernel
theorem dX11_priceOn_0 : decode cX11_priceOn 0 = .ok (.iload_n 1, 1) := by decide +kernel
theorem dX11_priceOn_1 : decode cX11_priceOn 1 = .ok (.iconst 0, 1) := by decide +kernel
theorem dX11_priceOn_2 : decode cX11_priceOn 2 = .ok (.iconst 1, 1) := by decide +kernel
theorem dX11_priceOn_3 : decode cX11_priceOn 3 = .ok (.invokestatic 94, 3) := by decide +kernel
theorem dX11_priceOn_6 : decode cX11_priceOn 6 = .ok (.ifCond .ne 5, 3) := by decide +kernel
theorem dX11_priceOn_9 : decode cX11_priceOn 9 = .ok (.iconst (-1), 1) := by decide +kernel
theorem dX11_priceOn_10 : decode cX11_priceOn 10 = .ok (.ireturn, 1) := by decide +kernel
theorem dX11_priceOn_11 : decode cX11_priceOn 11 = .ok (.iload_n 2, 1) := by decide +kernel
theorem dX11_priceOn_12 : decode cX11_priceOn 12 = .ok (.invokestatic 110, 3) := by decide +kernel
theorem dX11_priceOn_15 : decode cX11_priceOn 15 = .ok (.ifCond .eq 20, 3) := by decide +kernel
theorem dX11_priceOn_18 : decode cX11_priceOn 18 = .ok (.iload_n 3, 1) := by decide +kernel
theorem dX11_priceOn_19 : decode cX11_priceOn 19 = .ok (.invokestatic 110, 3) := by decide +kernel
theorem dX11_priceOn_22 : decode cX11_priceOn 22 = .ok (.ifCond .eq 13, 3) := by decide +kernel
theorem dX11_priceOn_25 : decode cX11_priceOn 25 = .ok (.aload_n 0, 1) := by decide +kernel
theorem dX11_priceOn_26 : decode cX11_priceOn 26 = .ok (.iload_n 1, 1) := by decide +kernel
theorem dX11_priceOn_27 : decode cX11_priceOn 27 = .ok (.iload_n 2, 1) := by decide +kernel
theorem dX11_priceOn_28 : decode cX11_priceOn 28 = .ok (.iload_n 3, 1) := by decide +kernel
theorem dX11_priceOn_29 : decode cX11_priceOn 29 = .ok (.invokevirtual 269, 3) := by decide +kernel
theorem dX11_priceOn_32 : decode cX11_priceOn 32 = .ok (.goto 5, 3) := by decide +kernel
theorem dX11_priceOn_35 : decode cX11_priceOn 35 = .ok (.bipush (-2), 2) := by decide +kernel
theorem dX11_priceOn_37 : decode cX11_priceOn 37 = .ok (.ireturn, 1) := by decide +kernel
theorem dX11_gain_0 : decode cX11_gain 0 = .ok (.iload_n 2, 1) := by decide +kernel
theorem dX11_gain_1 : decode cX11_gain 1 = .ok (.aload_n 0, 1) := by decide +kernel
theorem dX11_gain_2 : decode cX11_gain 2 = .ok (.iconst 0, 1) := by decide +kernel
theorem dX11_gain_3 : decode cX11_gain 3 = .ok (.aload_n 0, 1) := by decide +kernel
theorem dX11_gain_4 : decode cX11_gain 4 = .ok (.getfield 58, 3) := by decide +kernel
theorem dX11_gain_7 : decode cX11_gain 7 = .ok (.iload_n 1, 1) := by decide +kernel
theorem dX11_gain_8 : decode cX11_gain 8 = .ok (.iaload, 1) := by decide +kernel
theorem dX11_gain_9 : decode cX11_gain 9 = .ok (.iload 4, 2) := by decide +kernel
theorem dX11_gain_11 : decode cX11_gain 11 = .ok (.invokevirtual 269, 3) := by decide +kernel
theorem dX11_gain_14 : decode cX11_gain 14 = .ok (.imul, 1) := by decide +kernel
theorem dX11_gain_15 : decode cX11_gain 15 = .ok (.iload_n 3, 1) := by decide +kernel
theorem dX11_gain_16 : decode cX11_gain 16 = .ok (.aload_n 0, 1) := by decide +kernel
theorem dX11_gain_17 : decode cX11_gain 17 = .ok (.iconst 1, 1) := by decide +kernel
theorem dX11_gain_18 : decode cX11_gain 18 = .ok (.aload_n 0, 1) := by decide +kernel
theorem dX11_gain_19 : decode cX11_gain 19 = .ok (.getfield 58, 3) := by decide +kernel
theorem dX11_gain_22 : decode cX11_gain 22 = .ok (.iload_n 1, 1) := by decide +kernel
theorem dX11_gain_23 : decode cX11_gain 23 = .ok (.iaload, 1) := by decide +kernel
theorem dX11_gain_24 : decode cX11_gain 24 = .ok (.iload 4, 2) := by decide +kernel
theorem dX11_gain_26 : decode cX11_gain 26 = .ok (.invokevirtual 269, 3) := by decide +kernel
theorem dX11_gain_29 : decode cX11_gain 29 = .ok (.imul, 1) := by decide +kernel
theorem dX11_gain_30 : decode cX11_gain 30 = .ok (.iadd, 1) := by decide +kernel
theorem dX11_gain_31 : decode cX11_gain 31 = .ok (.ireturn, 1) := by decide +kernel
theorem dX11_layMost_0 : decode cX11_layMost 0 = .ok (.iconst 0, 1) := by decide +kernel
theorem dX11_layMost_1 : decode cX11_layMost 1 = .ok (.istore_n 2, 1) := by decide +kernel
theorem dX11_layMost_2 : decode cX11_layMost 2 = .ok (.iload_n 2, 1) := by decide +kernel
theorem dX11_layMost_3 : decode cX11_layMost 3 = .ok (.sipush 441, 3) := by decide +kernel
theorem dX11_layMost_6 : decode cX11_layMost 6 = .ok (.if_icmp .ge 20, 3) := by decide +kernel
theorem dX11_layMost_9 : decode cX11_layMost 9 = .ok (.aload_n 0, 1) := by decide +kernel
theorem dX11_layMost_10 : decode cX11_layMost 10 = .ok (.getfield 91, 3) := by decide +kernel
theorem dX11_layMost_13 : decode cX11_layMost 13 = .ok (.sipush 1764, 3) := by decide +kernel
theorem dX11_layMost_16 : decode cX11_layMost 16 = .ok (.iload_n 2, 1) := by decide +kernel
theorem dX11_layMost_17 : decode cX11_layMost 17 = .ok (.iadd, 1) := by decide +kernel
theorem dX11_layMost_18 : decode cX11_layMost 18 = .ok (.iconst 0, 1) := by decide +kernel
theorem dX11_layMost_19 : decode cX11_layMost 19 = .ok (.iastore, 1) := by decide +kernel
theorem dX11_layMost_20 : decode cX11_layMost 20 = .ok (.iinc 2 1, 3) := by decide +kernel
theorem dX11_layMost_23 : decode cX11_layMost 23 = .ok (.goto (-21), 3) := by decide +kernel
theorem dX11_layMost_26 : decode cX11_layMost 26 = .ok (.iconst 3, 1) := by decide +kernel
theorem dX11_layMost_27 : decode cX11_layMost 27 = .ok (.istore_n 2, 1) := by decide +kernel
theorem dX11_layMost_28 : decode cX11_layMost 28 = .ok (.iload_n 2, 1) := by decide +kernel
theorem dX11_layMost_29 : decode cX11_layMost 29 = .ok (.ifCond .lt 187, 3) := by decide +kernel
theorem dX11_layMost_32 : decode cX11_layMost 32 = .ok (.aload_n 0, 1) := by decide +kernel
theorem dX11_layMost_33 : decode cX11_layMost 33 = .ok (.iconst 0, 1) := by decide +kernel
theorem dX11_layMost_34 : decode cX11_layMost 34 = .ok (.aload_n 0, 1) := by decide +kernel
theorem dX11_layMost_35 : decode cX11_layMost 35 = .ok (.getfield 58, 3) := by decide +kernel
theorem dX11_layMost_38 : decode cX11_layMost 38 = .ok (.iload_n 2, 1) := by decide +kernel
theorem dX11_layMost_39 : decode cX11_layMost 39 = .ok (.iaload, 1) := by decide +kernel
theorem dX11_layMost_40 : decode cX11_layMost 40 = .ok (.iload_n 1, 1) := by decide +kernel
theorem dX11_layMost_41 : decode cX11_layMost 41 = .ok (.invokevirtual 269, 3) := by decide +kernel
theorem dX11_layMost_44 : decode cX11_layMost 44 = .ok (.istore_n 3, 1) := by decide +kernel
theorem dX11_layMost_45 : decode cX11_layMost 45 = .ok (.aload_n 0, 1) := by decide +kernel
theorem dX11_layMost_46 : decode cX11_layMost 46 = .ok (.iconst 1, 1) := by decide +kernel
theorem dX11_layMost_47 : decode cX11_layMost 47 = .ok (.aload_n 0, 1) := by decide +kernel
theorem dX11_layMost_48 : decode cX11_layMost 48 = .ok (.getfield 58, 3) := by decide +kernel
theorem dX11_layMost_51 : decode cX11_layMost 51 = .ok (.iload_n 2, 1) := by decide +kernel
theorem dX11_layMost_52 : decode cX11_layMost 52 = .ok (.iaload, 1) := by decide +kernel
theorem dX11_layMost_53 : decode cX11_layMost 53 = .ok (.iload_n 1, 1) := by decide +kernel
theorem dX11_layMost_54 : decode cX11_layMost 54 = .ok (.invokevirtual 269, 3) := by decide +kernel
theorem dX11_layMost_57 : decode cX11_layMost 57 = .ok (.istore 4, 2) := by decide +kernel
theorem dX11_layMost_59 : decode cX11_layMost 59 = .ok (.iconst 0, 1) := by decide +kernel
theorem dX11_layMost_60 : decode cX11_layMost 60 = .ok (.istore 5, 2) := by decide +kernel
theorem dX11_layMost_62 : decode cX11_layMost 62 = .ok (.iload 5, 2) := by decide +kernel
theorem dX11_layMost_64 : decode cX11_layMost 64 = .ok (.sipush 441, 3) := by decide +kernel
theorem dX11_layMost_67 : decode cX11_layMost 67 = .ok (.if_icmp .ge 143, 3) := by decide +kernel
theorem dX11_layMost_70 : decode cX11_layMost 70 = .ok (.iconst 0, 1) := by decide +kernel
theorem dX11_layMost_71 : decode cX11_layMost 71 = .ok (.istore 6, 2) := by decide +kernel
theorem dX11_layMost_73 : decode cX11_layMost 73 = .ok (.iconst 0, 1) := by decide +kernel
theorem dX11_layMost_74 : decode cX11_layMost 74 = .ok (.istore 7, 2) := by decide +kernel
theorem dX11_layMost_76 : decode cX11_layMost 76 = .ok (.iload 7, 2) := by decide +kernel
theorem dX11_layMost_78 : decode cX11_layMost 78 = .ok (.iload 5, 2) := by decide +kernel
theorem dX11_layMost_80 : decode cX11_layMost 80 = .ok (.bipush 21, 2) := by decide +kernel
theorem dX11_layMost_82 : decode cX11_layMost 82 = .ok (.idiv, 1) := by decide +kernel
theorem dX11_layMost_83 : decode cX11_layMost 83 = .ok (.if_icmp .gt 106, 3) := by decide +kernel
theorem dX11_layMost_86 : decode cX11_layMost 86 = .ok (.iload 7, 2) := by decide +kernel
theorem dX11_layMost_88 : decode cX11_layMost 88 = .ok (.aload_n 0, 1) := by decide +kernel
theorem dX11_layMost_89 : decode cX11_layMost 89 = .ok (.getfield 61, 3) := by decide +kernel
theorem dX11_layMost_92 : decode cX11_layMost 92 = .ok (.iload_n 2, 1) := by decide +kernel
theorem dX11_layMost_93 : decode cX11_layMost 93 = .ok (.iaload, 1) := by decide +kernel
theorem dX11_layMost_94 : decode cX11_layMost 94 = .ok (.if_icmp .gt 95, 3) := by decide +kernel
theorem dX11_layMost_97 : decode cX11_layMost 97 = .ok (.iconst 0, 1) := by decide +kernel
theorem dX11_layMost_98 : decode cX11_layMost 98 = .ok (.istore 8, 2) := by decide +kernel
theorem dX11_layMost_100 : decode cX11_layMost 100 = .ok (.iload 8, 2) := by decide +kernel
theorem dX11_layMost_102 : decode cX11_layMost 102 = .ok (.iload 5, 2) := by decide +kernel
theorem dX11_layMost_104 : decode cX11_layMost 104 = .ok (.bipush 21, 2) := by decide +kernel
theorem dX11_layMost_106 : decode cX11_layMost 106 = .ok (.irem, 1) := by decide +kernel
theorem dX11_layMost_107 : decode cX11_layMost 107 = .ok (.if_icmp .gt 76, 3) := by decide +kernel
theorem dX11_layMost_110 : decode cX11_layMost 110 = .ok (.iload 7, 2) := by decide +kernel
theorem dX11_layMost_112 : decode cX11_layMost 112 = .ok (.iload 8, 2) := by decide +kernel
theorem dX11_layMost_114 : decode cX11_layMost 114 = .ok (.iadd, 1) := by decide +kernel
theorem dX11_layMost_115 : decode cX11_layMost 115 = .ok (.aload_n 0, 1) := by decide +kernel
theorem dX11_layMost_116 : decode cX11_layMost 116 = .ok (.getfield 61, 3) := by decide +kernel
theorem dX11_layMost_119 : decode cX11_layMost 119 = .ok (.iload_n 2, 1) := by decide +kernel
theorem dX11_layMost_120 : decode cX11_layMost 120 = .ok (.iaload, 1) := by decide +kernel
theorem dX11_layMost_121 : decode cX11_layMost 121 = .ok (.if_icmp .gt 62, 3) := by decide +kernel
theorem dX11_layMost_124 : decode cX11_layMost 124 = .ok (.iload 7, 2) := by decide +kernel
theorem dX11_layMost_126 : decode cX11_layMost 126 = .ok (.iload_n 3, 1) := by decide +kernel
theorem dX11_layMost_127 : decode cX11_layMost 127 = .ok (.imul, 1) := by decide +kernel
theorem dX11_layMost_128 : decode cX11_layMost 128 = .ok (.iload 8, 2) := by decide +kernel
theorem dX11_layMost_130 : decode cX11_layMost 130 = .ok (.iload 4, 2) := by decide +kernel
theorem dX11_layMost_132 : decode cX11_layMost 132 = .ok (.imul, 1) := by decide +kernel
theorem dX11_layMost_133 : decode cX11_layMost 133 = .ok (.iadd, 1) := by decide +kernel
theorem dX11_layMost_134 : decode cX11_layMost 134 = .ok (.aload_n 0, 1) := by decide +kernel
theorem dX11_layMost_135 : decode cX11_layMost 135 = .ok (.getfield 91, 3) := by decide +kernel
theorem dX11_layMost_138 : decode cX11_layMost 138 = .ok (.sipush 441, 3) := by decide +kernel
theorem dX11_layMost_141 : decode cX11_layMost 141 = .ok (.iload_n 2, 1) := by decide +kernel
theorem dX11_layMost_142 : decode cX11_layMost 142 = .ok (.iconst 1, 1) := by decide +kernel
theorem dX11_layMost_143 : decode cX11_layMost 143 = .ok (.iadd, 1) := by decide +kernel
theorem dX11_layMost_144 : decode cX11_layMost 144 = .ok (.imul, 1) := by decide +kernel
theorem dX11_layMost_145 : decode cX11_layMost 145 = .ok (.iload 5, 2) := by decide +kernel
theorem dX11_layMost_147 : decode cX11_layMost 147 = .ok (.iadd, 1) := by decide +kernel
theorem dX11_layMost_148 : decode cX11_layMost 148 = .ok (.bipush 21, 2) := by decide +kernel
theorem dX11_layMost_150 : decode cX11_layMost 150 = .ok (.iload 7, 2) := by decide +kernel
theorem dX11_layMost_152 : decode cX11_layMost 152 = .ok (.imul, 1) := by decide +kernel
theorem dX11_layMost_153 : decode cX11_layMost 153 = .ok (.isub, 1) := by decide +kernel
theorem dX11_layMost_154 : decode cX11_layMost 154 = .ok (.iload 8, 2) := by decide +kernel
theorem dX11_layMost_156 : decode cX11_layMost 156 = .ok (.isub, 1) := by decide +kernel
theorem dX11_layMost_157 : decode cX11_layMost 157 = .ok (.iaload, 1) := by decide +kernel
theorem dX11_layMost_158 : decode cX11_layMost 158 = .ok (.iadd, 1) := by decide +kernel
theorem dX11_layMost_159 : decode cX11_layMost 159 = .ok (.istore 9, 2) := by decide +kernel
theorem dX11_layMost_161 : decode cX11_layMost 161 = .ok (.iload 9, 2) := by decide +kernel
theorem dX11_layMost_163 : decode cX11_layMost 163 = .ok (.iload 6, 2) := by decide +kernel
theorem dX11_layMost_165 : decode cX11_layMost 165 = .ok (.if_icmp .le 8, 3) := by decide +kernel
theorem dX11_layMost_168 : decode cX11_layMost 168 = .ok (.iload 9, 2) := by decide +kernel
theorem dX11_layMost_170 : decode cX11_layMost 170 = .ok (.goto 5, 3) := by decide +kernel
theorem dX11_layMost_173 : decode cX11_layMost 173 = .ok (.iload 6, 2) := by decide +kernel
theorem dX11_layMost_175 : decode cX11_layMost 175 = .ok (.istore 6, 2) := by decide +kernel
theorem dX11_layMost_177 : decode cX11_layMost 177 = .ok (.iinc 8 1, 3) := by decide +kernel
theorem dX11_layMost_180 : decode cX11_layMost 180 = .ok (.goto (-80), 3) := by decide +kernel
theorem dX11_layMost_183 : decode cX11_layMost 183 = .ok (.iinc 7 1, 3) := by decide +kernel
theorem dX11_layMost_186 : decode cX11_layMost 186 = .ok (.goto (-110), 3) := by decide +kernel
theorem dX11_layMost_189 : decode cX11_layMost 189 = .ok (.aload_n 0, 1) := by decide +kernel
theorem dX11_layMost_190 : decode cX11_layMost 190 = .ok (.getfield 91, 3) := by decide +kernel
theorem dX11_layMost_193 : decode cX11_layMost 193 = .ok (.sipush 441, 3) := by decide +kernel
theorem dX11_layMost_196 : decode cX11_layMost 196 = .ok (.iload_n 2, 1) := by decide +kernel
theorem dX11_layMost_197 : decode cX11_layMost 197 = .ok (.imul, 1) := by decide +kernel
theorem dX11_layMost_198 : decode cX11_layMost 198 = .ok (.iload 5, 2) := by decide +kernel
theorem dX11_layMost_200 : decode cX11_layMost 200 = .ok (.iadd, 1) := by decide +kernel
theorem dX11_layMost_201 : decode cX11_layMost 201 = .ok (.iload 6, 2) := by decide +kernel
theorem dX11_layMost_203 : decode cX11_layMost 203 = .ok (.iastore, 1) := by decide +kernel
theorem dX11_layMost_204 : decode cX11_layMost 204 = .ok (.iinc 5 1, 3) := by decide +kernel
theorem dX11_layMost_207 : decode cX11_layMost 207 = .ok (.goto (-145), 3) := by decide +kernel
theorem dX11_layMost_210 : decode cX11_layMost 210 = .ok (.iinc 2 (-1), 3) := by decide +kernel
theorem dX11_layMost_213 : decode cX11_layMost 213 = .ok (.goto (-185), 3) := by decide +kernel
theorem dX11_layMost_216 : decode cX11_layMost 216 = .ok (.return_, 1) := by decide +kernel
theorem dX11_load_0 : decode cX11_load 0 = .ok (.iload_n 1, 1) := by decide +kernel
theorem dX11_load_1 : decode cX11_load 1 = .ok (.iconst 0, 1) := by decide +kernel
theorem dX11_load_2 : decode cX11_load 2 = .ok (.bipush 20, 2) := by decide +kernel
theorem dX11_load_4 : decode cX11_load 4 = .ok (.invokestatic 94, 3) := by decide +kernel
theorem dX11_load_7 : decode cX11_load 7 = .ok (.ifCond .eq 20, 3) := by decide +kernel
theorem dX11_load_10 : decode cX11_load 10 = .ok (.iload_n 2, 1) := by decide +kernel
theorem dX11_load_11 : decode cX11_load 11 = .ok (.iconst 0, 1) := by decide +kernel
theorem dX11_load_12 : decode cX11_load 12 = .ok (.bipush 20, 2) := by decide +kernel
theorem dX11_load_14 : decode cX11_load 14 = .ok (.invokestatic 94, 3) := by decide +kernel
theorem dX11_load_17 : decode cX11_load 17 = .ok (.ifCond .eq 10, 3) := by decide +kernel
theorem dX11_load_20 : decode cX11_load 20 = .ok (.iload_n 3, 1) := by decide +kernel
theorem dX11_load_21 : decode cX11_load 21 = .ok (.invokestatic 110, 3) := by decide +kernel
theorem dX11_load_24 : decode cX11_load 24 = .ok (.ifCond .ne 6, 3) := by decide +kernel
theorem dX11_load_27 : decode cX11_load 27 = .ok (.bipush (-2), 2) := by decide +kernel
theorem dX11_load_29 : decode cX11_load 29 = .ok (.ireturn, 1) := by decide +kernel
theorem dX11_load_30 : decode cX11_load 30 = .ok (.aload_n 0, 1) := by decide +kernel
theorem dX11_load_31 : decode cX11_load 31 = .ok (.iload_n 3, 1) := by decide +kernel
theorem dX11_load_32 : decode cX11_load 32 = .ok (.invokevirtual 272, 3) := by decide +kernel
theorem dX11_load_35 : decode cX11_load 35 = .ok (.bipush 21, 2) := by decide +kernel
theorem dX11_load_37 : decode cX11_load 37 = .ok (.iload_n 1, 1) := by decide +kernel
theorem dX11_load_38 : decode cX11_load 38 = .ok (.imul, 1) := by decide +kernel
theorem dX11_load_39 : decode cX11_load 39 = .ok (.iload_n 2, 1) := by decide +kernel
theorem dX11_load_40 : decode cX11_load 40 = .ok (.iadd, 1) := by decide +kernel
theorem dX11_load_41 : decode cX11_load 41 = .ok (.istore 5, 2) := by decide +kernel
theorem dX11_load_43 : decode cX11_load 43 = .ok (.iload 4, 2) := by decide +kernel
theorem dX11_load_45 : decode cX11_load 45 = .ok (.iconst (-1), 1) := by decide +kernel
theorem dX11_load_46 : decode cX11_load 46 = .ok (.if_icmp .ne 11, 3) := by decide +kernel
theorem dX11_load_49 : decode cX11_load 49 = .ok (.aload_n 0, 1) := by decide +kernel
theorem dX11_load_50 : decode cX11_load 50 = .ok (.getfield 91, 3) := by decide +kernel
theorem dX11_load_53 : decode cX11_load 53 = .ok (.iload 5, 2) := by decide +kernel
theorem dX11_load_55 : decode cX11_load 55 = .ok (.iaload, 1) := by decide +kernel
theorem dX11_load_56 : decode cX11_load 56 = .ok (.ireturn, 1) := by decide +kernel
theorem dX11_load_57 : decode cX11_load 57 = .ok (.bipush (-6), 2) := by decide +kernel
theorem dX11_load_59 : decode cX11_load 59 = .ok (.istore 6, 2) := by decide +kernel
theorem dX11_load_61 : decode cX11_load 61 = .ok (.iconst 0, 1) := by decide +kernel
theorem dX11_load_62 : decode cX11_load 62 = .ok (.istore 7, 2) := by decide +kernel
theorem dX11_load_64 : decode cX11_load 64 = .ok (.iload 7, 2) := by decide +kernel
theorem dX11_load_66 : decode cX11_load 66 = .ok (.iload 4, 2) := by decide +kernel
theorem dX11_load_68 : decode cX11_load 68 = .ok (.if_icmp .gt 170, 3) := by decide +kernel
theorem dX11_load_71 : decode cX11_load 71 = .ok (.iload 7, 2) := by decide +kernel
theorem dX11_load_73 : decode cX11_load 73 = .ok (.iconst 4, 1) := by decide +kernel
theorem dX11_load_74 : decode cX11_load 74 = .ok (.if_icmp .ge 164, 3) := by decide +kernel
theorem dX11_load_77 : decode cX11_load 77 = .ok (.bipush (-6), 2) := by decide +kernel
theorem dX11_load_79 : decode cX11_load 79 = .ok (.istore 6, 2) := by decide +kernel
theorem dX11_load_81 : decode cX11_load 81 = .ok (.iconst 0, 1) := by decide +kernel
theorem dX11_load_82 : decode cX11_load 82 = .ok (.istore 8, 2) := by decide +kernel
theorem dX11_load_84 : decode cX11_load 84 = .ok (.iload 8, 2) := by decide +kernel
theorem dX11_load_86 : decode cX11_load 86 = .ok (.iload 5, 2) := by decide +kernel
theorem dX11_load_88 : decode cX11_load 88 = .ok (.bipush 21, 2) := by decide +kernel
theorem dX11_load_90 : decode cX11_load 90 = .ok (.idiv, 1) := by decide +kernel
theorem dX11_load_91 : decode cX11_load 91 = .ok (.if_icmp .gt 122, 3) := by decide +kernel
theorem dX11_load_94 : decode cX11_load 94 = .ok (.iload 6, 2) := by decide +kernel
theorem dX11_load_96 : decode cX11_load 96 = .ok (.ifCond .ge 117, 3) := by decide +kernel
theorem dX11_load_99 : decode cX11_load 99 = .ok (.iconst 0, 1) := by decide +kernel
theorem dX11_load_100 : decode cX11_load 100 = .ok (.istore 9, 2) := by decide +kernel
theorem dX11_load_102 : decode cX11_load 102 = .ok (.iload 9, 2) := by decide +kernel
theorem dX11_load_104 : decode cX11_load 104 = .ok (.iload 5, 2) := by decide +kernel
theorem dX11_load_106 : decode cX11_load 106 = .ok (.bipush 21, 2) := by decide +kernel
theorem dX11_load_108 : decode cX11_load 108 = .ok (.irem, 1) := by decide +kernel
theorem dX11_load_109 : decode cX11_load 109 = .ok (.if_icmp .gt 98, 3) := by decide +kernel
theorem dX11_load_112 : decode cX11_load 112 = .ok (.iload 8, 2) := by decide +kernel
theorem dX11_load_114 : decode cX11_load 114 = .ok (.iload 9, 2) := by decide +kernel
theorem dX11_load_116 : decode cX11_load 116 = .ok (.iadd, 1) := by decide +kernel
theorem dX11_load_117 : decode cX11_load 117 = .ok (.aload_n 0, 1) := by decide +kernel
theorem dX11_load_118 : decode cX11_load 118 = .ok (.getfield 61, 3) := by decide +kernel
theorem dX11_load_121 : decode cX11_load 121 = .ok (.iload 7, 2) := by decide +kernel
theorem dX11_load_123 : decode cX11_load 123 = .ok (.iaload, 1) := by decide +kernel
theorem dX11_load_124 : decode cX11_load 124 = .ok (.if_icmp .gt 83, 3) := by decide +kernel
theorem dX11_load_127 : decode cX11_load 127 = .ok (.iload 6, 2) := by decide +kernel
theorem dX11_load_129 : decode cX11_load 129 = .ok (.ifCond .ge 78, 3) := by decide +kernel
theorem dX11_load_132 : decode cX11_load 132 = .ok (.aload_n 0, 1) := by decide +kernel
theorem dX11_load_133 : decode cX11_load 133 = .ok (.iload 7, 2) := by decide +kernel
theorem dX11_load_135 : decode cX11_load 135 = .ok (.iload 8, 2) := by decide +kernel
theorem dX11_load_137 : decode cX11_load 137 = .ok (.iload 9, 2) := by decide +kernel
theorem dX11_load_139 : decode cX11_load 139 = .ok (.iload_n 3, 1) := by decide +kernel
theorem dX11_load_140 : decode cX11_load 140 = .ok (.invokevirtual 275, 3) := by decide +kernel
theorem dX11_load_143 : decode cX11_load 143 = .ok (.aload_n 0, 1) := by decide +kernel
theorem dX11_load_144 : decode cX11_load 144 = .ok (.getfield 91, 3) := by decide +kernel
theorem dX11_load_147 : decode cX11_load 147 = .ok (.sipush 441, 3) := by decide +kernel
theorem dX11_load_150 : decode cX11_load 150 = .ok (.iload 7, 2) := by decide +kernel
theorem dX11_load_152 : decode cX11_load 152 = .ok (.iconst 1, 1) := by decide +kernel
theorem dX11_load_153 : decode cX11_load 153 = .ok (.iadd, 1) := by decide +kernel
theorem dX11_load_154 : decode cX11_load 154 = .ok (.imul, 1) := by decide +kernel
theorem dX11_load_155 : decode cX11_load 155 = .ok (.iload 5, 2) := by decide +kernel
theorem dX11_load_157 : decode cX11_load 157 = .ok (.iadd, 1) := by decide +kernel
theorem dX11_load_158 : decode cX11_load 158 = .ok (.bipush 21, 2) := by decide +kernel
theorem dX11_load_160 : decode cX11_load 160 = .ok (.iload 8, 2) := by decide +kernel
theorem dX11_load_162 : decode cX11_load 162 = .ok (.imul, 1) := by decide +kernel
theorem dX11_load_163 : decode cX11_load 163 = .ok (.isub, 1) := by decide +kernel
theorem dX11_load_164 : decode cX11_load 164 = .ok (.iload 9, 2) := by decide +kernel
theorem dX11_load_166 : decode cX11_load 166 = .ok (.isub, 1) := by decide +kernel
theorem dX11_load_167 : decode cX11_load 167 = .ok (.iaload, 1) := by decide +kernel
theorem dX11_load_168 : decode cX11_load 168 = .ok (.iadd, 1) := by decide +kernel
theorem dX11_load_169 : decode cX11_load 169 = .ok (.aload_n 0, 1) := by decide +kernel
theorem dX11_load_170 : decode cX11_load 170 = .ok (.getfield 91, 3) := by decide +kernel
theorem dX11_load_173 : decode cX11_load 173 = .ok (.sipush 441, 3) := by decide +kernel
theorem dX11_load_176 : decode cX11_load 176 = .ok (.iload 7, 2) := by decide +kernel
theorem dX11_load_178 : decode cX11_load 178 = .ok (.imul, 1) := by decide +kernel
theorem dX11_load_179 : decode cX11_load 179 = .ok (.iload 5, 2) := by decide +kernel
theorem dX11_load_181 : decode cX11_load 181 = .ok (.iadd, 1) := by decide +kernel
theorem dX11_load_182 : decode cX11_load 182 = .ok (.iaload, 1) := by decide +kernel
theorem dX11_load_183 : decode cX11_load 183 = .ok (.if_icmp .ne 14, 3) := by decide +kernel
theorem dX11_load_186 : decode cX11_load 186 = .ok (.bipush 100, 2) := by decide +kernel
theorem dX11_load_188 : decode cX11_load 188 = .ok (.iload 8, 2) := by decide +kernel
theorem dX11_load_190 : decode cX11_load 190 = .ok (.imul, 1) := by decide +kernel
theorem dX11_load_191 : decode cX11_load 191 = .ok (.iload 9, 2) := by decide +kernel
theorem dX11_load_193 : decode cX11_load 193 = .ok (.iadd, 1) := by decide +kernel
theorem dX11_load_194 : decode cX11_load 194 = .ok (.goto 5, 3) := by decide +kernel
theorem dX11_load_197 : decode cX11_load 197 = .ok (.bipush (-6), 2) := by decide +kernel
theorem dX11_load_199 : decode cX11_load 199 = .ok (.istore 6, 2) := by decide +kernel
theorem dX11_load_201 : decode cX11_load 201 = .ok (.iinc 9 1, 3) := by decide +kernel
theorem dX11_load_204 : decode cX11_load 204 = .ok (.goto (-102), 3) := by decide +kernel
theorem dX11_load_207 : decode cX11_load 207 = .ok (.iinc 8 1, 3) := by decide +kernel
theorem dX11_load_210 : decode cX11_load 210 = .ok (.goto (-126), 3) := by decide +kernel
theorem dX11_load_213 : decode cX11_load 213 = .ok (.iload 5, 2) := by decide +kernel
theorem dX11_load_215 : decode cX11_load 215 = .ok (.bipush 21, 2) := by decide +kernel
theorem dX11_load_217 : decode cX11_load 217 = .ok (.iload 6, 2) := by decide +kernel
theorem dX11_load_219 : decode cX11_load 219 = .ok (.bipush 100, 2) := by decide +kernel
theorem dX11_load_221 : decode cX11_load 221 = .ok (.idiv, 1) := by decide +kernel
theorem dX11_load_222 : decode cX11_load 222 = .ok (.imul, 1) := by decide +kernel
theorem dX11_load_223 : decode cX11_load 223 = .ok (.iload 6, 2) := by decide +kernel
theorem dX11_load_225 : decode cX11_load 225 = .ok (.bipush 100, 2) := by decide +kernel
theorem dX11_load_227 : decode cX11_load 227 = .ok (.irem, 1) := by decide +kernel
theorem dX11_load_228 : decode cX11_load 228 = .ok (.iadd, 1) := by decide +kernel
theorem dX11_load_229 : decode cX11_load 229 = .ok (.isub, 1) := by decide +kernel
theorem dX11_load_230 : decode cX11_load 230 = .ok (.istore 5, 2) := by decide +kernel
theorem dX11_load_232 : decode cX11_load 232 = .ok (.iinc 7 1, 3) := by decide +kernel
theorem dX11_load_235 : decode cX11_load 235 = .ok (.goto (-171), 3) := by decide +kernel
theorem dX11_load_238 : decode cX11_load 238 = .ok (.iload 4, 2) := by decide +kernel
theorem dX11_load_240 : decode cX11_load 240 = .ok (.iconst 0, 1) := by decide +kernel
theorem dX11_load_241 : decode cX11_load 241 = .ok (.iconst 3, 1) := by decide +kernel
theorem dX11_load_242 : decode cX11_load 242 = .ok (.invokestatic 94, 3) := by decide +kernel
theorem dX11_load_245 : decode cX11_load 245 = .ok (.ifCond .eq 8, 3) := by decide +kernel
theorem dX11_load_248 : decode cX11_load 248 = .ok (.iload 6, 2) := by decide +kernel
theorem dX11_load_250 : decode cX11_load 250 = .ok (.goto 5, 3) := by decide +kernel
theorem dX11_load_253 : decode cX11_load 253 = .ok (.bipush (-6), 2) := by decide +kernel
theorem dX11_load_255 : decode cX11_load 255 = .ok (.ireturn, 1) := by decide +kernel
theorem dX11_told_0 : decode cX11_told 0 = .ok (.iconst 0, 1) := by decide +kernel
theorem dX11_told_1 : decode cX11_told 1 = .ok (.istore_n 2, 1) := by decide +kernel
theorem dX11_told_2 : decode cX11_told 2 = .ok (.iload_n 1, 1) := by decide +kernel
theorem dX11_told_3 : decode cX11_told 3 = .ok (.tableswitch 125 0 9 #[53, 58, 63, 68, 73, 78, 83, 88, 93, 98], 53) := by decide +kernel
theorem dX11_told_56 : decode cX11_told 56 = .ok (.aload_n 0, 1) := by decide +kernel
theorem dX11_told_57 : decode cX11_told 57 = .ok (.getfield 98, 3) := by decide +kernel
theorem dX11_told_60 : decode cX11_told 60 = .ok (.ireturn, 1) := by decide +kernel
theorem dX11_told_61 : decode cX11_told 61 = .ok (.aload_n 0, 1) := by decide +kernel
theorem dX11_told_62 : decode cX11_told 62 = .ok (.getfield 113, 3) := by decide +kernel
theorem dX11_told_65 : decode cX11_told 65 = .ok (.ireturn, 1) := by decide +kernel
theorem dX11_told_66 : decode cX11_told 66 = .ok (.aload_n 0, 1) := by decide +kernel
theorem dX11_told_67 : decode cX11_told 67 = .ok (.getfield 136, 3) := by decide +kernel
theorem dX11_told_70 : decode cX11_told 70 = .ok (.ireturn, 1) := by decide +kernel
theorem dX11_told_71 : decode cX11_told 71 = .ok (.aload_n 0, 1) := by decide +kernel
theorem dX11_told_72 : decode cX11_told 72 = .ok (.invokevirtual 142, 3) := by decide +kernel
theorem dX11_told_75 : decode cX11_told 75 = .ok (.ireturn, 1) := by decide +kernel
theorem dX11_told_76 : decode cX11_told 76 = .ok (.aload_n 0, 1) := by decide +kernel
theorem dX11_told_77 : decode cX11_told 77 = .ok (.getfield 164, 3) := by decide +kernel
theorem dX11_told_80 : decode cX11_told 80 = .ok (.ireturn, 1) := by decide +kernel
theorem dX11_told_81 : decode cX11_told 81 = .ok (.aload_n 0, 1) := by decide +kernel
theorem dX11_told_82 : decode cX11_told 82 = .ok (.getfield 201, 3) := by decide +kernel
theorem dX11_told_85 : decode cX11_told 85 = .ok (.ireturn, 1) := by decide +kernel
theorem dX11_told_86 : decode cX11_told 86 = .ok (.aload_n 0, 1) := by decide +kernel
theorem dX11_told_87 : decode cX11_told 87 = .ok (.getfield 223, 3) := by decide +kernel
theorem dX11_told_90 : decode cX11_told 90 = .ok (.ireturn, 1) := by decide +kernel
theorem dX11_told_91 : decode cX11_told 91 = .ok (.aload_n 0, 1) := by decide +kernel
theorem dX11_told_92 : decode cX11_told 92 = .ok (.getfield 266, 3) := by decide +kernel
theorem dX11_told_95 : decode cX11_told 95 = .ok (.ireturn, 1) := by decide +kernel
theorem dX11_told_96 : decode cX11_told 96 = .ok (.aload_n 0, 1) := by decide +kernel
theorem dX11_told_97 : decode cX11_told 97 = .ok (.invokevirtual 257, 3) := by decide +kernel
theorem dX11_told_100 : decode cX11_told 100 = .ok (.ireturn, 1) := by decide +kernel
theorem dX11_told_101 : decode cX11_told 101 = .ok (.iconst 0, 1) := by decide +kernel
theorem dX11_told_102 : decode cX11_told 102 = .ok (.istore_n 3, 1) := by decide +kernel
theorem dX11_told_103 : decode cX11_told 103 = .ok (.iload_n 3, 1) := by decide +kernel
theorem dX11_told_104 : decode cX11_told 104 = .ok (.iconst 4, 1) := by decide +kernel
theorem dX11_told_105 : decode cX11_told 105 = .ok (.if_icmp .ge 21, 3) := by decide +kernel
theorem dX11_told_108 : decode cX11_told 108 = .ok (.aload_n 0, 1) := by decide +kernel
theorem dX11_told_109 : decode cX11_told 109 = .ok (.iload_n 3, 1) := by decide +kernel
theorem dX11_told_110 : decode cX11_told 110 = .ok (.invokevirtual 160, 3) := by decide +kernel
theorem dX11_told_113 : decode cX11_told 113 = .ok (.iload_n 2, 1) := by decide +kernel
theorem dX11_told_114 : decode cX11_told 114 = .ok (.aload_n 0, 1) := by decide +kernel
theorem dX11_told_115 : decode cX11_told 115 = .ok (.invokevirtual 182, 3) := by decide +kernel
theorem dX11_told_118 : decode cX11_told 118 = .ok (.iadd, 1) := by decide +kernel
theorem dX11_told_119 : decode cX11_told 119 = .ok (.istore_n 2, 1) := by decide +kernel
theorem dX11_told_120 : decode cX11_told 120 = .ok (.iinc 3 1, 3) := by decide +kernel
theorem dX11_told_123 : decode cX11_told 123 = .ok (.goto (-20), 3) := by decide +kernel
theorem dX11_told_126 : decode cX11_told 126 = .ok (.iload_n 2, 1) := by decide +kernel
theorem dX11_told_127 : decode cX11_told 127 = .ok (.ireturn, 1) := by decide +kernel
theorem dX11_told_128 : decode cX11_told 128 = .ok (.bipush (-2), 2) := by decide +kernel
theorem dX11_told_130 : decode cX11_told 130 = .ok (.ireturn, 1) := by decide +kernel
theorem dJ6_bitCount_0f7a4_0 : decode cJ6_bitCount_0f7a4 0 = .ok (.iload_n 0, 1) := by decide +kernel
theorem dJ6_bitCount_0f7a4_1 : decode cJ6_bitCount_0f7a4 1 = .ok (.iload_n 0, 1) := by decide +kernel
theorem dJ6_bitCount_0f7a4_2 : decode cJ6_bitCount_0f7a4 2 = .ok (.iconst 1, 1) := by decide +kernel
theorem dJ6_bitCount_0f7a4_3 : decode cJ6_bitCount_0f7a4 3 = .ok (.iushr, 1) := by decide +kernel
theorem dJ6_bitCount_0f7a4_4 : decode cJ6_bitCount_0f7a4 4 = .ok (.ldc_w 265, 3) := by decide +kernel
theorem dJ6_bitCount_0f7a4_7 : decode cJ6_bitCount_0f7a4 7 = .ok (.iand, 1) := by decide +kernel
theorem dJ6_bitCount_0f7a4_8 : decode cJ6_bitCount_0f7a4 8 = .ok (.isub, 1) := by decide +kernel
theorem dJ6_bitCount_0f7a4_9 : decode cJ6_bitCount_0f7a4 9 = .ok (.istore_n 0, 1) := by decide +kernel
theorem dJ6_bitCount_0f7a4_10 : decode cJ6_bitCount_0f7a4 10 = .ok (.iload_n 0, 1) := by decide +kernel
theorem dJ6_bitCount_0f7a4_11 : decode cJ6_bitCount_0f7a4 11 = .ok (.ldc_w 266, 3) := by decide +kernel
theorem dJ6_bitCount_0f7a4_14 : decode cJ6_bitCount_0f7a4 14 = .ok (.iand, 1) := by decide +kernel
theorem dJ6_bitCount_0f7a4_15 : decode cJ6_bitCount_0f7a4 15 = .ok (.iload_n 0, 1) := by decide +kernel
theorem dJ6_bitCount_0f7a4_16 : decode cJ6_bitCount_0f7a4 16 = .ok (.iconst 2, 1) := by decide +kernel
theorem dJ6_bitCount_0f7a4_17 : decode cJ6_bitCount_0f7a4 17 = .ok (.iushr, 1) := by decide +kernel
theorem dJ6_bitCount_0f7a4_18 : decode cJ6_bitCount_0f7a4 18 = .ok (.ldc_w 266, 3) := by decide +kernel
theorem dJ6_bitCount_0f7a4_21 : decode cJ6_bitCount_0f7a4 21 = .ok (.iand, 1) := by decide +kernel
theorem dJ6_bitCount_0f7a4_22 : decode cJ6_bitCount_0f7a4 22 = .ok (.iadd, 1) := by decide +kernel
theorem dJ6_bitCount_0f7a4_23 : decode cJ6_bitCount_0f7a4 23 = .ok (.istore_n 0, 1) := by decide +kernel
theorem dJ6_bitCount_0f7a4_24 : decode cJ6_bitCount_0f7a4 24 = .ok (.iload_n 0, 1) := by decide +kernel
theorem dJ6_bitCount_0f7a4_25 : decode cJ6_bitCount_0f7a4 25 = .ok (.iload_n 0, 1) := by decide +kernel
theorem dJ6_bitCount_0f7a4_26 : decode cJ6_bitCount_0f7a4 26 = .ok (.iconst 4, 1) := by decide +kernel
theorem dJ6_bitCount_0f7a4_27 : decode cJ6_bitCount_0f7a4 27 = .ok (.iushr, 1) := by decide +kernel
theorem dJ6_bitCount_0f7a4_28 : decode cJ6_bitCount_0f7a4 28 = .ok (.iadd, 1) := by decide +kernel
theorem dJ6_bitCount_0f7a4_29 : decode cJ6_bitCount_0f7a4 29 = .ok (.ldc_w 267, 3) := by decide +kernel
theorem dJ6_bitCount_0f7a4_32 : decode cJ6_bitCount_0f7a4 32 = .ok (.iand, 1) := by decide +kernel
theorem dJ6_bitCount_0f7a4_33 : decode cJ6_bitCount_0f7a4 33 = .ok (.istore_n 0, 1) := by decide +kernel
theorem dJ6_bitCount_0f7a4_34 : decode cJ6_bitCount_0f7a4 34 = .ok (.iload_n 0, 1) := by decide +kernel
theorem dJ6_bitCount_0f7a4_35 : decode cJ6_bitCount_0f7a4 35 = .ok (.iload_n 0, 1) := by decide +kernel
theorem dJ6_bitCount_0f7a4_36 : decode cJ6_bitCount_0f7a4 36 = .ok (.bipush 8, 2) := by decide +kernel
theorem dJ6_bitCount_0f7a4_38 : decode cJ6_bitCount_0f7a4 38 = .ok (.iushr, 1) := by decide +kernel
theorem dJ6_bitCount_0f7a4_39 : decode cJ6_bitCount_0f7a4 39 = .ok (.iadd, 1) := by decide +kernel
theorem dJ6_bitCount_0f7a4_40 : decode cJ6_bitCount_0f7a4 40 = .ok (.istore_n 0, 1) := by decide +kernel
theorem dJ6_bitCount_0f7a4_41 : decode cJ6_bitCount_0f7a4 41 = .ok (.iload_n 0, 1) := by decide +kernel
theorem dJ6_bitCount_0f7a4_42 : decode cJ6_bitCount_0f7a4 42 = .ok (.iload_n 0, 1) := by decide +kernel
theorem dJ6_bitCount_0f7a4_43 : decode cJ6_bitCount_0f7a4 43 = .ok (.bipush 16, 2) := by decide +kernel
theorem dJ6_bitCount_0f7a4_45 : decode cJ6_bitCount_0f7a4 45 = .ok (.iushr, 1) := by decide +kernel
theorem dJ6_bitCount_0f7a4_46 : decode cJ6_bitCount_0f7a4 46 = .ok (.iadd, 1) := by decide +kernel
theorem dJ6_bitCount_0f7a4_47 : decode cJ6_bitCount_0f7a4 47 = .ok (.istore_n 0, 1) := by decide +kernel
theorem dJ6_bitCount_0f7a4_48 : decode cJ6_bitCount_0f7a4 48 = .ok (.iload_n 0, 1) := by decide +kernel
theorem dJ6_bitCount_0f7a4_49 : decode cJ6_bitCount_0f7a4 49 = .ok (.bipush 63, 2) := by decide +kernel
theorem dJ6_bitCount_0f7a4_51 : decode cJ6_bitCount_0f7a4 51 = .ok (.iand, 1) := by decide +kernel
theorem dJ6_bitCount_0f7a4_52 : decode cJ6_bitCount_0f7a4 52 = .ok (.ireturn, 1) := by decide +kernel
theorem dJ9_max_7cf53_0 : decode cJ9_max_7cf53 0 = .ok (.iload_n 0, 1) := by decide +kernel
theorem dJ9_max_7cf53_1 : decode cJ9_max_7cf53 1 = .ok (.iload_n 1, 1) := by decide +kernel
theorem dJ9_max_7cf53_2 : decode cJ9_max_7cf53 2 = .ok (.if_icmp .lt 7, 3) := by decide +kernel
theorem dJ9_max_7cf53_5 : decode cJ9_max_7cf53 5 = .ok (.iload_n 0, 1) := by decide +kernel
theorem dJ9_max_7cf53_6 : decode cJ9_max_7cf53 6 = .ok (.goto 4, 3) := by decide +kernel
