/-! decode rows, by program out of what TURN prints -/
theorem dX10_free_28 : decode cX10_free 28 = .ok (.aload_n 0, 1) := by decide +kernel
theorem dX10_free_29 : decode cX10_free 29 = .ok (.getfield 68, 3) := by decide +kernel
theorem dX10_free_32 : decode cX10_free 32 = .ok (.getfield 228, 3) := by decide +kernel
theorem dX10_free_35 : decode cX10_free 35 = .ok (.bipush 60, 2) := by decide +kernel
theorem dX10_free_37 : decode cX10_free 37 = .ok (.if_icmp .lt 6, 3) := by decide +kernel
theorem dX10_free_40 : decode cX10_free 40 = .ok (.bipush (-4), 2) := by decide +kernel
theorem dX10_free_42 : decode cX10_free 42 = .ok (.ireturn, 1) := by decide +kernel
theorem dX10_free_43 : decode cX10_free 43 = .ok (.aload_n 0, 1) := by decide +kernel
theorem dX10_free_44 : decode cX10_free 44 = .ok (.getfield 68, 3) := by decide +kernel
theorem dX10_free_47 : decode cX10_free 47 = .ok (.iconst 0, 1) := by decide +kernel
theorem dX10_free_48 : decode cX10_free 48 = .ok (.iload_n 1, 1) := by decide +kernel
theorem dX10_free_49 : decode cX10_free 49 = .ok (.iload_n 2, 1) := by decide +kernel
theorem dX10_free_50 : decode cX10_free 50 = .ok (.iload_n 3, 1) := by decide +kernel
theorem dX10_free_51 : decode cX10_free 51 = .ok (.invokevirtual 229, 3) := by decide +kernel
theorem dX10_free_54 : decode cX10_free 54 = .ok (.ireturn, 1) := by decide +kernel
theorem dX10_freeOn_0 : decode cX10_freeOn 0 = .ok (.iload_n 1, 1) := by decide +kernel
theorem dX10_freeOn_1 : decode cX10_freeOn 1 = .ok (.invokestatic 108, 3) := by decide +kernel
theorem dX10_freeOn_4 : decode cX10_freeOn 4 = .ok (.ifCond .eq 10, 3) := by decide +kernel
theorem dX10_freeOn_7 : decode cX10_freeOn 7 = .ok (.iload_n 2, 1) := by decide +kernel
theorem dX10_freeOn_8 : decode cX10_freeOn 8 = .ok (.invokestatic 108, 3) := by decide +kernel
theorem dX10_freeOn_11 : decode cX10_freeOn 11 = .ok (.ifCond .ne 6, 3) := by decide +kernel
theorem dX10_freeOn_14 : decode cX10_freeOn 14 = .ok (.bipush (-2), 2) := by decide +kernel
theorem dX10_freeOn_16 : decode cX10_freeOn 16 = .ok (.ireturn, 1) := by decide +kernel
theorem dX10_freeOn_17 : decode cX10_freeOn 17 = .ok (.aload_n 0, 1) := by decide +kernel
theorem dX10_freeOn_18 : decode cX10_freeOn 18 = .ok (.iload_n 1, 1) := by decide +kernel
theorem dX10_freeOn_19 : decode cX10_freeOn 19 = .ok (.iload_n 2, 1) := by decide +kernel
theorem dX10_freeOn_20 : decode cX10_freeOn 20 = .ok (.invokevirtual 230, 3) := by decide +kernel
theorem dX10_freeOn_23 : decode cX10_freeOn 23 = .ok (.ireturn, 1) := by decide +kernel
theorem dX10_cost_0 : decode cX10_cost 0 = .ok (.iload_n 1, 1) := by decide +kernel
theorem dX10_cost_1 : decode cX10_cost 1 = .ok (.invokestatic 151, 3) := by decide +kernel
theorem dX10_cost_4 : decode cX10_cost 4 = .ok (.ifCond .eq 10, 3) := by decide +kernel
theorem dX10_cost_7 : decode cX10_cost 7 = .ok (.iload_n 2, 1) := by decide +kernel
theorem dX10_cost_8 : decode cX10_cost 8 = .ok (.invokestatic 116, 3) := by decide +kernel
theorem dX10_cost_11 : decode cX10_cost 11 = .ok (.ifCond .ne 5, 3) := by decide +kernel
theorem dX10_cost_14 : decode cX10_cost 14 = .ok (.iconst (-1), 1) := by decide +kernel
theorem dX10_cost_15 : decode cX10_cost 15 = .ok (.ireturn, 1) := by decide +kernel
theorem dX10_cost_16 : decode cX10_cost 16 = .ok (.iload_n 3, 1) := by decide +kernel
theorem dX10_cost_17 : decode cX10_cost 17 = .ok (.invokestatic 108, 3) := by decide +kernel
theorem dX10_cost_20 : decode cX10_cost 20 = .ok (.ifCond .eq 13, 3) := by decide +kernel
theorem dX10_cost_23 : decode cX10_cost 23 = .ok (.iload 4, 2) := by decide +kernel
theorem dX10_cost_25 : decode cX10_cost 25 = .ok (.iconst 0, 1) := by decide +kernel
theorem dX10_cost_26 : decode cX10_cost 26 = .ok (.iconst 2, 1) := by decide +kernel
theorem dX10_cost_27 : decode cX10_cost 27 = .ok (.invokestatic 89, 3) := by decide +kernel
theorem dX10_cost_30 : decode cX10_cost 30 = .ok (.ifCond .ne 6, 3) := by decide +kernel
theorem dX10_cost_33 : decode cX10_cost 33 = .ok (.bipush (-2), 2) := by decide +kernel
theorem dX10_cost_35 : decode cX10_cost 35 = .ok (.ireturn, 1) := by decide +kernel
theorem dX10_cost_36 : decode cX10_cost 36 = .ok (.iload 4, 2) := by decide +kernel
theorem dX10_cost_38 : decode cX10_cost 38 = .ok (.lookupswitch 57 #[(0, 26), (1, 49)], 26) := by decide +kernel
theorem dX10_cost_64 : decode cX10_cost 64 = .ok (.aload_n 0, 1) := by decide +kernel
theorem dX10_cost_65 : decode cX10_cost 65 = .ok (.iload_n 1, 1) := by decide +kernel
theorem dX10_cost_66 : decode cX10_cost 66 = .ok (.iload_n 2, 1) := by decide +kernel
theorem dX10_cost_67 : decode cX10_cost 67 = .ok (.iload_n 3, 1) := by decide +kernel
theorem dX10_cost_68 : decode cX10_cost 68 = .ok (.aload_n 0, 1) := by decide +kernel
theorem dX10_cost_69 : decode cX10_cost 69 = .ok (.getfield 61, 3) := by decide +kernel
theorem dX10_cost_72 : decode cX10_cost 72 = .ok (.iload_n 1, 1) := by decide +kernel
theorem dX10_cost_73 : decode cX10_cost 73 = .ok (.iload_n 2, 1) := by decide +kernel
theorem dX10_cost_74 : decode cX10_cost 74 = .ok (.aload_n 0, 1) := by decide +kernel
theorem dX10_cost_75 : decode cX10_cost 75 = .ok (.getfield 23, 3) := by decide +kernel
theorem dX10_cost_78 : decode cX10_cost 78 = .ok (.iconst 4, 1) := by decide +kernel
theorem dX10_cost_79 : decode cX10_cost 79 = .ok (.iaload, 1) := by decide +kernel
theorem dX10_cost_80 : decode cX10_cost 80 = .ok (.invokevirtual 233, 3) := by decide +kernel
theorem dX10_cost_83 : decode cX10_cost 83 = .ok (.invokevirtual 236, 3) := by decide +kernel
theorem dX10_cost_86 : decode cX10_cost 86 = .ok (.ireturn, 1) := by decide +kernel
theorem dX10_cost_87 : decode cX10_cost 87 = .ok (.aload_n 0, 1) := by decide +kernel
theorem dX10_cost_88 : decode cX10_cost 88 = .ok (.iload_n 1, 1) := by decide +kernel
theorem dX10_cost_89 : decode cX10_cost 89 = .ok (.iload_n 2, 1) := by decide +kernel
theorem dX10_cost_90 : decode cX10_cost 90 = .ok (.iload_n 3, 1) := by decide +kernel
theorem dX10_cost_91 : decode cX10_cost 91 = .ok (.invokevirtual 239, 3) := by decide +kernel
theorem dX10_cost_94 : decode cX10_cost 94 = .ok (.ireturn, 1) := by decide +kernel
theorem dX10_cost_95 : decode cX10_cost 95 = .ok (.aload_n 0, 1) := by decide +kernel
theorem dX10_cost_96 : decode cX10_cost 96 = .ok (.getfield 30, 3) := by decide +kernel
theorem dX10_cost_99 : decode cX10_cost 99 = .ok (.iload_n 1, 1) := by decide +kernel
theorem dX10_cost_100 : decode cX10_cost 100 = .ok (.iload_n 2, 1) := by decide +kernel
theorem dX10_cost_101 : decode cX10_cost 101 = .ok (.invokevirtual 242, 3) := by decide +kernel
theorem dX10_cost_104 : decode cX10_cost 104 = .ok (.ireturn, 1) := by decide +kernel
theorem dX10_account_0 : decode cX10_account 0 = .ok (.iload_n 1, 1) := by decide +kernel
theorem dX10_account_1 : decode cX10_account 1 = .ok (.invokestatic 116, 3) := by decide +kernel
theorem dX10_account_4 : decode cX10_account 4 = .ok (.ifCond .ne 5, 3) := by decide +kernel
theorem dX10_account_7 : decode cX10_account 7 = .ok (.iconst (-1), 1) := by decide +kernel
theorem dX10_account_8 : decode cX10_account 8 = .ok (.ireturn, 1) := by decide +kernel
theorem dX10_account_9 : decode cX10_account 9 = .ok (.iload_n 2, 1) := by decide +kernel
theorem dX10_account_10 : decode cX10_account 10 = .ok (.invokestatic 108, 3) := by decide +kernel
theorem dX10_account_13 : decode cX10_account 13 = .ok (.ifCond .eq 13, 3) := by decide +kernel
theorem dX10_account_16 : decode cX10_account 16 = .ok (.iload_n 3, 1) := by decide +kernel
theorem dX10_account_17 : decode cX10_account 17 = .ok (.iconst 0, 1) := by decide +kernel
theorem dX10_account_18 : decode cX10_account 18 = .ok (.bipush 7, 2) := by decide +kernel
theorem dX10_account_20 : decode cX10_account 20 = .ok (.invokestatic 89, 3) := by decide +kernel
theorem dX10_account_23 : decode cX10_account 23 = .ok (.ifCond .ne 6, 3) := by decide +kernel
theorem dX10_account_26 : decode cX10_account 26 = .ok (.bipush (-2), 2) := by decide +kernel
theorem dX10_account_28 : decode cX10_account 28 = .ok (.ireturn, 1) := by decide +kernel
theorem dX10_account_29 : decode cX10_account 29 = .ok (.aload_n 0, 1) := by decide +kernel
theorem dX10_account_30 : decode cX10_account 30 = .ok (.invokevirtual 119, 3) := by decide +kernel
theorem dX10_account_33 : decode cX10_account 33 = .ok (.iload_n 3, 1) := by decide +kernel
theorem dX10_account_34 : decode cX10_account 34 = .ok (.tableswitch 99 0 6 #[42, 49, 55, 61, 67, 73, 82], 42) := by decide +kernel
theorem dX10_account_76 : decode cX10_account 76 = .ok (.aload_n 0, 1) := by decide +kernel
theorem dX10_account_77 : decode cX10_account 77 = .ok (.iload_n 1, 1) := by decide +kernel
theorem dX10_account_78 : decode cX10_account 78 = .ok (.iload_n 2, 1) := by decide +kernel
theorem dX10_account_79 : decode cX10_account 79 = .ok (.invokevirtual 245, 3) := by decide +kernel
theorem dX10_account_82 : decode cX10_account 82 = .ok (.ireturn, 1) := by decide +kernel
theorem dX10_account_83 : decode cX10_account 83 = .ok (.aload_n 0, 1) := by decide +kernel
theorem dX10_account_84 : decode cX10_account 84 = .ok (.iload_n 1, 1) := by decide +kernel
theorem dX10_account_85 : decode cX10_account 85 = .ok (.invokevirtual 248, 3) := by decide +kernel
theorem dX10_account_88 : decode cX10_account 88 = .ok (.ireturn, 1) := by decide +kernel
theorem dX10_account_89 : decode cX10_account 89 = .ok (.aload_n 0, 1) := by decide +kernel
theorem dX10_account_90 : decode cX10_account 90 = .ok (.iload_n 1, 1) := by decide +kernel
theorem dX10_account_91 : decode cX10_account 91 = .ok (.invokevirtual 251, 3) := by decide +kernel
theorem dX10_account_94 : decode cX10_account 94 = .ok (.ireturn, 1) := by decide +kernel
theorem dX10_account_95 : decode cX10_account 95 = .ok (.aload_n 0, 1) := by decide +kernel
theorem dX10_account_96 : decode cX10_account 96 = .ok (.iload_n 1, 1) := by decide +kernel
theorem dX10_account_97 : decode cX10_account 97 = .ok (.invokevirtual 122, 3) := by decide +kernel
theorem dX10_account_100 : decode cX10_account 100 = .ok (.ireturn, 1) := by decide +kernel
theorem dX10_account_101 : decode cX10_account 101 = .ok (.aload_n 0, 1) := by decide +kernel
theorem dX10_account_102 : decode cX10_account 102 = .ok (.iload_n 1, 1) := by decide +kernel
theorem dX10_account_103 : decode cX10_account 103 = .ok (.invokevirtual 254, 3) := by decide +kernel
theorem dX10_account_106 : decode cX10_account 106 = .ok (.ireturn, 1) := by decide +kernel
theorem dX10_account_107 : decode cX10_account 107 = .ok (.aload_n 0, 1) := by decide +kernel
theorem dX10_account_108 : decode cX10_account 108 = .ok (.getfield 30, 3) := by decide +kernel
theorem dX10_account_111 : decode cX10_account 111 = .ok (.iload_n 1, 1) := by decide +kernel
theorem dX10_account_112 : decode cX10_account 112 = .ok (.invokevirtual 257, 3) := by decide +kernel
theorem dX10_account_115 : decode cX10_account 115 = .ok (.ireturn, 1) := by decide +kernel
theorem dX10_account_116 : decode cX10_account 116 = .ok (.aload_n 0, 1) := by decide +kernel
theorem dX10_account_117 : decode cX10_account 117 = .ok (.getfield 30, 3) := by decide +kernel
theorem dX10_account_120 : decode cX10_account 120 = .ok (.getfield 260, 3) := by decide +kernel
theorem dX10_account_123 : decode cX10_account 123 = .ok (.iload_n 1, 1) := by decide +kernel
theorem dX10_account_124 : decode cX10_account 124 = .ok (.iaload, 1) := by decide +kernel
theorem dX10_account_125 : decode cX10_account 125 = .ok (.aload_n 0, 1) := by decide +kernel
theorem dX10_account_126 : decode cX10_account 126 = .ok (.getfield 23, 3) := by decide +kernel
theorem dX10_account_129 : decode cX10_account 129 = .ok (.iconst 1, 1) := by decide +kernel
theorem dX10_account_130 : decode cX10_account 130 = .ok (.iaload, 1) := by decide +kernel
theorem dX10_account_131 : decode cX10_account 131 = .ok (.irem, 1) := by decide +kernel
theorem dX10_account_132 : decode cX10_account 132 = .ok (.ireturn, 1) := by decide +kernel
theorem dX10_account_133 : decode cX10_account 133 = .ok (.aload_n 0, 1) := by decide +kernel
theorem dX10_account_134 : decode cX10_account 134 = .ok (.iload_n 1, 1) := by decide +kernel
theorem dX10_account_135 : decode cX10_account 135 = .ok (.iload_n 2, 1) := by decide +kernel
theorem dX10_account_136 : decode cX10_account 136 = .ok (.invokevirtual 245, 3) := by decide +kernel
theorem dX10_account_139 : decode cX10_account 139 = .ok (.aload_n 0, 1) := by decide +kernel
theorem dX10_account_140 : decode cX10_account 140 = .ok (.iload_n 1, 1) := by decide +kernel
theorem dX10_account_141 : decode cX10_account 141 = .ok (.invokevirtual 248, 3) := by decide +kernel
theorem dX10_account_144 : decode cX10_account 144 = .ok (.iadd, 1) := by decide +kernel
theorem dX10_account_145 : decode cX10_account 145 = .ok (.aload_n 0, 1) := by decide +kernel
theorem dX10_account_146 : decode cX10_account 146 = .ok (.iload_n 1, 1) := by decide +kernel
theorem dX10_account_147 : decode cX10_account 147 = .ok (.invokevirtual 251, 3) := by decide +kernel
theorem dX10_account_150 : decode cX10_account 150 = .ok (.isub, 1) := by decide +kernel
theorem dX10_account_151 : decode cX10_account 151 = .ok (.ireturn, 1) := by decide +kernel
theorem dX10_spread_0 : decode cX10_spread 0 = .ok (.iload_n 1, 1) := by decide +kernel
theorem dX10_spread_1 : decode cX10_spread 1 = .ok (.iconst (-1), 1) := by decide +kernel
theorem dX10_spread_2 : decode cX10_spread 2 = .ok (.aload_n 0, 1) := by decide +kernel
theorem dX10_spread_3 : decode cX10_spread 3 = .ok (.getfield 30, 3) := by decide +kernel
theorem dX10_spread_6 : decode cX10_spread 6 = .ok (.invokevirtual 161, 3) := by decide +kernel
theorem dX10_spread_9 : decode cX10_spread 9 = .ok (.iconst 1, 1) := by decide +kernel
theorem dX10_spread_10 : decode cX10_spread 10 = .ok (.isub, 1) := by decide +kernel
theorem dX10_spread_11 : decode cX10_spread 11 = .ok (.invokestatic 89, 3) := by decide +kernel
theorem dX10_spread_14 : decode cX10_spread 14 = .ok (.ifCond .ne 6, 3) := by decide +kernel
theorem dX10_spread_17 : decode cX10_spread 17 = .ok (.bipush (-6), 2) := by decide +kernel
theorem dX10_spread_19 : decode cX10_spread 19 = .ok (.ireturn, 1) := by decide +kernel
theorem dX10_spread_20 : decode cX10_spread 20 = .ok (.aload_n 0, 1) := by decide +kernel
theorem dX10_spread_21 : decode cX10_spread 21 = .ok (.getfield 78, 3) := by decide +kernel
theorem dX10_spread_24 : decode cX10_spread 24 = .ok (.aload_n 0, 1) := by decide +kernel
theorem dX10_spread_25 : decode cX10_spread 25 = .ok (.getfield 30, 3) := by decide +kernel
theorem dX10_spread_28 : decode cX10_spread 28 = .ok (.aload_n 0, 1) := by decide +kernel
theorem dX10_spread_29 : decode cX10_spread 29 = .ok (.getfield 23, 3) := by decide +kernel
theorem dX10_spread_32 : decode cX10_spread 32 = .ok (.iconst 0, 1) := by decide +kernel
theorem dX10_spread_33 : decode cX10_spread 33 = .ok (.iaload, 1) := by decide +kernel
theorem dX10_spread_34 : decode cX10_spread 34 = .ok (.invokevirtual 263, 3) := by decide +kernel
theorem dX10_spread_37 : decode cX10_spread 37 = .ok (.iload_n 1, 1) := by decide +kernel
theorem dX10_spread_38 : decode cX10_spread 38 = .ok (.iconst (-1), 1) := by decide +kernel
theorem dX10_spread_39 : decode cX10_spread 39 = .ok (.if_icmp .ne 13, 3) := by decide +kernel
theorem dX10_spread_42 : decode cX10_spread 42 = .ok (.aload_n 0, 1) := by decide +kernel
theorem dX10_spread_43 : decode cX10_spread 43 = .ok (.getfield 78, 3) := by decide +kernel
theorem dX10_spread_46 : decode cX10_spread 46 = .ok (.getfield 267, 3) := by decide +kernel
theorem dX10_spread_49 : decode cX10_spread 49 = .ok (.goto 11, 3) := by decide +kernel
theorem dX10_spread_52 : decode cX10_spread 52 = .ok (.aload_n 0, 1) := by decide +kernel
theorem dX10_spread_53 : decode cX10_spread 53 = .ok (.getfield 78, 3) := by decide +kernel
theorem dX10_spread_56 : decode cX10_spread 56 = .ok (.iload_n 1, 1) := by decide +kernel
theorem dX10_spread_57 : decode cX10_spread 57 = .ok (.invokevirtual 269, 3) := by decide +kernel
theorem dX10_spread_60 : decode cX10_spread 60 = .ok (.ireturn, 1) := by decide +kernel
theorem dX10_settle_0 : decode cX10_settle 0 = .ok (.aload_n 0, 1) := by decide +kernel
theorem dX10_settle_1 : decode cX10_settle 1 = .ok (.getfield 78, 3) := by decide +kernel
theorem dX10_settle_4 : decode cX10_settle 4 = .ok (.aload_n 0, 1) := by decide +kernel
theorem dX10_settle_5 : decode cX10_settle 5 = .ok (.getfield 30, 3) := by decide +kernel
theorem dX10_settle_8 : decode cX10_settle 8 = .ok (.aload_n 0, 1) := by decide +kernel
theorem dX10_settle_9 : decode cX10_settle 9 = .ok (.getfield 23, 3) := by decide +kernel
theorem dX10_settle_12 : decode cX10_settle 12 = .ok (.iconst 0, 1) := by decide +kernel
theorem dX10_settle_13 : decode cX10_settle 13 = .ok (.iaload, 1) := by decide +kernel
theorem dX10_settle_14 : decode cX10_settle 14 = .ok (.invokevirtual 263, 3) := by decide +kernel
theorem dX10_settle_17 : decode cX10_settle 17 = .ok (.iconst 0, 1) := by decide +kernel
theorem dX10_settle_18 : decode cX10_settle 18 = .ok (.istore_n 1, 1) := by decide +kernel
theorem dX10_settle_19 : decode cX10_settle 19 = .ok (.iload_n 1, 1) := by decide +kernel
theorem dX10_settle_20 : decode cX10_settle 20 = .ok (.aload_n 0, 1) := by decide +kernel
theorem dX10_settle_21 : decode cX10_settle 21 = .ok (.getfield 78, 3) := by decide +kernel
theorem dX10_settle_24 : decode cX10_settle 24 = .ok (.getfield 272, 3) := by decide +kernel
theorem dX10_settle_27 : decode cX10_settle 27 = .ok (.if_icmp .ge 34, 3) := by decide +kernel
theorem dX10_settle_30 : decode cX10_settle 30 = .ok (.aload_n 0, 1) := by decide +kernel
theorem dX10_settle_31 : decode cX10_settle 31 = .ok (.getfield 30, 3) := by decide +kernel
theorem dX10_settle_34 : decode cX10_settle 34 = .ok (.getfield 170, 3) := by decide +kernel
theorem dX10_settle_37 : decode cX10_settle 37 = .ok (.aload_n 0, 1) := by decide +kernel
theorem dX10_settle_38 : decode cX10_settle 38 = .ok (.getfield 78, 3) := by decide +kernel
theorem dX10_settle_41 : decode cX10_settle 41 = .ok (.getfield 273, 3) := by decide +kernel
theorem dX10_settle_44 : decode cX10_settle 44 = .ok (.iload_n 1, 1) := by decide +kernel
theorem dX10_settle_45 : decode cX10_settle 45 = .ok (.iaload, 1) := by decide +kernel
theorem dX10_settle_46 : decode cX10_settle 46 = .ok (.aload_n 0, 1) := by decide +kernel
theorem dX10_settle_47 : decode cX10_settle 47 = .ok (.getfield 78, 3) := by decide +kernel
theorem dX10_settle_50 : decode cX10_settle 50 = .ok (.iload_n 1, 1) := by decide +kernel
theorem dX10_settle_51 : decode cX10_settle 51 = .ok (.invokevirtual 269, 3) := by decide +kernel
theorem dX10_settle_54 : decode cX10_settle 54 = .ok (.iastore, 1) := by decide +kernel
theorem dX10_settle_55 : decode cX10_settle 55 = .ok (.iinc 1 1, 3) := by decide +kernel
theorem dX10_settle_58 : decode cX10_settle 58 = .ok (.goto (-39), 3) := by decide +kernel
theorem dX10_settle_61 : decode cX10_settle 61 = .ok (.aload_n 0, 1) := by decide +kernel
theorem dX10_settle_62 : decode cX10_settle 62 = .ok (.getfield 78, 3) := by decide +kernel
theorem dX10_settle_65 : decode cX10_settle 65 = .ok (.getfield 272, 3) := by decide +kernel
theorem dX10_settle_68 : decode cX10_settle 68 = .ok (.ireturn, 1) := by decide +kernel
theorem dX10_ship_0 : decode cX10_ship 0 = .ok (.iload_n 1, 1) := by decide +kernel
theorem dX10_ship_1 : decode cX10_ship 1 = .ok (.iconst 0, 1) := by decide +kernel
theorem dX10_ship_2 : decode cX10_ship 2 = .ok (.iconst 3, 1) := by decide +kernel
theorem dX10_ship_3 : decode cX10_ship 3 = .ok (.invokestatic 89, 3) := by decide +kernel
theorem dX10_ship_6 : decode cX10_ship 6 = .ok (.ifCond .ne 5, 3) := by decide +kernel
theorem dX10_ship_9 : decode cX10_ship 9 = .ok (.iconst (-1), 1) := by decide +kernel
theorem dX10_ship_10 : decode cX10_ship 10 = .ok (.ireturn, 1) := by decide +kernel
theorem dX10_ship_11 : decode cX10_ship 11 = .ok (.iload_n 2, 1) := by decide +kernel
theorem dX10_ship_12 : decode cX10_ship 12 = .ok (.invokestatic 108, 3) := by decide +kernel
theorem dX10_ship_15 : decode cX10_ship 15 = .ok (.ifCond .eq 13, 3) := by decide +kernel
theorem dX10_ship_18 : decode cX10_ship 18 = .ok (.iload_n 3, 1) := by decide +kernel
theorem dX10_ship_19 : decode cX10_ship 19 = .ok (.iconst 0, 1) := by decide +kernel
theorem dX10_ship_20 : decode cX10_ship 20 = .ok (.bipush 20, 2) := by decide +kernel
theorem dX10_ship_22 : decode cX10_ship 22 = .ok (.invokestatic 89, 3) := by decide +kernel
theorem dX10_ship_25 : decode cX10_ship 25 = .ok (.ifCond .ne 6, 3) := by decide +kernel
theorem dX10_ship_28 : decode cX10_ship 28 = .ok (.bipush (-2), 2) := by decide +kernel
theorem dX10_ship_30 : decode cX10_ship 30 = .ok (.ireturn, 1) := by decide +kernel
theorem dX10_ship_31 : decode cX10_ship 31 = .ok (.aload_n 0, 1) := by decide +kernel
theorem dX10_ship_32 : decode cX10_ship 32 = .ok (.getfield 85, 3) := by decide +kernel
theorem dX10_ship_35 : decode cX10_ship 35 = .ok (.getfield 276, 3) := by decide +kernel
theorem dX10_ship_38 : decode cX10_ship 38 = .ok (.iload_n 1, 1) := by decide +kernel
theorem dX10_ship_39 : decode cX10_ship 39 = .ok (.iload_n 2, 1) := by decide +kernel
theorem dX10_ship_40 : decode cX10_ship 40 = .ok (.iastore, 1) := by decide +kernel
theorem dX10_ship_41 : decode cX10_ship 41 = .ok (.aload_n 0, 1) := by decide +kernel
theorem dX10_ship_42 : decode cX10_ship 42 = .ok (.getfield 85, 3) := by decide +kernel
theorem dX10_ship_45 : decode cX10_ship 45 = .ok (.getfield 279, 3) := by decide +kernel
theorem dX10_ship_48 : decode cX10_ship 48 = .ok (.iload_n 1, 1) := by decide +kernel
theorem dX10_ship_49 : decode cX10_ship 49 = .ok (.iload_n 3, 1) := by decide +kernel
theorem dX10_ship_50 : decode cX10_ship 50 = .ok (.iastore, 1) := by decide +kernel
theorem dX10_ship_51 : decode cX10_ship 51 = .ok (.iconst 1, 1) := by decide +kernel
theorem dX10_ship_52 : decode cX10_ship 52 = .ok (.ireturn, 1) := by decide +kernel
theorem dX10_price_0 : decode cX10_price 0 = .ok (.iload_n 1, 1) := by decide +kernel
theorem dX10_price_1 : decode cX10_price 1 = .ok (.iconst 0, 1) := by decide +kernel
theorem dX10_price_2 : decode cX10_price 2 = .ok (.iconst 1, 1) := by decide +kernel
theorem dX10_price_3 : decode cX10_price 3 = .ok (.invokestatic 89, 3) := by decide +kernel
theorem dX10_price_6 : decode cX10_price 6 = .ok (.ifCond .ne 5, 3) := by decide +kernel
theorem dX10_price_9 : decode cX10_price 9 = .ok (.iconst (-1), 1) := by decide +kernel
theorem dX10_price_10 : decode cX10_price 10 = .ok (.ireturn, 1) := by decide +kernel
theorem dX10_price_11 : decode cX10_price 11 = .ok (.iload_n 2, 1) := by decide +kernel
theorem dX10_price_12 : decode cX10_price 12 = .ok (.invokestatic 108, 3) := by decide +kernel
theorem dX10_price_15 : decode cX10_price 15 = .ok (.ifCond .eq 22, 3) := by decide +kernel
theorem dX10_price_18 : decode cX10_price 18 = .ok (.iload_n 3, 1) := by decide +kernel
theorem dX10_price_19 : decode cX10_price 19 = .ok (.iconst 0, 1) := by decide +kernel
theorem dX10_price_20 : decode cX10_price 20 = .ok (.sipush 1000, 3) := by decide +kernel
theorem dX10_price_23 : decode cX10_price 23 = .ok (.invokestatic 89, 3) := by decide +kernel
theorem dX10_price_26 : decode cX10_price 26 = .ok (.ifCond .eq 11, 3) := by decide +kernel
theorem dX10_price_29 : decode cX10_price 29 = .ok (.iload 4, 2) := by decide +kernel
theorem dX10_price_31 : decode cX10_price 31 = .ok (.invokestatic 108, 3) := by decide +kernel
theorem dX10_price_34 : decode cX10_price 34 = .ok (.ifCond .ne 6, 3) := by decide +kernel
theorem dX10_price_37 : decode cX10_price 37 = .ok (.bipush (-2), 2) := by decide +kernel
theorem dX10_price_39 : decode cX10_price 39 = .ok (.ireturn, 1) := by decide +kernel
theorem dX10_price_40 : decode cX10_price 40 = .ok (.aload_n 0, 1) := by decide +kernel
theorem dX10_price_41 : decode cX10_price 41 = .ok (.getfield 72, 3) := by decide +kernel
theorem dX10_price_44 : decode cX10_price 44 = .ok (.getfield 228, 3) := by decide +kernel
theorem dX10_price_47 : decode cX10_price 47 = .ok (.bipush 60, 2) := by decide +kernel
theorem dX10_price_49 : decode cX10_price 49 = .ok (.if_icmp .lt 6, 3) := by decide +kernel
theorem dX10_price_52 : decode cX10_price 52 = .ok (.bipush (-4), 2) := by decide +kernel
theorem dX10_price_54 : decode cX10_price 54 = .ok (.ireturn, 1) := by decide +kernel
theorem dX10_price_55 : decode cX10_price 55 = .ok (.aload_n 0, 1) := by decide +kernel
theorem dX10_price_56 : decode cX10_price 56 = .ok (.getfield 72, 3) := by decide +kernel
theorem dX10_price_59 : decode cX10_price 59 = .ok (.iload_n 1, 1) := by decide +kernel
theorem dX10_price_60 : decode cX10_price 60 = .ok (.iload_n 2, 1) := by decide +kernel
theorem dX10_price_61 : decode cX10_price 61 = .ok (.iload_n 3, 1) := by decide +kernel
theorem dX10_price_62 : decode cX10_price 62 = .ok (.iload 4, 2) := by decide +kernel
theorem dX10_price_64 : decode cX10_price 64 = .ok (.invokevirtual 229, 3) := by decide +kernel
theorem dX10_price_67 : decode cX10_price 67 = .ok (.ireturn, 1) := by decide +kernel
theorem dX10_priceOn_0 : decode cX10_priceOn 0 = .ok (.iload_n 1, 1) := by decide +kernel
theorem dX10_priceOn_1 : decode cX10_priceOn 1 = .ok (.iconst 0, 1) := by decide +kernel
theorem dX10_priceOn_2 : decode cX10_priceOn 2 = .ok (.iconst 1, 1) := by decide +kernel
theorem dX10_priceOn_3 : decode cX10_priceOn 3 = .ok (.invokestatic 89, 3) := by decide +kernel
theorem dX10_priceOn_6 : decode cX10_priceOn 6 = .ok (.ifCond .ne 5, 3) := by decide +kernel
theorem dX10_priceOn_9 : decode cX10_priceOn 9 = .ok (.iconst (-1), 1) := by decide +kernel
theorem dX10_priceOn_10 : decode cX10_priceOn 10 = .ok (.ireturn, 1) := by decide +kernel
theorem dX10_priceOn_11 : decode cX10_priceOn 11 = .ok (.iload_n 2, 1) := by decide +kernel
theorem dX10_priceOn_12 : decode cX10_priceOn 12 = .ok (.invokestatic 108, 3) := by decide +kernel
theorem dX10_priceOn_15 : decode cX10_priceOn 15 = .ok (.ifCond .eq 10, 3) := by decide +kernel
theorem dX10_priceOn_18 : decode cX10_priceOn 18 = .ok (.iload_n 3, 1) := by decide +kernel
theorem dX10_priceOn_19 : decode cX10_priceOn 19 = .ok (.invokestatic 108, 3) := by decide +kernel
theorem dX10_priceOn_22 : decode cX10_priceOn 22 = .ok (.ifCond .ne 6, 3) := by decide +kernel
theorem dX10_priceOn_25 : decode cX10_priceOn 25 = .ok (.bipush (-2), 2) := by decide +kernel
theorem dX10_priceOn_27 : decode cX10_priceOn 27 = .ok (.ireturn, 1) := by decide +kernel
theorem dX10_priceOn_28 : decode cX10_priceOn 28 = .ok (.aload_n 0, 1) := by decide +kernel
theorem dX10_priceOn_29 : decode cX10_priceOn 29 = .ok (.getfield 72, 3) := by decide +kernel
theorem dX10_priceOn_32 : decode cX10_priceOn 32 = .ok (.iload_n 1, 1) := by decide +kernel
theorem dX10_priceOn_33 : decode cX10_priceOn 33 = .ok (.iload_n 2, 1) := by decide +kernel
theorem dX10_priceOn_34 : decode cX10_priceOn 34 = .ok (.iload_n 3, 1) := by decide +kernel
theorem dX10_priceOn_35 : decode cX10_priceOn 35 = .ok (.iconst 0, 1) := by decide +kernel
theorem dX10_priceOn_36 : decode cX10_priceOn 36 = .ok (.invokevirtual 282, 3) := by decide +kernel
theorem dX10_priceOn_39 : decode cX10_priceOn 39 = .ok (.ireturn, 1) := by decide +kernel
theorem dX10_load_0 : decode cX10_load 0 = .ok (.iload_n 1, 1) := by decide +kernel
theorem dX10_load_1 : decode cX10_load 1 = .ok (.iconst 0, 1) := by decide +kernel
theorem dX10_load_2 : decode cX10_load 2 = .ok (.bipush 20, 2) := by decide +kernel
theorem dX10_load_4 : decode cX10_load 4 = .ok (.invokestatic 89, 3) := by decide +kernel
theorem dX10_load_7 : decode cX10_load 7 = .ok (.ifCond .eq 20, 3) := by decide +kernel
theorem dX10_load_10 : decode cX10_load 10 = .ok (.iload_n 2, 1) := by decide +kernel
theorem dX10_load_11 : decode cX10_load 11 = .ok (.iconst 0, 1) := by decide +kernel
theorem dX10_load_12 : decode cX10_load 12 = .ok (.bipush 20, 2) := by decide +kernel
theorem dX10_load_14 : decode cX10_load 14 = .ok (.invokestatic 89, 3) := by decide +kernel
theorem dX10_load_17 : decode cX10_load 17 = .ok (.ifCond .eq 10, 3) := by decide +kernel
theorem dX10_load_20 : decode cX10_load 20 = .ok (.iload_n 3, 1) := by decide +kernel
theorem dX10_load_21 : decode cX10_load 21 = .ok (.invokestatic 108, 3) := by decide +kernel
theorem dX10_load_24 : decode cX10_load 24 = .ok (.ifCond .ne 6, 3) := by decide +kernel
theorem dX10_load_27 : decode cX10_load 27 = .ok (.bipush (-2), 2) := by decide +kernel
theorem dX10_load_29 : decode cX10_load 29 = .ok (.ireturn, 1) := by decide +kernel
theorem dX10_load_30 : decode cX10_load 30 = .ok (.iload 4, 2) := by decide +kernel
theorem dX10_load_32 : decode cX10_load 32 = .ok (.iconst (-1), 1) := by decide +kernel
theorem dX10_load_33 : decode cX10_load 33 = .ok (.iconst 3, 1) := by decide +kernel
theorem dX10_load_34 : decode cX10_load 34 = .ok (.invokestatic 89, 3) := by decide +kernel
theorem dX10_load_37 : decode cX10_load 37 = .ok (.ifCond .ne 6, 3) := by decide +kernel
theorem dX10_load_40 : decode cX10_load 40 = .ok (.bipush (-6), 2) := by decide +kernel
theorem dX10_load_42 : decode cX10_load 42 = .ok (.ireturn, 1) := by decide +kernel
theorem dX10_load_43 : decode cX10_load 43 = .ok (.iconst 0, 1) := by decide +kernel
theorem dX10_load_44 : decode cX10_load 44 = .ok (.istore 5, 2) := by decide +kernel
theorem dX10_load_46 : decode cX10_load 46 = .ok (.iload 5, 2) := by decide +kernel
theorem dX10_load_48 : decode cX10_load 48 = .ok (.iconst 4, 1) := by decide +kernel
theorem dX10_load_49 : decode cX10_load 49 = .ok (.if_icmp .ge 69, 3) := by decide +kernel
theorem dX10_load_52 : decode cX10_load 52 = .ok (.aload_n 0, 1) := by decide +kernel
theorem dX10_load_53 : decode cX10_load 53 = .ok (.getfield 85, 3) := by decide +kernel
theorem dX10_load_56 : decode cX10_load 56 = .ok (.getfield 285, 3) := by decide +kernel
theorem dX10_load_59 : decode cX10_load 59 = .ok (.iload 5, 2) := by decide +kernel
theorem dX10_load_61 : decode cX10_load 61 = .ok (.aload_n 0, 1) := by decide +kernel
theorem dX10_load_62 : decode cX10_load 62 = .ok (.getfield 72, 3) := by decide +kernel
theorem dX10_load_65 : decode cX10_load 65 = .ok (.iconst 0, 1) := by decide +kernel
theorem dX10_load_66 : decode cX10_load 66 = .ok (.aload_n 0, 1) := by decide +kernel
theorem dX10_load_67 : decode cX10_load 67 = .ok (.getfield 85, 3) := by decide +kernel
theorem dX10_load_70 : decode cX10_load 70 = .ok (.getfield 276, 3) := by decide +kernel
theorem dX10_load_73 : decode cX10_load 73 = .ok (.iload 5, 2) := by decide +kernel
theorem dX10_load_75 : decode cX10_load 75 = .ok (.iaload, 1) := by decide +kernel
theorem dX10_load_76 : decode cX10_load 76 = .ok (.iload_n 3, 1) := by decide +kernel
theorem dX10_load_77 : decode cX10_load 77 = .ok (.iconst 0, 1) := by decide +kernel
theorem dX10_load_78 : decode cX10_load 78 = .ok (.invokevirtual 282, 3) := by decide +kernel
theorem dX10_load_81 : decode cX10_load 81 = .ok (.iastore, 1) := by decide +kernel
theorem dX10_load_82 : decode cX10_load 82 = .ok (.aload_n 0, 1) := by decide +kernel
theorem dX10_load_83 : decode cX10_load 83 = .ok (.getfield 85, 3) := by decide +kernel
theorem dX10_load_86 : decode cX10_load 86 = .ok (.getfield 288, 3) := by decide +kernel
theorem dX10_load_89 : decode cX10_load 89 = .ok (.iload 5, 2) := by decide +kernel
theorem dX10_load_91 : decode cX10_load 91 = .ok (.aload_n 0, 1) := by decide +kernel
theorem dX10_load_92 : decode cX10_load 92 = .ok (.getfield 72, 3) := by decide +kernel
theorem dX10_load_95 : decode cX10_load 95 = .ok (.iconst 1, 1) := by decide +kernel
theorem dX10_load_96 : decode cX10_load 96 = .ok (.aload_n 0, 1) := by decide +kernel
theorem dX10_load_97 : decode cX10_load 97 = .ok (.getfield 85, 3) := by decide +kernel
theorem dX10_load_100 : decode cX10_load 100 = .ok (.getfield 276, 3) := by decide +kernel
theorem dX10_load_103 : decode cX10_load 103 = .ok (.iload 5, 2) := by decide +kernel
theorem dX10_load_105 : decode cX10_load 105 = .ok (.iaload, 1) := by decide +kernel
theorem dX10_load_106 : decode cX10_load 106 = .ok (.iload_n 3, 1) := by decide +kernel
theorem dX10_load_107 : decode cX10_load 107 = .ok (.iconst 0, 1) := by decide +kernel
theorem dX10_load_108 : decode cX10_load 108 = .ok (.invokevirtual 282, 3) := by decide +kernel
theorem dX10_load_111 : decode cX10_load 111 = .ok (.iastore, 1) := by decide +kernel
theorem dX10_load_112 : decode cX10_load 112 = .ok (.iinc 5 1, 3) := by decide +kernel
theorem dX10_load_115 : decode cX10_load 115 = .ok (.goto (-69), 3) := by decide +kernel
theorem dX10_load_118 : decode cX10_load 118 = .ok (.aload_n 0, 1) := by decide +kernel
theorem dX10_load_119 : decode cX10_load 119 = .ok (.getfield 85, 3) := by decide +kernel
theorem dX10_load_122 : decode cX10_load 122 = .ok (.iload_n 1, 1) := by decide +kernel
theorem dX10_load_123 : decode cX10_load 123 = .ok (.iload_n 2, 1) := by decide +kernel
theorem dX10_load_124 : decode cX10_load 124 = .ok (.invokevirtual 291, 3) := by decide +kernel
theorem dX10_load_127 : decode cX10_load 127 = .ok (.iload 4, 2) := by decide +kernel
theorem dX10_load_129 : decode cX10_load 129 = .ok (.iconst (-1), 1) := by decide +kernel
theorem dX10_load_130 : decode cX10_load 130 = .ok (.if_icmp .ne 16, 3) := by decide +kernel
theorem dX10_load_133 : decode cX10_load 133 = .ok (.aload_n 0, 1) := by decide +kernel
theorem dX10_load_134 : decode cX10_load 134 = .ok (.getfield 85, 3) := by decide +kernel
theorem dX10_load_137 : decode cX10_load 137 = .ok (.iconst 0, 1) := by decide +kernel
theorem dX10_load_138 : decode cX10_load 138 = .ok (.iload_n 1, 1) := by decide +kernel
theorem dX10_load_139 : decode cX10_load 139 = .ok (.iload_n 2, 1) := by decide +kernel
theorem dX10_load_140 : decode cX10_load 140 = .ok (.invokevirtual 293, 3) := by decide +kernel
theorem dX10_load_143 : decode cX10_load 143 = .ok (.goto 14, 3) := by decide +kernel
theorem dX10_load_146 : decode cX10_load 146 = .ok (.aload_n 0, 1) := by decide +kernel
theorem dX10_load_147 : decode cX10_load 147 = .ok (.getfield 85, 3) := by decide +kernel
theorem dX10_load_150 : decode cX10_load 150 = .ok (.iload 4, 2) := by decide +kernel
theorem dX10_load_152 : decode cX10_load 152 = .ok (.iload_n 1, 1) := by decide +kernel
theorem dX10_load_153 : decode cX10_load 153 = .ok (.iload_n 2, 1) := by decide +kernel
theorem dX10_load_154 : decode cX10_load 154 = .ok (.invokevirtual 296, 3) := by decide +kernel
theorem dX10_load_157 : decode cX10_load 157 = .ok (.ireturn, 1) := by decide +kernel
theorem dX10_told_0 : decode cX10_told 0 = .ok (.iload_n 1, 1) := by decide +kernel
theorem dX10_told_1 : decode cX10_told 1 = .ok (.tableswitch 129 0 9 #[55, 63, 71, 79, 87, 95, 103, 111, 119, 124], 55) := by decide +kernel
theorem dX10_told_56 : decode cX10_told 56 = .ok (.aload_n 0, 1) := by decide +kernel
theorem dX10_told_57 : decode cX10_told 57 = .ok (.getfield 10, 3) := by decide +kernel
theorem dX10_told_60 : decode cX10_told 60 = .ok (.getfield 93, 3) := by decide +kernel
theorem dX10_told_63 : decode cX10_told 63 = .ok (.ireturn, 1) := by decide +kernel
theorem dX10_told_64 : decode cX10_told 64 = .ok (.aload_n 0, 1) := by decide +kernel
theorem dX10_told_65 : decode cX10_told 65 = .ok (.getfield 19, 3) := by decide +kernel
theorem dX10_told_68 : decode cX10_told 68 = .ok (.getfield 112, 3) := by decide +kernel
theorem dX10_told_71 : decode cX10_told 71 = .ok (.ireturn, 1) := by decide +kernel
theorem dX10_told_72 : decode cX10_told 72 = .ok (.aload_n 0, 1) := by decide +kernel
theorem dX10_told_73 : decode cX10_told 73 = .ok (.getfield 30, 3) := by decide +kernel
theorem dX10_told_76 : decode cX10_told 76 = .ok (.getfield 160, 3) := by decide +kernel
theorem dX10_told_79 : decode cX10_told 79 = .ok (.ireturn, 1) := by decide +kernel
theorem dX10_told_80 : decode cX10_told 80 = .ok (.aload_n 0, 1) := by decide +kernel
theorem dX10_told_81 : decode cX10_told 81 = .ok (.getfield 30, 3) := by decide +kernel
theorem dX10_told_84 : decode cX10_told 84 = .ok (.invokevirtual 161, 3) := by decide +kernel
theorem dX10_told_87 : decode cX10_told 87 = .ok (.ireturn, 1) := by decide +kernel
theorem dX10_told_88 : decode cX10_told 88 = .ok (.aload_n 0, 1) := by decide +kernel
theorem dX10_told_89 : decode cX10_told 89 = .ok (.getfield 44, 3) := by decide +kernel
theorem dX10_told_92 : decode cX10_told 92 = .ok (.getfield 190, 3) := by decide +kernel
theorem dX10_told_95 : decode cX10_told 95 = .ok (.ireturn, 1) := by decide +kernel
theorem dX10_told_96 : decode cX10_told 96 = .ok (.aload_n 0, 1) := by decide +kernel
theorem dX10_told_97 : decode cX10_told 97 = .ok (.getfield 54, 3) := by decide +kernel
theorem dX10_told_100 : decode cX10_told 100 = .ok (.getfield 207, 3) := by decide +kernel
theorem dX10_told_103 : decode cX10_told 103 = .ok (.ireturn, 1) := by decide +kernel
theorem dX10_told_104 : decode cX10_told 104 = .ok (.aload_n 0, 1) := by decide +kernel
theorem dX10_told_105 : decode cX10_told 105 = .ok (.getfield 68, 3) := by decide +kernel
theorem dX10_told_108 : decode cX10_told 108 = .ok (.getfield 228, 3) := by decide +kernel
theorem dX10_told_111 : decode cX10_told 111 = .ok (.ireturn, 1) := by decide +kernel
theorem dX10_told_112 : decode cX10_told 112 = .ok (.aload_n 0, 1) := by decide +kernel
theorem dX10_told_113 : decode cX10_told 113 = .ok (.getfield 72, 3) := by decide +kernel
theorem dX10_told_116 : decode cX10_told 116 = .ok (.getfield 228, 3) := by decide +kernel
theorem dX10_told_119 : decode cX10_told 119 = .ok (.ireturn, 1) := by decide +kernel
theorem dX10_told_120 : decode cX10_told 120 = .ok (.aload_n 0, 1) := by decide +kernel
theorem dX10_told_121 : decode cX10_told 121 = .ok (.invokevirtual 299, 3) := by decide +kernel
theorem dX10_told_124 : decode cX10_told 124 = .ok (.ireturn, 1) := by decide +kernel
theorem dX10_told_125 : decode cX10_told 125 = .ok (.aload_n 0, 1) := by decide +kernel
theorem dX10_told_126 : decode cX10_told 126 = .ok (.invokevirtual 302, 3) := by decide +kernel
theorem dX10_told_129 : decode cX10_told 129 = .ok (.ireturn, 1) := by decide +kernel
theorem dX10_told_130 : decode cX10_told 130 = .ok (.bipush (-2), 2) := by decide +kernel
theorem dX10_told_132 : decode cX10_told 132 = .ok (.ireturn, 1) := by decide +kernel
theorem dX10_within_0 : decode cX10_within 0 = .ok (.iload_n 0, 1) := by decide +kernel
theorem dX10_within_1 : decode cX10_within 1 = .ok (.iload_n 1, 1) := by decide +kernel
theorem dX10_within_2 : decode cX10_within 2 = .ok (.if_icmp .lt 12, 3) := by decide +kernel
theorem dX10_within_5 : decode cX10_within 5 = .ok (.iload_n 0, 1) := by decide +kernel
theorem dX10_within_6 : decode cX10_within 6 = .ok (.iload_n 2, 1) := by decide +kernel
theorem dX10_within_7 : decode cX10_within 7 = .ok (.if_icmp .gt 7, 3) := by decide +kernel
theorem dX10_within_10 : decode cX10_within 10 = .ok (.iconst 1, 1) := by decide +kernel
theorem dX10_within_11 : decode cX10_within 11 = .ok (.goto 4, 3) := by decide +kernel
theorem dX10_within_14 : decode cX10_within 14 = .ok (.iconst 0, 1) := by decide +kernel
theorem dX10_within_15 : decode cX10_within 15 = .ok (.ireturn, 1) := by decide +kernel
theorem dX10_isDay_0 : decode cX10_isDay 0 = .ok (.iload_n 0, 1) := by decide +kernel
theorem dX10_isDay_1 : decode cX10_isDay 1 = .ok (.iconst 0, 1) := by decide +kernel
theorem dX10_isDay_2 : decode cX10_isDay 2 = .ok (.sipush 400, 3) := by decide +kernel
theorem dX10_isDay_5 : decode cX10_isDay 5 = .ok (.invokestatic 89, 3) := by decide +kernel
theorem dX10_isDay_8 : decode cX10_isDay 8 = .ok (.ireturn, 1) := by decide +kernel
theorem dX10_isHour_0 : decode cX10_isHour 0 = .ok (.iload_n 0, 1) := by decide +kernel
theorem dX10_isHour_1 : decode cX10_isHour 1 = .ok (.iconst 0, 1) := by decide +kernel
theorem dX10_isHour_2 : decode cX10_isHour 2 = .ok (.sipush 2000, 3) := by decide +kernel
theorem dX10_isHour_5 : decode cX10_isHour 5 = .ok (.invokestatic 89, 3) := by decide +kernel
theorem dX10_isHour_8 : decode cX10_isHour 8 = .ok (.ireturn, 1) := by decide +kernel
theorem dX10_isBoat_0 : decode cX10_isBoat 0 = .ok (.iload_n 0, 1) := by decide +kernel
theorem dX10_isBoat_1 : decode cX10_isBoat 1 = .ok (.iconst 0, 1) := by decide +kernel
theorem dX10_isBoat_2 : decode cX10_isBoat 2 = .ok (.bipush 9, 2) := by decide +kernel
theorem dX10_isBoat_4 : decode cX10_isBoat 4 = .ok (.invokestatic 89, 3) := by decide +kernel
theorem dX10_isBoat_7 : decode cX10_isBoat 7 = .ok (.ireturn, 1) := by decide +kernel
theorem dX10_isQuay_0 : decode cX10_isQuay 0 = .ok (.iload_n 0, 1) := by decide +kernel
theorem dX10_isQuay_1 : decode cX10_isQuay 1 = .ok (.iconst 0, 1) := by decide +kernel
theorem dX10_isQuay_2 : decode cX10_isQuay 2 = .ok (.iconst 3, 1) := by decide +kernel
theorem dX10_isQuay_3 : decode cX10_isQuay 3 = .ok (.invokestatic 89, 3) := by decide +kernel
theorem dX10_isQuay_6 : decode cX10_isQuay 6 = .ok (.ireturn, 1) := by decide +kernel
theorem dX10_isQuayOrNone_0 : decode cX10_isQuayOrNone 0 = .ok (.iload_n 0, 1) := by decide +kernel
theorem dX10_isQuayOrNone_1 : decode cX10_isQuayOrNone 1 = .ok (.iconst (-1), 1) := by decide +kernel
theorem dX10_isQuayOrNone_2 : decode cX10_isQuayOrNone 2 = .ok (.if_icmp .eq 10, 3) := by decide +kernel
theorem dX10_isQuayOrNone_5 : decode cX10_isQuayOrNone 5 = .ok (.iload_n 0, 1) := by decide +kernel
theorem dX10_isQuayOrNone_6 : decode cX10_isQuayOrNone 6 = .ok (.invokestatic 116, 3) := by decide +kernel
theorem dX10_isQuayOrNone_9 : decode cX10_isQuayOrNone 9 = .ok (.ifCond .eq 7, 3) := by decide +kernel
theorem dX10_isQuayOrNone_12 : decode cX10_isQuayOrNone 12 = .ok (.iconst 1, 1) := by decide +kernel
theorem dX10_isQuayOrNone_13 : decode cX10_isQuayOrNone 13 = .ok (.goto 4, 3) := by decide +kernel
theorem dX10_isQuayOrNone_16 : decode cX10_isQuayOrNone 16 = .ok (.iconst 0, 1) := by decide +kernel
theorem dX10_isQuayOrNone_17 : decode cX10_isQuayOrNone 17 = .ok (.ireturn, 1) := by decide +kernel
theorem dX10_isLanding_0 : decode cX10_isLanding 0 = .ok (.iload_n 1, 1) := by decide +kernel
theorem dX10_isLanding_1 : decode cX10_isLanding 1 = .ok (.iconst 0, 1) := by decide +kernel
theorem dX10_isLanding_2 : decode cX10_isLanding 2 = .ok (.aload_n 0, 1) := by decide +kernel
theorem dX10_isLanding_3 : decode cX10_isLanding 3 = .ok (.getfield 30, 3) := by decide +kernel
theorem dX10_isLanding_6 : decode cX10_isLanding 6 = .ok (.getfield 160, 3) := by decide +kernel
theorem dX10_isLanding_9 : decode cX10_isLanding 9 = .ok (.iconst 1, 1) := by decide +kernel
theorem dX10_isLanding_10 : decode cX10_isLanding 10 = .ok (.isub, 1) := by decide +kernel
theorem dX10_isLanding_11 : decode cX10_isLanding 11 = .ok (.invokestatic 89, 3) := by decide +kernel
theorem dX10_isLanding_14 : decode cX10_isLanding 14 = .ok (.ireturn, 1) := by decide +kernel
theorem dX10_choose_0 : decode cX10_choose 0 = .ok (.iload_n 1, 1) := by decide +kernel
theorem dX10_choose_1 : decode cX10_choose 1 = .ok (.iload_n 0, 1) := by decide +kernel
theorem dX10_choose_2 : decode cX10_choose 2 = .ok (.if_icmp .le 5, 3) := by decide +kernel
theorem dX10_choose_5 : decode cX10_choose 5 = .ok (.lconst 0, 1) := by decide +kernel
theorem dX10_choose_6 : decode cX10_choose 6 = .ok (.lreturn, 1) := by decide +kernel
theorem dX10_choose_7 : decode cX10_choose 7 = .ok (.lconst 1, 1) := by decide +kernel
theorem dX10_choose_8 : decode cX10_choose 8 = .ok (.lstore_n 2, 1) := by decide +kernel
theorem dX10_choose_9 : decode cX10_choose 9 = .ok (.iconst 1, 1) := by decide +kernel
theorem dX10_choose_10 : decode cX10_choose 10 = .ok (.istore 4, 2) := by decide +kernel
theorem dX10_choose_12 : decode cX10_choose 12 = .ok (.iload 4, 2) := by decide +kernel
theorem dX10_choose_14 : decode cX10_choose 14 = .ok (.iload_n 1, 1) := by decide +kernel
theorem dX10_choose_15 : decode cX10_choose 15 = .ok (.if_icmp .gt 23, 3) := by decide +kernel
theorem dX10_choose_18 : decode cX10_choose 18 = .ok (.lload_n 2, 1) := by decide +kernel
theorem dX10_choose_19 : decode cX10_choose 19 = .ok (.iload_n 0, 1) := by decide +kernel
theorem dX10_choose_20 : decode cX10_choose 20 = .ok (.iload_n 1, 1) := by decide +kernel
theorem dX10_choose_21 : decode cX10_choose 21 = .ok (.isub, 1) := by decide +kernel
theorem dX10_choose_22 : decode cX10_choose 22 = .ok (.iload 4, 2) := by decide +kernel
theorem dX10_choose_24 : decode cX10_choose 24 = .ok (.iadd, 1) := by decide +kernel
theorem dX10_choose_25 : decode cX10_choose 25 = .ok (.i2l, 1) := by decide +kernel
theorem dX10_choose_26 : decode cX10_choose 26 = .ok (.lmul, 1) := by decide +kernel
theorem dX10_choose_27 : decode cX10_choose 27 = .ok (.iload 4, 2) := by decide +kernel
theorem dX10_choose_29 : decode cX10_choose 29 = .ok (.i2l, 1) := by decide +kernel
theorem dX10_choose_30 : decode cX10_choose 30 = .ok (.ldiv, 1) := by decide +kernel
theorem dX10_choose_31 : decode cX10_choose 31 = .ok (.lstore_n 2, 1) := by decide +kernel
theorem dX10_choose_32 : decode cX10_choose 32 = .ok (.iinc 4 1, 3) := by decide +kernel
theorem dX10_choose_35 : decode cX10_choose 35 = .ok (.goto (-23), 3) := by decide +kernel
theorem dX10_choose_38 : decode cX10_choose 38 = .ok (.lload_n 2, 1) := by decide +kernel
theorem dX10_choose_39 : decode cX10_choose 39 = .ok (.lreturn, 1) := by decide +kernel
theorem dX10_work_0 : decode cX10_work 0 = .ok (.aload_n 0, 1) := by decide +kernel
theorem dX10_work_1 : decode cX10_work 1 = .ok (.getfield 30, 3) := by decide +kernel
theorem dX10_work_4 : decode cX10_work 4 = .ok (.aload_n 0, 1) := by decide +kernel
theorem dX10_work_5 : decode cX10_work 5 = .ok (.getfield 23, 3) := by decide +kernel
theorem dX10_work_8 : decode cX10_work 8 = .ok (.iconst 0, 1) := by decide +kernel
theorem dX10_work_9 : decode cX10_work 9 = .ok (.iaload, 1) := by decide +kernel
theorem dX10_work_10 : decode cX10_work 10 = .ok (.invokevirtual 305, 3) := by decide +kernel
theorem dX10_work_13 : decode cX10_work 13 = .ok (.return_, 1) := by decide +kernel
theorem dX10_barrelsAt_0 : decode cX10_barrelsAt 0 = .ok (.aload_n 0, 1) := by decide +kernel
theorem dX10_barrelsAt_1 : decode cX10_barrelsAt 1 = .ok (.getfield 30, 3) := by decide +kernel
theorem dX10_barrelsAt_4 : decode cX10_barrelsAt 4 = .ok (.getfield 260, 3) := by decide +kernel
theorem dX10_barrelsAt_7 : decode cX10_barrelsAt 7 = .ok (.iload_n 1, 1) := by decide +kernel
theorem dX10_barrelsAt_8 : decode cX10_barrelsAt 8 = .ok (.iaload, 1) := by decide +kernel
theorem dX10_barrelsAt_9 : decode cX10_barrelsAt 9 = .ok (.aload_n 0, 1) := by decide +kernel
theorem dX10_barrelsAt_10 : decode cX10_barrelsAt 10 = .ok (.getfield 23, 3) := by decide +kernel
theorem dX10_barrelsAt_13 : decode cX10_barrelsAt 13 = .ok (.iconst 1, 1) := by decide +kernel
theorem dX10_barrelsAt_14 : decode cX10_barrelsAt 14 = .ok (.iaload, 1) := by decide +kernel
theorem dX10_barrelsAt_15 : decode cX10_barrelsAt 15 = .ok (.idiv, 1) := by decide +kernel
theorem dX10_barrelsAt_16 : decode cX10_barrelsAt 16 = .ok (.ireturn, 1) := by decide +kernel
theorem dX10_barrelsOfAll_0 : decode cX10_barrelsOfAll 0 = .ok (.aload_n 0, 1) := by decide +kernel
theorem dX10_barrelsOfAll_1 : decode cX10_barrelsOfAll 1 = .ok (.invokevirtual 119, 3) := by decide +kernel
theorem dX10_barrelsOfAll_4 : decode cX10_barrelsOfAll 4 = .ok (.iconst 0, 1) := by decide +kernel
theorem dX10_barrelsOfAll_5 : decode cX10_barrelsOfAll 5 = .ok (.istore_n 1, 1) := by decide +kernel
theorem dX10_barrelsOfAll_6 : decode cX10_barrelsOfAll 6 = .ok (.iconst 0, 1) := by decide +kernel
theorem dX10_barrelsOfAll_7 : decode cX10_barrelsOfAll 7 = .ok (.istore_n 2, 1) := by decide +kernel
theorem dX10_barrelsOfAll_8 : decode cX10_barrelsOfAll 8 = .ok (.iload_n 2, 1) := by decide +kernel
theorem dX10_barrelsOfAll_9 : decode cX10_barrelsOfAll 9 = .ok (.iconst 4, 1) := by decide +kernel
theorem dX10_barrelsOfAll_10 : decode cX10_barrelsOfAll 10 = .ok (.if_icmp .ge 17, 3) := by decide +kernel
theorem dX10_barrelsOfAll_13 : decode cX10_barrelsOfAll 13 = .ok (.iload_n 1, 1) := by decide +kernel
theorem dX10_barrelsOfAll_14 : decode cX10_barrelsOfAll 14 = .ok (.aload_n 0, 1) := by decide +kernel
theorem dX10_barrelsOfAll_15 : decode cX10_barrelsOfAll 15 = .ok (.iload_n 2, 1) := by decide +kernel
theorem dX10_barrelsOfAll_16 : decode cX10_barrelsOfAll 16 = .ok (.invokevirtual 122, 3) := by decide +kernel
theorem dX10_barrelsOfAll_19 : decode cX10_barrelsOfAll 19 = .ok (.iadd, 1) := by decide +kernel
theorem dX10_barrelsOfAll_20 : decode cX10_barrelsOfAll 20 = .ok (.istore_n 1, 1) := by decide +kernel
theorem dX10_barrelsOfAll_21 : decode cX10_barrelsOfAll 21 = .ok (.iinc 2 1, 3) := by decide +kernel
theorem dX10_barrelsOfAll_24 : decode cX10_barrelsOfAll 24 = .ok (.goto (-16), 3) := by decide +kernel
theorem dX10_barrelsOfAll_27 : decode cX10_barrelsOfAll 27 = .ok (.iload_n 1, 1) := by decide +kernel
theorem dX10_barrelsOfAll_28 : decode cX10_barrelsOfAll 28 = .ok (.ireturn, 1) := by decide +kernel
theorem dX10_spoiltOfAll_0 : decode cX10_spoiltOfAll 0 = .ok (.aload_n 0, 1) := by decide +kernel
theorem dX10_spoiltOfAll_1 : decode cX10_spoiltOfAll 1 = .ok (.invokevirtual 119, 3) := by decide +kernel
theorem dX10_spoiltOfAll_4 : decode cX10_spoiltOfAll 4 = .ok (.iconst 0, 1) := by decide +kernel
theorem dX10_spoiltOfAll_5 : decode cX10_spoiltOfAll 5 = .ok (.istore_n 1, 1) := by decide +kernel
theorem dX10_spoiltOfAll_6 : decode cX10_spoiltOfAll 6 = .ok (.iconst 0, 1) := by decide +kernel
theorem dX10_spoiltOfAll_7 : decode cX10_spoiltOfAll 7 = .ok (.istore_n 2, 1) := by decide +kernel
theorem dX10_spoiltOfAll_8 : decode cX10_spoiltOfAll 8 = .ok (.iload_n 2, 1) := by decide +kernel
theorem dX10_spoiltOfAll_9 : decode cX10_spoiltOfAll 9 = .ok (.iconst 4, 1) := by decide +kernel
theorem dX10_spoiltOfAll_10 : decode cX10_spoiltOfAll 10 = .ok (.if_icmp .ge 20, 3) := by decide +kernel
theorem dX10_spoiltOfAll_13 : decode cX10_spoiltOfAll 13 = .ok (.iload_n 1, 1) := by decide +kernel
theorem dX10_spoiltOfAll_14 : decode cX10_spoiltOfAll 14 = .ok (.aload_n 0, 1) := by decide +kernel
theorem dX10_spoiltOfAll_15 : decode cX10_spoiltOfAll 15 = .ok (.getfield 30, 3) := by decide +kernel
theorem dX10_spoiltOfAll_18 : decode cX10_spoiltOfAll 18 = .ok (.iload_n 2, 1) := by decide +kernel
theorem dX10_spoiltOfAll_19 : decode cX10_spoiltOfAll 19 = .ok (.invokevirtual 257, 3) := by decide +kernel
theorem dX10_spoiltOfAll_22 : decode cX10_spoiltOfAll 22 = .ok (.iadd, 1) := by decide +kernel
theorem dX10_spoiltOfAll_23 : decode cX10_spoiltOfAll 23 = .ok (.istore_n 1, 1) := by decide +kernel
theorem dX10_spoiltOfAll_24 : decode cX10_spoiltOfAll 24 = .ok (.iinc 2 1, 3) := by decide +kernel
theorem dX10_spoiltOfAll_27 : decode cX10_spoiltOfAll 27 = .ok (.goto (-19), 3) := by decide +kernel
theorem dX10_spoiltOfAll_30 : decode cX10_spoiltOfAll 30 = .ok (.iload_n 1, 1) := by decide +kernel
theorem dX10_spoiltOfAll_31 : decode cX10_spoiltOfAll 31 = .ok (.ireturn, 1) := by decide +kernel
theorem dX10_measureOne_0 : decode cX10_measureOne 0 = .ok (.aload_n 0, 1) := by decide +kernel
theorem dX10_measureOne_1 : decode cX10_measureOne 1 = .ok (.getfield 37, 3) := by decide +kernel
theorem dX10_measureOne_4 : decode cX10_measureOne 4 = .ok (.iload_n 1, 1) := by decide +kernel
theorem dX10_measureOne_5 : decode cX10_measureOne 5 = .ok (.invokevirtual 308, 3) := by decide +kernel
theorem dX10_measureOne_8 : decode cX10_measureOne 8 = .ok (.aload_n 0, 1) := by decide +kernel
theorem dX10_measureOne_9 : decode cX10_measureOne 9 = .ok (.getfield 30, 3) := by decide +kernel
theorem dX10_measureOne_12 : decode cX10_measureOne 12 = .ok (.aload_n 0, 1) := by decide +kernel
theorem dX10_measureOne_13 : decode cX10_measureOne 13 = .ok (.getfield 37, 3) := by decide +kernel
theorem dX10_measureOne_16 : decode cX10_measureOne 16 = .ok (.iload_n 2, 1) := by decide +kernel
theorem dX10_measureOne_17 : decode cX10_measureOne 17 = .ok (.aload_n 0, 1) := by decide +kernel
theorem dX10_measureOne_18 : decode cX10_measureOne 18 = .ok (.getfield 23, 3) := by decide +kernel
theorem dX10_measureOne_21 : decode cX10_measureOne 21 = .ok (.iconst 1, 1) := by decide +kernel
theorem dX10_measureOne_22 : decode cX10_measureOne 22 = .ok (.iaload, 1) := by decide +kernel
theorem dX10_measureOne_23 : decode cX10_measureOne 23 = .ok (.invokevirtual 311, 3) := by decide +kernel
theorem dX10_measureOne_26 : decode cX10_measureOne 26 = .ok (.return_, 1) := by decide +kernel
theorem dX10_tiers_0 : decode cX10_tiers 0 = .ok (.aload_n 0, 1) := by decide +kernel
theorem dX10_tiers_1 : decode cX10_tiers 1 = .ok (.getfield 23, 3) := by decide +kernel
theorem dX10_tiers_4 : decode cX10_tiers 4 = .ok (.iconst 1, 1) := by decide +kernel
theorem dX10_tiers_5 : decode cX10_tiers 5 = .ok (.iaload, 1) := by decide +kernel
theorem dX10_tiers_6 : decode cX10_tiers 6 = .ok (.aload_n 0, 1) := by decide +kernel
theorem dX10_tiers_7 : decode cX10_tiers 7 = .ok (.getfield 23, 3) := by decide +kernel
theorem dX10_tiers_10 : decode cX10_tiers 10 = .ok (.iconst 2, 1) := by decide +kernel
theorem dX10_tiers_11 : decode cX10_tiers 11 = .ok (.iaload, 1) := by decide +kernel
theorem dX10_tiers_12 : decode cX10_tiers 12 = .ok (.idiv, 1) := by decide +kernel
theorem dX10_tiers_13 : decode cX10_tiers 13 = .ok (.ireturn, 1) := by decide +kernel
theorem dX10_ofCask_0 : decode cX10_ofCask 0 = .ok (.iload_n 1, 1) := by decide +kernel
theorem dX10_ofCask_1 : decode cX10_ofCask 1 = .ok (.tableswitch 112 0 5 #[39, 47, 55, 60, 82, 104], 39) := by decide +kernel
theorem dX10_ofCask_40 : decode cX10_ofCask 40 = .ok (.aload_n 0, 1) := by decide +kernel
theorem dX10_ofCask_41 : decode cX10_ofCask 41 = .ok (.getfield 37, 3) := by decide +kernel
theorem dX10_ofCask_44 : decode cX10_ofCask 44 = .ok (.getfield 315, 3) := by decide +kernel
theorem dX10_ofCask_47 : decode cX10_ofCask 47 = .ok (.ireturn, 1) := by decide +kernel
theorem dX10_ofCask_48 : decode cX10_ofCask 48 = .ok (.aload_n 0, 1) := by decide +kernel
theorem dX10_ofCask_49 : decode cX10_ofCask 49 = .ok (.getfield 37, 3) := by decide +kernel
theorem dX10_ofCask_52 : decode cX10_ofCask 52 = .ok (.getfield 318, 3) := by decide +kernel
theorem dX10_ofCask_55 : decode cX10_ofCask 55 = .ok (.ireturn, 1) := by decide +kernel
theorem dX10_ofCask_56 : decode cX10_ofCask 56 = .ok (.aload_n 0, 1) := by decide +kernel
theorem dX10_ofCask_57 : decode cX10_ofCask 57 = .ok (.invokevirtual 321, 3) := by decide +kernel
theorem dX10_ofCask_60 : decode cX10_ofCask 60 = .ok (.ireturn, 1) := by decide +kernel
theorem dX10_ofCask_61 : decode cX10_ofCask 61 = .ok (.aload_n 0, 1) := by decide +kernel
theorem dX10_ofCask_62 : decode cX10_ofCask 62 = .ok (.getfield 44, 3) := by decide +kernel
theorem dX10_ofCask_65 : decode cX10_ofCask 65 = .ok (.aload_n 0, 1) := by decide +kernel
theorem dX10_ofCask_66 : decode cX10_ofCask 66 = .ok (.getfield 37, 3) := by decide +kernel
theorem dX10_ofCask_69 : decode cX10_ofCask 69 = .ok (.getfield 324, 3) := by decide +kernel
theorem dX10_ofCask_72 : decode cX10_ofCask 72 = .ok (.aload_n 0, 1) := by decide +kernel
theorem dX10_ofCask_73 : decode cX10_ofCask 73 = .ok (.getfield 37, 3) := by decide +kernel
theorem dX10_ofCask_76 : decode cX10_ofCask 76 = .ok (.getfield 315, 3) := by decide +kernel
theorem dX10_ofCask_79 : decode cX10_ofCask 79 = .ok (.invokevirtual 327, 3) := by decide +kernel
theorem dX10_ofCask_82 : decode cX10_ofCask 82 = .ok (.ireturn, 1) := by decide +kernel
theorem dX10_ofCask_83 : decode cX10_ofCask 83 = .ok (.aload_n 0, 1) := by decide +kernel
theorem dX10_ofCask_84 : decode cX10_ofCask 84 = .ok (.getfield 44, 3) := by decide +kernel
theorem dX10_ofCask_87 : decode cX10_ofCask 87 = .ok (.aload_n 0, 1) := by decide +kernel
theorem dX10_ofCask_88 : decode cX10_ofCask 88 = .ok (.getfield 37, 3) := by decide +kernel
theorem dX10_ofCask_91 : decode cX10_ofCask 91 = .ok (.getfield 324, 3) := by decide +kernel
theorem dX10_ofCask_94 : decode cX10_ofCask 94 = .ok (.aload_n 0, 1) := by decide +kernel
theorem dX10_ofCask_95 : decode cX10_ofCask 95 = .ok (.getfield 37, 3) := by decide +kernel
theorem dX10_ofCask_98 : decode cX10_ofCask 98 = .ok (.getfield 315, 3) := by decide +kernel
theorem dX10_ofCask_101 : decode cX10_ofCask 101 = .ok (.invokevirtual 330, 3) := by decide +kernel
theorem dX10_ofCask_104 : decode cX10_ofCask 104 = .ok (.ireturn, 1) := by decide +kernel
theorem dX10_ofCask_105 : decode cX10_ofCask 105 = .ok (.aload_n 0, 1) := by decide +kernel
theorem dX10_ofCask_106 : decode cX10_ofCask 106 = .ok (.getfield 37, 3) := by decide +kernel
theorem dX10_ofCask_109 : decode cX10_ofCask 109 = .ok (.getfield 333, 3) := by decide +kernel
theorem dX10_ofCask_112 : decode cX10_ofCask 112 = .ok (.ireturn, 1) := by decide +kernel
theorem dX10_ofCask_113 : decode cX10_ofCask 113 = .ok (.aload_n 0, 1) := by decide +kernel
theorem dX10_ofCask_114 : decode cX10_ofCask 114 = .ok (.getfield 37, 3) := by decide +kernel
theorem dX10_ofCask_117 : decode cX10_ofCask 117 = .ok (.getfield 336, 3) := by decide +kernel
theorem dX10_ofCask_120 : decode cX10_ofCask 120 = .ok (.ireturn, 1) := by decide +kernel
theorem dX10_brandOfCask_0 : decode cX10_brandOfCask 0 = .ok (.aload_n 0, 1) := by decide +kernel
theorem dX10_brandOfCask_1 : decode cX10_brandOfCask 1 = .ok (.getfield 48, 3) := by decide +kernel
theorem dX10_brandOfCask_4 : decode cX10_brandOfCask 4 = .ok (.iconst 0, 1) := by decide +kernel
theorem dX10_brandOfCask_5 : decode cX10_brandOfCask 5 = .ok (.aload_n 0, 1) := by decide +kernel
theorem dX10_brandOfCask_6 : decode cX10_brandOfCask 6 = .ok (.getfield 37, 3) := by decide +kernel
theorem dX10_brandOfCask_9 : decode cX10_brandOfCask 9 = .ok (.getfield 318, 3) := by decide +kernel
theorem dX10_brandOfCask_12 : decode cX10_brandOfCask 12 = .ok (.iastore, 1) := by decide +kernel
theorem dX10_brandOfCask_13 : decode cX10_brandOfCask 13 = .ok (.aload_n 0, 1) := by decide +kernel
theorem dX10_brandOfCask_14 : decode cX10_brandOfCask 14 = .ok (.getfield 48, 3) := by decide +kernel
theorem dX10_brandOfCask_17 : decode cX10_brandOfCask 17 = .ok (.iconst 1, 1) := by decide +kernel
theorem dX10_brandOfCask_18 : decode cX10_brandOfCask 18 = .ok (.aload_n 0, 1) := by decide +kernel
theorem dX10_brandOfCask_19 : decode cX10_brandOfCask 19 = .ok (.invokevirtual 321, 3) := by decide +kernel
theorem dX10_brandOfCask_22 : decode cX10_brandOfCask 22 = .ok (.iastore, 1) := by decide +kernel
theorem dX10_brandOfCask_23 : decode cX10_brandOfCask 23 = .ok (.aload_n 0, 1) := by decide +kernel
theorem dX10_brandOfCask_24 : decode cX10_brandOfCask 24 = .ok (.getfield 48, 3) := by decide +kernel
theorem dX10_brandOfCask_27 : decode cX10_brandOfCask 27 = .ok (.iconst 2, 1) := by decide +kernel
theorem dX10_brandOfCask_28 : decode cX10_brandOfCask 28 = .ok (.aload_n 0, 1) := by decide +kernel
theorem dX10_brandOfCask_29 : decode cX10_brandOfCask 29 = .ok (.getfield 44, 3) := by decide +kernel
theorem dX10_brandOfCask_32 : decode cX10_brandOfCask 32 = .ok (.aload_n 0, 1) := by decide +kernel
theorem dX10_brandOfCask_33 : decode cX10_brandOfCask 33 = .ok (.getfield 37, 3) := by decide +kernel
theorem dX10_brandOfCask_36 : decode cX10_brandOfCask 36 = .ok (.getfield 324, 3) := by decide +kernel
theorem dX10_brandOfCask_39 : decode cX10_brandOfCask 39 = .ok (.aload_n 0, 1) := by decide +kernel
theorem dX10_brandOfCask_40 : decode cX10_brandOfCask 40 = .ok (.getfield 37, 3) := by decide +kernel
theorem dX10_brandOfCask_43 : decode cX10_brandOfCask 43 = .ok (.getfield 315, 3) := by decide +kernel
theorem dX10_brandOfCask_46 : decode cX10_brandOfCask 46 = .ok (.invokevirtual 327, 3) := by decide +kernel
theorem dX10_brandOfCask_49 : decode cX10_brandOfCask 49 = .ok (.iastore, 1) := by decide +kernel
theorem dX10_brandOfCask_50 : decode cX10_brandOfCask 50 = .ok (.aload_n 0, 1) := by decide +kernel
theorem dX10_brandOfCask_51 : decode cX10_brandOfCask 51 = .ok (.getfield 48, 3) := by decide +kernel
theorem dX10_brandOfCask_54 : decode cX10_brandOfCask 54 = .ok (.iconst 3, 1) := by decide +kernel
theorem dX10_brandOfCask_55 : decode cX10_brandOfCask 55 = .ok (.aload_n 0, 1) := by decide +kernel
theorem dX10_brandOfCask_56 : decode cX10_brandOfCask 56 = .ok (.getfield 37, 3) := by decide +kernel
theorem dX10_brandOfCask_59 : decode cX10_brandOfCask 59 = .ok (.getfield 333, 3) := by decide +kernel
theorem dX10_brandOfCask_62 : decode cX10_brandOfCask 62 = .ok (.iastore, 1) := by decide +kernel
theorem dX10_brandOfCask_63 : decode cX10_brandOfCask 63 = .ok (.aload_n 0, 1) := by decide +kernel
theorem dX10_brandOfCask_64 : decode cX10_brandOfCask 64 = .ok (.getfield 48, 3) := by decide +kernel
theorem dX10_brandOfCask_67 : decode cX10_brandOfCask 67 = .ok (.iconst 4, 1) := by decide +kernel
theorem dX10_brandOfCask_68 : decode cX10_brandOfCask 68 = .ok (.aload_n 0, 1) := by decide +kernel
theorem dX10_brandOfCask_69 : decode cX10_brandOfCask 69 = .ok (.getfield 37, 3) := by decide +kernel
theorem dX10_brandOfCask_72 : decode cX10_brandOfCask 72 = .ok (.getfield 324, 3) := by decide +kernel
theorem dX10_brandOfCask_75 : decode cX10_brandOfCask 75 = .ok (.iastore, 1) := by decide +kernel
theorem dX10_brandOfCask_76 : decode cX10_brandOfCask 76 = .ok (.aload_n 0, 1) := by decide +kernel
theorem dX10_brandOfCask_77 : decode cX10_brandOfCask 77 = .ok (.getfield 19, 3) := by decide +kernel
theorem dX10_brandOfCask_80 : decode cX10_brandOfCask 80 = .ok (.iload_n 1, 1) := by decide +kernel
theorem dX10_brandOfCask_81 : decode cX10_brandOfCask 81 = .ok (.aload_n 0, 1) := by decide +kernel
theorem dX10_brandOfCask_82 : decode cX10_brandOfCask 82 = .ok (.getfield 48, 3) := by decide +kernel
theorem dX10_brandOfCask_85 : decode cX10_brandOfCask 85 = .ok (.invokevirtual 339, 3) := by decide +kernel
theorem dX10_brandOfCask_88 : decode cX10_brandOfCask 88 = .ok (.ireturn, 1) := by decide +kernel
theorem dX10_countBranded_0 : decode cX10_countBranded 0 = .ok (.aload_n 0, 1) := by decide +kernel
theorem dX10_countBranded_1 : decode cX10_countBranded 1 = .ok (.iload_n 1, 1) := by decide +kernel
theorem dX10_countBranded_2 : decode cX10_countBranded 2 = .ok (.invokevirtual 122, 3) := by decide +kernel
theorem dX10_countBranded_5 : decode cX10_countBranded 5 = .ok (.istore 4, 2) := by decide +kernel
theorem dX10_countBranded_7 : decode cX10_countBranded 7 = .ok (.iconst 0, 1) := by decide +kernel
theorem dX10_countBranded_8 : decode cX10_countBranded 8 = .ok (.istore 5, 2) := by decide +kernel
theorem dX10_countBranded_10 : decode cX10_countBranded 10 = .ok (.bipush (-6), 2) := by decide +kernel
theorem dX10_countBranded_12 : decode cX10_countBranded 12 = .ok (.istore 6, 2) := by decide +kernel
theorem dX10_countBranded_14 : decode cX10_countBranded 14 = .ok (.aload_n 0, 1) := by decide +kernel
theorem dX10_countBranded_15 : decode cX10_countBranded 15 = .ok (.getfield 37, 3) := by decide +kernel
theorem dX10_countBranded_18 : decode cX10_countBranded 18 = .ok (.iload_n 1, 1) := by decide +kernel
theorem dX10_countBranded_19 : decode cX10_countBranded 19 = .ok (.invokevirtual 308, 3) := by decide +kernel
theorem dX10_countBranded_22 : decode cX10_countBranded 22 = .ok (.iconst 0, 1) := by decide +kernel
theorem dX10_countBranded_23 : decode cX10_countBranded 23 = .ok (.istore 7, 2) := by decide +kernel
theorem dX10_countBranded_25 : decode cX10_countBranded 25 = .ok (.iload 7, 2) := by decide +kernel
theorem dX10_countBranded_27 : decode cX10_countBranded 27 = .ok (.iload 4, 2) := by decide +kernel
theorem dX10_countBranded_29 : decode cX10_countBranded 29 = .ok (.if_icmp .ge 90, 3) := by decide +kernel
theorem dX10_countBranded_32 : decode cX10_countBranded 32 = .ok (.aload_n 0, 1) := by decide +kernel
theorem dX10_countBranded_33 : decode cX10_countBranded 33 = .ok (.getfield 30, 3) := by decide +kernel
theorem dX10_countBranded_36 : decode cX10_countBranded 36 = .ok (.aload_n 0, 1) := by decide +kernel
theorem dX10_countBranded_37 : decode cX10_countBranded 37 = .ok (.getfield 37, 3) := by decide +kernel
theorem dX10_countBranded_40 : decode cX10_countBranded 40 = .ok (.iload 7, 2) := by decide +kernel
theorem dX10_countBranded_42 : decode cX10_countBranded 42 = .ok (.aload_n 0, 1) := by decide +kernel
theorem dX10_countBranded_43 : decode cX10_countBranded 43 = .ok (.getfield 23, 3) := by decide +kernel
theorem dX10_countBranded_46 : decode cX10_countBranded 46 = .ok (.iconst 1, 1) := by decide +kernel
theorem dX10_countBranded_47 : decode cX10_countBranded 47 = .ok (.iaload, 1) := by decide +kernel
theorem dX10_countBranded_48 : decode cX10_countBranded 48 = .ok (.invokevirtual 311, 3) := by decide +kernel
theorem dX10_countBranded_51 : decode cX10_countBranded 51 = .ok (.aload_n 0, 1) := by decide +kernel
theorem dX10_countBranded_52 : decode cX10_countBranded 52 = .ok (.getfield 37, 3) := by decide +kernel
theorem dX10_countBranded_55 : decode cX10_countBranded 55 = .ok (.getfield 315, 3) := by decide +kernel
theorem dX10_countBranded_58 : decode cX10_countBranded 58 = .ok (.iload_n 3, 1) := by decide +kernel
theorem dX10_countBranded_59 : decode cX10_countBranded 59 = .ok (.if_icmp .le 6, 3) := by decide +kernel
theorem dX10_countBranded_62 : decode cX10_countBranded 62 = .ok (.iload 5, 2) := by decide +kernel
theorem dX10_countBranded_64 : decode cX10_countBranded 64 = .ok (.ireturn, 1) := by decide +kernel
theorem dX10_countBranded_65 : decode cX10_countBranded 65 = .ok (.aload_n 0, 1) := by decide +kernel
theorem dX10_countBranded_66 : decode cX10_countBranded 66 = .ok (.getfield 37, 3) := by decide +kernel
theorem dX10_countBranded_69 : decode cX10_countBranded 69 = .ok (.getfield 343, 3) := by decide +kernel
theorem dX10_countBranded_72 : decode cX10_countBranded 72 = .ok (.ifCond .ne 19, 3) := by decide +kernel
theorem dX10_countBranded_75 : decode cX10_countBranded 75 = .ok (.aload_n 0, 1) := by decide +kernel
theorem dX10_countBranded_76 : decode cX10_countBranded 76 = .ok (.aload_n 0, 1) := by decide +kernel
theorem dX10_countBranded_77 : decode cX10_countBranded 77 = .ok (.getfield 37, 3) := by decide +kernel
theorem dX10_countBranded_80 : decode cX10_countBranded 80 = .ok (.getfield 315, 3) := by decide +kernel
theorem dX10_countBranded_83 : decode cX10_countBranded 83 = .ok (.bipush 24, 2) := by decide +kernel
theorem dX10_countBranded_85 : decode cX10_countBranded 85 = .ok (.idiv, 1) := by decide +kernel
theorem dX10_countBranded_86 : decode cX10_countBranded 86 = .ok (.invokevirtual 129, 3) := by decide +kernel
theorem dX10_countBranded_89 : decode cX10_countBranded 89 = .ok (.istore 6, 2) := by decide +kernel
theorem dX10_countBranded_91 : decode cX10_countBranded 91 = .ok (.iload 6, 2) := by decide +kernel
theorem dX10_countBranded_93 : decode cX10_countBranded 93 = .ok (.bipush (-6), 2) := by decide +kernel
theorem dX10_countBranded_95 : decode cX10_countBranded 95 = .ok (.if_icmp .eq 18, 3) := by decide +kernel
theorem dX10_countBranded_98 : decode cX10_countBranded 98 = .ok (.iload_n 2, 1) := by decide +kernel
theorem dX10_countBranded_99 : decode cX10_countBranded 99 = .ok (.bipush (-6), 2) := by decide +kernel
theorem dX10_countBranded_101 : decode cX10_countBranded 101 = .ok (.if_icmp .eq 9, 3) := by decide +kernel
theorem dX10_countBranded_104 : decode cX10_countBranded 104 = .ok (.iload 6, 2) := by decide +kernel
theorem dX10_countBranded_106 : decode cX10_countBranded 106 = .ok (.iload_n 2, 1) := by decide +kernel
theorem dX10_countBranded_107 : decode cX10_countBranded 107 = .ok (.if_icmp .ne 6, 3) := by decide +kernel
theorem dX10_countBranded_110 : decode cX10_countBranded 110 = .ok (.iinc 5 1, 3) := by decide +kernel
theorem dX10_countBranded_113 : decode cX10_countBranded 113 = .ok (.iinc 7 1, 3) := by decide +kernel
theorem dX10_countBranded_116 : decode cX10_countBranded 116 = .ok (.goto (-91), 3) := by decide +kernel
theorem dX10_countBranded_119 : decode cX10_countBranded 119 = .ok (.iload 5, 2) := by decide +kernel
theorem dX10_countBranded_121 : decode cX10_countBranded 121 = .ok (.ireturn, 1) := by decide +kernel
theorem dX10_brandedAt_0 : decode cX10_brandedAt 0 = .ok (.aload_n 0, 1) := by decide +kernel
theorem dX10_brandedAt_1 : decode cX10_brandedAt 1 = .ok (.iload_n 1, 1) := by decide +kernel
theorem dX10_brandedAt_2 : decode cX10_brandedAt 2 = .ok (.bipush (-6), 2) := by decide +kernel
theorem dX10_brandedAt_4 : decode cX10_brandedAt 4 = .ok (.sipush 3000, 3) := by decide +kernel
theorem dX10_brandedAt_7 : decode cX10_brandedAt 7 = .ok (.invokevirtual 197, 3) := by decide +kernel
theorem dX10_brandedAt_10 : decode cX10_brandedAt 10 = .ok (.ireturn, 1) := by decide +kernel
theorem dX10_wagesAt_0 : decode cX10_wagesAt 0 = .ok (.aload_n 0, 1) := by decide +kernel
theorem dX10_wagesAt_1 : decode cX10_wagesAt 1 = .ok (.getfield 23, 3) := by decide +kernel
theorem dX10_wagesAt_4 : decode cX10_wagesAt 4 = .ok (.iconst 5, 1) := by decide +kernel
theorem dX10_wagesAt_5 : decode cX10_wagesAt 5 = .ok (.iaload, 1) := by decide +kernel
theorem dX10_wagesAt_6 : decode cX10_wagesAt 6 = .ok (.aload_n 0, 1) := by decide +kernel
theorem dX10_wagesAt_7 : decode cX10_wagesAt 7 = .ok (.iload_n 1, 1) := by decide +kernel
theorem dX10_wagesAt_8 : decode cX10_wagesAt 8 = .ok (.invokevirtual 122, 3) := by decide +kernel
theorem dX10_wagesAt_11 : decode cX10_wagesAt 11 = .ok (.imul, 1) := by decide +kernel
theorem dX10_wagesAt_12 : decode cX10_wagesAt 12 = .ok (.ireturn, 1) := by decide +kernel
theorem dX10_bountyAt_0 : decode cX10_bountyAt 0 = .ok (.aload_n 0, 1) := by decide +kernel
theorem dX10_bountyAt_1 : decode cX10_bountyAt 1 = .ok (.getfield 23, 3) := by decide +kernel
theorem dX10_bountyAt_4 : decode cX10_bountyAt 4 = .ok (.bipush 6, 2) := by decide +kernel
theorem dX10_bountyAt_6 : decode cX10_bountyAt 6 = .ok (.iaload, 1) := by decide +kernel
theorem dX10_bountyAt_7 : decode cX10_bountyAt 7 = .ok (.aload_n 0, 1) := by decide +kernel
theorem dX10_bountyAt_8 : decode cX10_bountyAt 8 = .ok (.iload_n 1, 1) := by decide +kernel
theorem dX10_bountyAt_9 : decode cX10_bountyAt 9 = .ok (.invokevirtual 254, 3) := by decide +kernel
theorem dX10_bountyAt_12 : decode cX10_bountyAt 12 = .ok (.imul, 1) := by decide +kernel
theorem dX10_bountyAt_13 : decode cX10_bountyAt 13 = .ok (.ireturn, 1) := by decide +kernel
theorem dX10_freePrice_0 : decode cX10_freePrice 0 = .ok (.aload_n 0, 1) := by decide +kernel
theorem dX10_freePrice_1 : decode cX10_freePrice 1 = .ok (.getfield 68, 3) := by decide +kernel
theorem dX10_freePrice_4 : decode cX10_freePrice 4 = .ok (.iconst 0, 1) := by decide +kernel
theorem dX10_freePrice_5 : decode cX10_freePrice 5 = .ok (.iload_n 1, 1) := by decide +kernel
theorem dX10_freePrice_6 : decode cX10_freePrice 6 = .ok (.iload_n 2, 1) := by decide +kernel
theorem dX10_freePrice_7 : decode cX10_freePrice 7 = .ok (.bipush 10, 2) := by decide +kernel
theorem dX10_freePrice_9 : decode cX10_freePrice 9 = .ok (.invokevirtual 282, 3) := by decide +kernel
theorem dX10_freePrice_12 : decode cX10_freePrice 12 = .ok (.ireturn, 1) := by decide +kernel
theorem dX10_costOf_0 : decode cX10_costOf 0 = .ok (.aload_n 0, 1) := by decide +kernel
theorem dX10_costOf_1 : decode cX10_costOf 1 = .ok (.getfield 23, 3) := by decide +kernel
theorem dX10_costOf_4 : decode cX10_costOf 4 = .ok (.iconst 4, 1) := by decide +kernel
theorem dX10_costOf_5 : decode cX10_costOf 5 = .ok (.iaload, 1) := by decide +kernel
theorem dX10_costOf_6 : decode cX10_costOf 6 = .ok (.istore 5, 2) := by decide +kernel
theorem dX10_costOf_8 : decode cX10_costOf 8 = .ok (.iload 4, 2) := by decide +kernel
theorem dX10_costOf_10 : decode cX10_costOf 10 = .ok (.istore 6, 2) := by decide +kernel
theorem dX10_costOf_12 : decode cX10_costOf 12 = .ok (.iconst 0, 1) := by decide +kernel
theorem dX10_costOf_13 : decode cX10_costOf 13 = .ok (.istore 7, 2) := by decide +kernel
theorem dX10_costOf_15 : decode cX10_costOf 15 = .ok (.iconst 0, 1) := by decide +kernel
theorem dX10_costOf_16 : decode cX10_costOf 16 = .ok (.istore 8, 2) := by decide +kernel
theorem dX10_costOf_18 : decode cX10_costOf 18 = .ok (.iload 8, 2) := by decide +kernel
theorem dX10_costOf_20 : decode cX10_costOf 20 = .ok (.aload_n 0, 1) := by decide +kernel
theorem dX10_costOf_21 : decode cX10_costOf 21 = .ok (.getfield 30, 3) := by decide +kernel
theorem dX10_costOf_24 : decode cX10_costOf 24 = .ok (.getfield 160, 3) := by decide +kernel
theorem dX10_costOf_27 : decode cX10_costOf 27 = .ok (.if_icmp .ge 137, 3) := by decide +kernel
theorem dX10_costOf_30 : decode cX10_costOf 30 = .ok (.aload_n 0, 1) := by decide +kernel
theorem dX10_costOf_31 : decode cX10_costOf 31 = .ok (.getfield 30, 3) := by decide +kernel
theorem dX10_costOf_34 : decode cX10_costOf 34 = .ok (.getfield 347, 3) := by decide +kernel
theorem dX10_costOf_37 : decode cX10_costOf 37 = .ok (.iload 8, 2) := by decide +kernel
theorem dX10_costOf_39 : decode cX10_costOf 39 = .ok (.iaload, 1) := by decide +kernel
theorem dX10_costOf_40 : decode cX10_costOf 40 = .ok (.istore 9, 2) := by decide +kernel
theorem dX10_costOf_42 : decode cX10_costOf 42 = .ok (.aload_n 0, 1) := by decide +kernel
theorem dX10_costOf_43 : decode cX10_costOf 43 = .ok (.getfield 30, 3) := by decide +kernel
theorem dX10_costOf_46 : decode cX10_costOf 46 = .ok (.getfield 173, 3) := by decide +kernel
theorem dX10_costOf_49 : decode cX10_costOf 49 = .ok (.iload 9, 2) := by decide +kernel
theorem dX10_costOf_51 : decode cX10_costOf 51 = .ok (.iaload, 1) := by decide +kernel
theorem dX10_costOf_52 : decode cX10_costOf 52 = .ok (.iload_n 1, 1) := by decide +kernel
theorem dX10_costOf_53 : decode cX10_costOf 53 = .ok (.if_icmp .ne 105, 3) := by decide +kernel
theorem dX10_costOf_56 : decode cX10_costOf 56 = .ok (.aload_n 0, 1) := by decide +kernel
theorem dX10_costOf_57 : decode cX10_costOf 57 = .ok (.getfield 30, 3) := by decide +kernel
theorem dX10_costOf_60 : decode cX10_costOf 60 = .ok (.getfield 170, 3) := by decide +kernel
theorem dX10_costOf_63 : decode cX10_costOf 63 = .ok (.iload 9, 2) := by decide +kernel
theorem dX10_costOf_65 : decode cX10_costOf 65 = .ok (.iaload, 1) := by decide +kernel
theorem dX10_costOf_66 : decode cX10_costOf 66 = .ok (.iload_n 2, 1) := by decide +kernel
theorem dX10_costOf_67 : decode cX10_costOf 67 = .ok (.if_icmp .ne 91, 3) := by decide +kernel
theorem dX10_costOf_70 : decode cX10_costOf 70 = .ok (.iload 6, 2) := by decide +kernel
theorem dX10_costOf_72 : decode cX10_costOf 72 = .ok (.aload_n 0, 1) := by decide +kernel
theorem dX10_costOf_73 : decode cX10_costOf 73 = .ok (.getfield 30, 3) := by decide +kernel
theorem dX10_costOf_76 : decode cX10_costOf 76 = .ok (.getfield 178, 3) := by decide +kernel
theorem dX10_costOf_79 : decode cX10_costOf 79 = .ok (.iload 9, 2) := by decide +kernel
theorem dX10_costOf_81 : decode cX10_costOf 81 = .ok (.iaload, 1) := by decide +kernel
theorem dX10_costOf_82 : decode cX10_costOf 82 = .ok (.invokestatic 350, 3) := by decide +kernel
theorem dX10_costOf_85 : decode cX10_costOf 85 = .ok (.istore 10, 2) := by decide +kernel
theorem dX10_costOf_87 : decode cX10_costOf 87 = .ok (.iload 6, 2) := by decide +kernel
theorem dX10_costOf_89 : decode cX10_costOf 89 = .ok (.iload 10, 2) := by decide +kernel
theorem dX10_costOf_91 : decode cX10_costOf 91 = .ok (.isub, 1) := by decide +kernel
theorem dX10_costOf_92 : decode cX10_costOf 92 = .ok (.istore 6, 2) := by decide +kernel
theorem dX10_costOf_94 : decode cX10_costOf 94 = .ok (.iload 7, 2) := by decide +kernel
theorem dX10_costOf_96 : decode cX10_costOf 96 = .ok (.iload 10, 2) := by decide +kernel
theorem dX10_costOf_98 : decode cX10_costOf 98 = .ok (.aload_n 0, 1) := by decide +kernel
theorem dX10_costOf_99 : decode cX10_costOf 99 = .ok (.getfield 61, 3) := by decide +kernel
theorem dX10_costOf_102 : decode cX10_costOf 102 = .ok (.getfield 355, 3) := by decide +kernel
theorem dX10_costOf_105 : decode cX10_costOf 105 = .ok (.iload_n 1, 1) := by decide +kernel
theorem dX10_costOf_106 : decode cX10_costOf 106 = .ok (.iaload, 1) := by decide +kernel
theorem dX10_costOf_107 : decode cX10_costOf 107 = .ok (.imul, 1) := by decide +kernel
theorem dX10_costOf_108 : decode cX10_costOf 108 = .ok (.iload 5, 2) := by decide +kernel
theorem dX10_costOf_110 : decode cX10_costOf 110 = .ok (.idiv, 1) := by decide +kernel
theorem dX10_costOf_111 : decode cX10_costOf 111 = .ok (.iadd, 1) := by decide +kernel
theorem dX10_costOf_112 : decode cX10_costOf 112 = .ok (.istore 7, 2) := by decide +kernel
theorem dX10_costOf_114 : decode cX10_costOf 114 = .ok (.aload_n 0, 1) := by decide +kernel
theorem dX10_costOf_115 : decode cX10_costOf 115 = .ok (.getfield 30, 3) := by decide +kernel
theorem dX10_costOf_118 : decode cX10_costOf 118 = .ok (.getfield 178, 3) := by decide +kernel
theorem dX10_costOf_121 : decode cX10_costOf 121 = .ok (.iload 9, 2) := by decide +kernel
theorem dX10_costOf_123 : decode cX10_costOf 123 = .ok (.iaload, 1) := by decide +kernel
theorem dX10_costOf_124 : decode cX10_costOf 124 = .ok (.iload 10, 2) := by decide +kernel
theorem dX10_costOf_126 : decode cX10_costOf 126 = .ok (.isub, 1) := by decide +kernel
theorem dX10_costOf_127 : decode cX10_costOf 127 = .ok (.istore 11, 2) := by decide +kernel
theorem dX10_costOf_129 : decode cX10_costOf 129 = .ok (.iload 7, 2) := by decide +kernel
theorem dX10_costOf_131 : decode cX10_costOf 131 = .ok (.iload 11, 2) := by decide +kernel
theorem dX10_costOf_133 : decode cX10_costOf 133 = .ok (.aload_n 0, 1) := by decide +kernel
theorem dX10_costOf_134 : decode cX10_costOf 134 = .ok (.aload_n 0, 1) := by decide +kernel
theorem dX10_costOf_135 : decode cX10_costOf 135 = .ok (.getfield 30, 3) := by decide +kernel
theorem dX10_costOf_138 : decode cX10_costOf 138 = .ok (.getfield 175, 3) := by decide +kernel
theorem dX10_costOf_141 : decode cX10_costOf 141 = .ok (.iload 9, 2) := by decide +kernel
theorem dX10_costOf_143 : decode cX10_costOf 143 = .ok (.iaload, 1) := by decide +kernel
theorem dX10_costOf_144 : decode cX10_costOf 144 = .ok (.bipush 24, 2) := by decide +kernel
theorem dX10_costOf_146 : decode cX10_costOf 146 = .ok (.idiv, 1) := by decide +kernel
theorem dX10_costOf_147 : decode cX10_costOf 147 = .ok (.iload_n 3, 1) := by decide +kernel
theorem dX10_costOf_148 : decode cX10_costOf 148 = .ok (.invokevirtual 230, 3) := by decide +kernel
theorem dX10_costOf_151 : decode cX10_costOf 151 = .ok (.imul, 1) := by decide +kernel
theorem dX10_costOf_152 : decode cX10_costOf 152 = .ok (.iload 5, 2) := by decide +kernel
theorem dX10_costOf_154 : decode cX10_costOf 154 = .ok (.idiv, 1) := by decide +kernel
theorem dX10_costOf_155 : decode cX10_costOf 155 = .ok (.iadd, 1) := by decide +kernel
theorem dX10_costOf_156 : decode cX10_costOf 156 = .ok (.istore 7, 2) := by decide +kernel
theorem dX10_costOf_158 : decode cX10_costOf 158 = .ok (.iinc 8 1, 3) := by decide +kernel
theorem dX10_costOf_161 : decode cX10_costOf 161 = .ok (.goto (-143), 3) := by decide +kernel
theorem dX10_costOf_164 : decode cX10_costOf 164 = .ok (.iload 7, 2) := by decide +kernel
theorem dX10_costOf_166 : decode cX10_costOf 166 = .ok (.ireturn, 1) := by decide +kernel
theorem dX10_savedBy_0 : decode cX10_savedBy 0 = .ok (.aload_n 0, 1) := by decide +kernel
theorem dX10_savedBy_1 : decode cX10_savedBy 1 = .ok (.iload_n 1, 1) := by decide +kernel
theorem dX10_savedBy_2 : decode cX10_savedBy 2 = .ok (.iload_n 2, 1) := by decide +kernel
theorem dX10_savedBy_3 : decode cX10_savedBy 3 = .ok (.iload_n 3, 1) := by decide +kernel
theorem dX10_savedBy_4 : decode cX10_savedBy 4 = .ok (.iconst 0, 1) := by decide +kernel
theorem dX10_savedBy_5 : decode cX10_savedBy 5 = .ok (.invokevirtual 236, 3) := by decide +kernel
theorem dX10_savedBy_8 : decode cX10_savedBy 8 = .ok (.aload_n 0, 1) := by decide +kernel
theorem dX10_savedBy_9 : decode cX10_savedBy 9 = .ok (.iload_n 1, 1) := by decide +kernel
theorem dX10_savedBy_10 : decode cX10_savedBy 10 = .ok (.iload_n 2, 1) := by decide +kernel
theorem dX10_savedBy_11 : decode cX10_savedBy 11 = .ok (.iload_n 3, 1) := by decide +kernel
theorem dX10_savedBy_12 : decode cX10_savedBy 12 = .ok (.aload_n 0, 1) := by decide +kernel
theorem dX10_savedBy_13 : decode cX10_savedBy 13 = .ok (.getfield 61, 3) := by decide +kernel
theorem dX10_savedBy_16 : decode cX10_savedBy 16 = .ok (.iload_n 1, 1) := by decide +kernel
theorem dX10_savedBy_17 : decode cX10_savedBy 17 = .ok (.iload_n 2, 1) := by decide +kernel
theorem dX10_savedBy_18 : decode cX10_savedBy 18 = .ok (.aload_n 0, 1) := by decide +kernel
theorem dX10_savedBy_19 : decode cX10_savedBy 19 = .ok (.getfield 23, 3) := by decide +kernel
theorem dX10_savedBy_22 : decode cX10_savedBy 22 = .ok (.iconst 4, 1) := by decide +kernel
theorem dX10_savedBy_23 : decode cX10_savedBy 23 = .ok (.iaload, 1) := by decide +kernel
theorem dX10_savedBy_24 : decode cX10_savedBy 24 = .ok (.invokevirtual 233, 3) := by decide +kernel
theorem dX10_savedBy_27 : decode cX10_savedBy 27 = .ok (.invokevirtual 236, 3) := by decide +kernel
theorem dX10_savedBy_30 : decode cX10_savedBy 30 = .ok (.isub, 1) := by decide +kernel
theorem dX10_savedBy_31 : decode cX10_savedBy 31 = .ok (.ireturn, 1) := by decide +kernel
theorem dX10_costsAt_0 : decode cX10_costsAt 0 = .ok (.iconst 0, 1) := by decide +kernel
theorem dX10_costsAt_1 : decode cX10_costsAt 1 = .ok (.istore_n 3, 1) := by decide +kernel
theorem dX10_costsAt_2 : decode cX10_costsAt 2 = .ok (.iconst 0, 1) := by decide +kernel
theorem dX10_costsAt_3 : decode cX10_costsAt 3 = .ok (.istore 4, 2) := by decide +kernel
theorem dX10_costsAt_5 : decode cX10_costsAt 5 = .ok (.iload 4, 2) := by decide +kernel
theorem dX10_costsAt_7 : decode cX10_costsAt 7 = .ok (.bipush 10, 2) := by decide +kernel
theorem dX10_costsAt_9 : decode cX10_costsAt 9 = .ok (.if_icmp .ge 36, 3) := by decide +kernel
theorem dX10_costsAt_12 : decode cX10_costsAt 12 = .ok (.iload_n 3, 1) := by decide +kernel
theorem dX10_costsAt_13 : decode cX10_costsAt 13 = .ok (.aload_n 0, 1) := by decide +kernel
theorem dX10_costsAt_14 : decode cX10_costsAt 14 = .ok (.iload 4, 2) := by decide +kernel
theorem dX10_costsAt_16 : decode cX10_costsAt 16 = .ok (.iload_n 1, 1) := by decide +kernel
theorem dX10_costsAt_17 : decode cX10_costsAt 17 = .ok (.iload_n 2, 1) := by decide +kernel
theorem dX10_costsAt_18 : decode cX10_costsAt 18 = .ok (.aload_n 0, 1) := by decide +kernel
theorem dX10_costsAt_19 : decode cX10_costsAt 19 = .ok (.getfield 61, 3) := by decide +kernel
theorem dX10_costsAt_22 : decode cX10_costsAt 22 = .ok (.iload 4, 2) := by decide +kernel
theorem dX10_costsAt_24 : decode cX10_costsAt 24 = .ok (.iload_n 1, 1) := by decide +kernel
theorem dX10_costsAt_25 : decode cX10_costsAt 25 = .ok (.aload_n 0, 1) := by decide +kernel
theorem dX10_costsAt_26 : decode cX10_costsAt 26 = .ok (.getfield 23, 3) := by decide +kernel
theorem dX10_costsAt_29 : decode cX10_costsAt 29 = .ok (.iconst 4, 1) := by decide +kernel
theorem dX10_costsAt_30 : decode cX10_costsAt 30 = .ok (.iaload, 1) := by decide +kernel
theorem dX10_costsAt_31 : decode cX10_costsAt 31 = .ok (.invokevirtual 233, 3) := by decide +kernel
theorem dX10_costsAt_34 : decode cX10_costsAt 34 = .ok (.invokevirtual 236, 3) := by decide +kernel
theorem dX10_costsAt_37 : decode cX10_costsAt 37 = .ok (.iadd, 1) := by decide +kernel
theorem dX10_costsAt_38 : decode cX10_costsAt 38 = .ok (.istore_n 3, 1) := by decide +kernel
theorem dX10_costsAt_39 : decode cX10_costsAt 39 = .ok (.iinc 4 1, 3) := by decide +kernel
theorem dX10_costsAt_42 : decode cX10_costsAt 42 = .ok (.goto (-37), 3) := by decide +kernel
theorem dX10_costsAt_45 : decode cX10_costsAt 45 = .ok (.iload_n 3, 1) := by decide +kernel
theorem dX10_costsAt_46 : decode cX10_costsAt 46 = .ok (.ireturn, 1) := by decide +kernel
theorem dX11_init_0 : decode cX11_init 0 = .ok (.aload_n 0, 1) := by decide +kernel
theorem dX11_init_1 : decode cX11_init 1 = .ok (.invokespecial 1, 3) := by decide +kernel
theorem dX11_init_4 : decode cX11_init 4 = .ok (.aload_n 0, 1) := by decide +kernel
theorem dX11_init_5 : decode cX11_init 5 = .ok (.bipush 60, 2) := by decide +kernel
theorem dX11_init_7 : decode cX11_init 7 = .ok (.newarray .int, 2) := by decide +kernel
theorem dX11_init_9 : decode cX11_init 9 = .ok (.putfield 7, 3) := by decide +kernel
theorem dX11_init_12 : decode cX11_init 12 = .ok (.aload_n 0, 1) := by decide +kernel
theorem dX11_init_13 : decode cX11_init 13 = .ok (.bipush 8, 2) := by decide +kernel
theorem dX11_init_15 : decode cX11_init 15 = .ok (.newarray .int, 2) := by decide +kernel
theorem dX11_init_17 : decode cX11_init 17 = .ok (.putfield 13, 3) := by decide +kernel
theorem dX11_init_20 : decode cX11_init 20 = .ok (.aload_n 0, 1) := by decide +kernel
theorem dX11_init_21 : decode cX11_init 21 = .ok (.bipush 8, 2) := by decide +kernel
theorem dX11_init_23 : decode cX11_init 23 = .ok (.newarray .int, 2) := by decide +kernel
theorem dX11_init_25 : decode cX11_init 25 = .ok (.putfield 16, 3) := by decide +kernel
theorem dX11_init_28 : decode cX11_init 28 = .ok (.aload_n 0, 1) := by decide +kernel
theorem dX11_init_29 : decode cX11_init 29 = .ok (.sipush 480, 3) := by decide +kernel
theorem dX11_init_32 : decode cX11_init 32 = .ok (.newarray .int, 2) := by decide +kernel
theorem dX11_init_34 : decode cX11_init 34 = .ok (.putfield 19, 3) := by decide +kernel
theorem dX11_init_37 : decode cX11_init 37 = .ok (.aload_n 0, 1) := by decide +kernel
theorem dX11_init_38 : decode cX11_init 38 = .ok (.iconst 4, 1) := by decide +kernel
theorem dX11_init_39 : decode cX11_init 39 = .ok (.newarray .int, 2) := by decide +kernel
theorem dX11_init_41 : decode cX11_init 41 = .ok (.putfield 22, 3) := by decide +kernel
theorem dX11_init_44 : decode cX11_init 44 = .ok (.aload_n 0, 1) := by decide +kernel
theorem dX11_init_45 : decode cX11_init 45 = .ok (.iconst 4, 1) := by decide +kernel
theorem dX11_init_46 : decode cX11_init 46 = .ok (.newarray .int, 2) := by decide +kernel
theorem dX11_init_48 : decode cX11_init 48 = .ok (.putfield 25, 3) := by decide +kernel
theorem dX11_init_51 : decode cX11_init 51 = .ok (.aload_n 0, 1) := by decide +kernel
theorem dX11_init_52 : decode cX11_init 52 = .ok (.bipush 7, 2) := by decide +kernel
theorem dX11_init_54 : decode cX11_init 54 = .ok (.newarray .int, 2) := by decide +kernel
theorem dX11_init_56 : decode cX11_init 56 = .ok (.putfield 28, 3) := by decide +kernel
theorem dX11_init_59 : decode cX11_init 59 = .ok (.aload_n 0, 1) := by decide +kernel
theorem dX11_init_60 : decode cX11_init 60 = .ok (.sipush 210, 3) := by decide +kernel
theorem dX11_init_63 : decode cX11_init 63 = .ok (.newarray .int, 2) := by decide +kernel
theorem dX11_init_65 : decode cX11_init 65 = .ok (.putfield 31, 3) := by decide +kernel
theorem dX11_init_68 : decode cX11_init 68 = .ok (.aload_n 0, 1) := by decide +kernel
theorem dX11_init_69 : decode cX11_init 69 = .ok (.bipush 48, 2) := by decide +kernel
theorem dX11_init_71 : decode cX11_init 71 = .ok (.newarray .int, 2) := by decide +kernel
theorem dX11_init_73 : decode cX11_init 73 = .ok (.putfield 34, 3) := by decide +kernel
theorem dX11_init_76 : decode cX11_init 76 = .ok (.aload_n 0, 1) := by decide +kernel
theorem dX11_init_77 : decode cX11_init 77 = .ok (.bipush 96, 2) := by decide +kernel
theorem dX11_init_79 : decode cX11_init 79 = .ok (.newarray .int, 2) := by decide +kernel
theorem dX11_init_81 : decode cX11_init 81 = .ok (.putfield 37, 3) := by decide +kernel
theorem dX11_init_84 : decode cX11_init 84 = .ok (.aload_n 0, 1) := by decide +kernel
theorem dX11_init_85 : decode cX11_init 85 = .ok (.bipush 10, 2) := by decide +kernel
theorem dX11_init_87 : decode cX11_init 87 = .ok (.newarray .int, 2) := by decide +kernel
theorem dX11_init_89 : decode cX11_init 89 = .ok (.putfield 40, 3) := by decide +kernel
theorem dX11_init_92 : decode cX11_init 92 = .ok (.aload_n 0, 1) := by decide +kernel
theorem dX11_init_93 : decode cX11_init 93 = .ok (.bipush 10, 2) := by decide +kernel
theorem dX11_init_95 : decode cX11_init 95 = .ok (.newarray .int, 2) := by decide +kernel
theorem dX11_init_97 : decode cX11_init 97 = .ok (.putfield 43, 3) := by decide +kernel
theorem dX11_init_100 : decode cX11_init 100 = .ok (.aload_n 0, 1) := by decide +kernel
theorem dX11_init_101 : decode cX11_init 101 = .ok (.bipush 10, 2) := by decide +kernel
theorem dX11_init_103 : decode cX11_init 103 = .ok (.newarray .int, 2) := by decide +kernel
theorem dX11_init_105 : decode cX11_init 105 = .ok (.putfield 46, 3) := by decide +kernel
theorem dX11_init_108 : decode cX11_init 108 = .ok (.aload_n 0, 1) := by decide +kernel
theorem dX11_init_109 : decode cX11_init 109 = .ok (.bipush 60, 2) := by decide +kernel
theorem dX11_init_111 : decode cX11_init 111 = .ok (.newarray .int, 2) := by decide +kernel
theorem dX11_init_113 : decode cX11_init 113 = .ok (.putfield 49, 3) := by decide +kernel
theorem dX11_init_116 : decode cX11_init 116 = .ok (.aload_n 0, 1) := by decide +kernel
theorem dX11_init_117 : decode cX11_init 117 = .ok (.bipush 60, 2) := by decide +kernel
theorem dX11_init_119 : decode cX11_init 119 = .ok (.newarray .int, 2) := by decide +kernel
theorem dX11_init_121 : decode cX11_init 121 = .ok (.putfield 52, 3) := by decide +kernel
theorem dX11_init_124 : decode cX11_init 124 = .ok (.aload_n 0, 1) := by decide +kernel
theorem dX11_init_125 : decode cX11_init 125 = .ok (.bipush 60, 2) := by decide +kernel
theorem dX11_init_127 : decode cX11_init 127 = .ok (.newarray .int, 2) := by decide +kernel
theorem dX11_init_129 : decode cX11_init 129 = .ok (.putfield 55, 3) := by decide +kernel
theorem dX11_init_132 : decode cX11_init 132 = .ok (.aload_n 0, 1) := by decide +kernel
theorem dX11_init_133 : decode cX11_init 133 = .ok (.iconst 4, 1) := by decide +kernel
theorem dX11_init_134 : decode cX11_init 134 = .ok (.newarray .int, 2) := by decide +kernel
theorem dX11_init_136 : decode cX11_init 136 = .ok (.putfield 58, 3) := by decide +kernel
theorem dX11_init_139 : decode cX11_init 139 = .ok (.aload_n 0, 1) := by decide +kernel
theorem dX11_init_140 : decode cX11_init 140 = .ok (.iconst 4, 1) := by decide +kernel
theorem dX11_init_141 : decode cX11_init 141 = .ok (.newarray .int, 2) := by decide +kernel
theorem dX11_init_143 : decode cX11_init 143 = .ok (.putfield 61, 3) := by decide +kernel
theorem dX11_init_146 : decode cX11_init 146 = .ok (.aload_n 0, 1) := by decide +kernel
theorem dX11_init_147 : decode cX11_init 147 = .ok (.bipush 60, 2) := by decide +kernel
theorem dX11_init_149 : decode cX11_init 149 = .ok (.newarray .int, 2) := by decide +kernel
theorem dX11_init_151 : decode cX11_init 151 = .ok (.putfield 64, 3) := by decide +kernel
theorem dX11_init_154 : decode cX11_init 154 = .ok (.aload_n 0, 1) := by decide +kernel
theorem dX11_init_155 : decode cX11_init 155 = .ok (.bipush 60, 2) := by decide +kernel
theorem dX11_init_157 : decode cX11_init 157 = .ok (.newarray .int, 2) := by decide +kernel
theorem dX11_init_159 : decode cX11_init 159 = .ok (.putfield 67, 3) := by decide +kernel
theorem dX11_init_162 : decode cX11_init 162 = .ok (.aload_n 0, 1) := by decide +kernel
theorem dX11_init_163 : decode cX11_init 163 = .ok (.bipush 60, 2) := by decide +kernel
theorem dX11_init_165 : decode cX11_init 165 = .ok (.newarray .int, 2) := by decide +kernel
theorem dX11_init_167 : decode cX11_init 167 = .ok (.putfield 70, 3) := by decide +kernel
theorem dX11_init_170 : decode cX11_init 170 = .ok (.aload_n 0, 1) := by decide +kernel
theorem dX11_init_171 : decode cX11_init 171 = .ok (.bipush 60, 2) := by decide +kernel
theorem dX11_init_173 : decode cX11_init 173 = .ok (.newarray .int, 2) := by decide +kernel
theorem dX11_init_175 : decode cX11_init 175 = .ok (.putfield 73, 3) := by decide +kernel
theorem dX11_init_178 : decode cX11_init 178 = .ok (.aload_n 0, 1) := by decide +kernel
theorem dX11_init_179 : decode cX11_init 179 = .ok (.sipush 2400, 3) := by decide +kernel
theorem dX11_init_182 : decode cX11_init 182 = .ok (.newarray .int, 2) := by decide +kernel
theorem dX11_init_184 : decode cX11_init 184 = .ok (.putfield 76, 3) := by decide +kernel
theorem dX11_init_187 : decode cX11_init 187 = .ok (.aload_n 0, 1) := by decide +kernel
theorem dX11_init_188 : decode cX11_init 188 = .ok (.sipush 2400, 3) := by decide +kernel
theorem dX11_init_191 : decode cX11_init 191 = .ok (.newarray .int, 2) := by decide +kernel
theorem dX11_init_193 : decode cX11_init 193 = .ok (.putfield 79, 3) := by decide +kernel
theorem dX11_init_196 : decode cX11_init 196 = .ok (.aload_n 0, 1) := by decide +kernel
theorem dX11_init_197 : decode cX11_init 197 = .ok (.sipush 2400, 3) := by decide +kernel
theorem dX11_init_200 : decode cX11_init 200 = .ok (.newarray .int, 2) := by decide +kernel
theorem dX11_init_202 : decode cX11_init 202 = .ok (.putfield 82, 3) := by decide +kernel
theorem dX11_init_205 : decode cX11_init 205 = .ok (.aload_n 0, 1) := by decide +kernel
theorem dX11_init_206 : decode cX11_init 206 = .ok (.bipush 30, 2) := by decide +kernel
theorem dX11_init_208 : decode cX11_init 208 = .ok (.newarray .int, 2) := by decide +kernel
theorem dX11_init_210 : decode cX11_init 210 = .ok (.putfield 85, 3) := by decide +kernel
theorem dX11_init_213 : decode cX11_init 213 = .ok (.aload_n 0, 1) := by decide +kernel
theorem dX11_init_214 : decode cX11_init 214 = .ok (.iconst 5, 1) := by decide +kernel
theorem dX11_init_215 : decode cX11_init 215 = .ok (.newarray .int, 2) := by decide +kernel
theorem dX11_init_217 : decode cX11_init 217 = .ok (.putfield 88, 3) := by decide +kernel
theorem dX11_init_220 : decode cX11_init 220 = .ok (.aload_n 0, 1) := by decide +kernel
theorem dX11_init_221 : decode cX11_init 221 = .ok (.sipush 2205, 3) := by decide +kernel
theorem dX11_init_224 : decode cX11_init 224 = .ok (.newarray .int, 2) := by decide +kernel
theorem dX11_init_226 : decode cX11_init 226 = .ok (.putfield 91, 3) := by decide +kernel
theorem dX11_init_229 : decode cX11_init 229 = .ok (.iconst 0, 1) := by decide +kernel
theorem dX11_init_230 : decode cX11_init 230 = .ok (.istore_n 1, 1) := by decide +kernel
theorem dX11_init_231 : decode cX11_init 231 = .ok (.iload_n 1, 1) := by decide +kernel
theorem dX11_init_232 : decode cX11_init 232 = .ok (.iconst 4, 1) := by decide +kernel
theorem dX11_init_233 : decode cX11_init 233 = .ok (.if_icmp .ge 25, 3) := by decide +kernel
theorem dX11_init_236 : decode cX11_init 236 = .ok (.aload_n 0, 1) := by decide +kernel
theorem dX11_init_237 : decode cX11_init 237 = .ok (.getfield 22, 3) := by decide +kernel
theorem dX11_init_240 : decode cX11_init 240 = .ok (.iload_n 1, 1) := by decide +kernel
theorem dX11_init_241 : decode cX11_init 241 = .ok (.iconst 1, 1) := by decide +kernel
theorem dX11_init_242 : decode cX11_init 242 = .ok (.iastore, 1) := by decide +kernel
theorem dX11_init_243 : decode cX11_init 243 = .ok (.aload_n 0, 1) := by decide +kernel
theorem dX11_init_244 : decode cX11_init 244 = .ok (.getfield 25, 3) := by decide +kernel
theorem dX11_init_247 : decode cX11_init 247 = .ok (.iload_n 1, 1) := by decide +kernel
theorem dX11_init_248 : decode cX11_init 248 = .ok (.sipush 500, 3) := by decide +kernel
theorem dX11_init_251 : decode cX11_init 251 = .ok (.iastore, 1) := by decide +kernel
theorem dX11_init_252 : decode cX11_init 252 = .ok (.iinc 1 1, 3) := by decide +kernel
theorem dX11_init_255 : decode cX11_init 255 = .ok (.goto (-24), 3) := by decide +kernel
theorem dX11_init_258 : decode cX11_init 258 = .ok (.iconst 0, 1) := by decide +kernel
theorem dX11_init_259 : decode cX11_init 259 = .ok (.istore_n 1, 1) := by decide +kernel
theorem dX11_init_260 : decode cX11_init 260 = .ok (.iload_n 1, 1) := by decide +kernel
theorem dX11_init_261 : decode cX11_init 261 = .ok (.bipush 10, 2) := by decide +kernel
theorem dX11_init_263 : decode cX11_init 263 = .ok (.if_icmp .ge 16, 3) := by decide +kernel
theorem dX11_init_266 : decode cX11_init 266 = .ok (.aload_n 0, 1) := by decide +kernel
theorem dX11_init_267 : decode cX11_init 267 = .ok (.getfield 40, 3) := by decide +kernel
theorem dX11_init_270 : decode cX11_init 270 = .ok (.iload_n 1, 1) := by decide +kernel
theorem dX11_init_271 : decode cX11_init 271 = .ok (.iconst (-1), 1) := by decide +kernel
theorem dX11_init_272 : decode cX11_init 272 = .ok (.iastore, 1) := by decide +kernel
theorem dX11_init_273 : decode cX11_init 273 = .ok (.iinc 1 1, 3) := by decide +kernel
theorem dX11_init_276 : decode cX11_init 276 = .ok (.goto (-16), 3) := by decide +kernel
theorem dX11_init_279 : decode cX11_init 279 = .ok (.iconst 0, 1) := by decide +kernel
theorem dX11_init_280 : decode cX11_init 280 = .ok (.istore_n 1, 1) := by decide +kernel
theorem dX11_init_281 : decode cX11_init 281 = .ok (.iload_n 1, 1) := by decide +kernel
theorem dX11_init_282 : decode cX11_init 282 = .ok (.bipush 7, 2) := by decide +kernel
theorem dX11_init_284 : decode cX11_init 284 = .ok (.if_icmp .ge 76, 3) := by decide +kernel
theorem dX11_init_287 : decode cX11_init 287 = .ok (.aload_n 0, 1) := by decide +kernel
theorem dX11_init_288 : decode cX11_init 288 = .ok (.getfield 28, 3) := by decide +kernel
theorem dX11_init_291 : decode cX11_init 291 = .ok (.iload_n 1, 1) := by decide +kernel
theorem dX11_init_292 : decode cX11_init 292 = .ok (.iload_n 1, 1) := by decide +kernel
theorem dX11_init_293 : decode cX11_init 293 = .ok (.ifCond .ne 8, 3) := by decide +kernel
theorem dX11_init_296 : decode cX11_init 296 = .ok (.bipush 24, 2) := by decide +kernel
theorem dX11_init_298 : decode cX11_init 298 = .ok (.goto 55, 3) := by decide +kernel
theorem dX11_init_301 : decode cX11_init 301 = .ok (.iload_n 1, 1) := by decide +kernel
theorem dX11_init_302 : decode cX11_init 302 = .ok (.iconst 1, 1) := by decide +kernel
theorem dX11_init_303 : decode cX11_init 303 = .ok (.if_icmp .ne 9, 3) := by decide +kernel
theorem dX11_init_306 : decode cX11_init 306 = .ok (.sipush 800, 3) := by decide +kernel
theorem dX11_init_309 : decode cX11_init 309 = .ok (.goto 44, 3) := by decide +kernel
theorem dX11_init_312 : decode cX11_init 312 = .ok (.iload_n 1, 1) := by decide +kernel
theorem dX11_init_313 : decode cX11_init 313 = .ok (.iconst 2, 1) := by decide +kernel
theorem dX11_init_314 : decode cX11_init 314 = .ok (.if_icmp .ne 8, 3) := by decide +kernel
theorem dX11_init_317 : decode cX11_init 317 = .ok (.bipush 40, 2) := by decide +kernel
theorem dX11_init_319 : decode cX11_init 319 = .ok (.goto 34, 3) := by decide +kernel
theorem dX11_init_322 : decode cX11_init 322 = .ok (.iload_n 1, 1) := by decide +kernel
theorem dX11_init_323 : decode cX11_init 323 = .ok (.iconst 3, 1) := by decide +kernel
theorem dX11_init_324 : decode cX11_init 324 = .ok (.if_icmp .ne 8, 3) := by decide +kernel
theorem dX11_init_327 : decode cX11_init 327 = .ok (.bipush 10, 2) := by decide +kernel
theorem dX11_init_329 : decode cX11_init 329 = .ok (.goto 24, 3) := by decide +kernel
theorem dX11_init_332 : decode cX11_init 332 = .ok (.iload_n 1, 1) := by decide +kernel
theorem dX11_init_333 : decode cX11_init 333 = .ok (.iconst 4, 1) := by decide +kernel
theorem dX11_init_334 : decode cX11_init 334 = .ok (.if_icmp .ne 9, 3) := by decide +kernel
theorem dX11_init_337 : decode cX11_init 337 = .ok (.sipush 1000, 3) := by decide +kernel
theorem dX11_init_340 : decode cX11_init 340 = .ok (.goto 13, 3) := by decide +kernel
theorem dX11_init_343 : decode cX11_init 343 = .ok (.iload_n 1, 1) := by decide +kernel
theorem dX11_init_344 : decode cX11_init 344 = .ok (.iconst 5, 1) := by decide +kernel
theorem dX11_init_345 : decode cX11_init 345 = .ok (.if_icmp .ne 7, 3) := by decide +kernel
theorem dX11_init_348 : decode cX11_init 348 = .ok (.iconst 5, 1) := by decide +kernel
theorem dX11_init_349 : decode cX11_init 349 = .ok (.goto 4, 3) := by decide +kernel
theorem dX11_init_352 : decode cX11_init 352 = .ok (.iconst 4, 1) := by decide +kernel
theorem dX11_init_353 : decode cX11_init 353 = .ok (.iastore, 1) := by decide +kernel
theorem dX11_init_354 : decode cX11_init 354 = .ok (.iinc 1 1, 3) := by decide +kernel
theorem dX11_init_357 : decode cX11_init 357 = .ok (.goto (-76), 3) := by decide +kernel
theorem dX11_init_360 : decode cX11_init 360 = .ok (.return_, 1) := by decide +kernel
theorem dX11_in_0 : decode cX11_in 0 = .ok (.iload_n 0, 1) := by decide +kernel
theorem dX11_in_1 : decode cX11_in 1 = .ok (.iload_n 1, 1) := by decide +kernel
theorem dX11_in_2 : decode cX11_in 2 = .ok (.if_icmp .lt 12, 3) := by decide +kernel
theorem dX11_in_5 : decode cX11_in 5 = .ok (.iload_n 0, 1) := by decide +kernel
theorem dX11_in_6 : decode cX11_in 6 = .ok (.iload_n 2, 1) := by decide +kernel
theorem dX11_in_7 : decode cX11_in 7 = .ok (.if_icmp .gt 7, 3) := by decide +kernel
theorem dX11_in_10 : decode cX11_in 10 = .ok (.iconst 1, 1) := by decide +kernel
theorem dX11_in_11 : decode cX11_in 11 = .ok (.goto 4, 3) := by decide +kernel
theorem dX11_in_14 : decode cX11_in 14 = .ok (.iconst 0, 1) := by decide +kernel
theorem dX11_in_15 : decode cX11_in 15 = .ok (.ireturn, 1) := by decide +kernel
theorem dX11_isDay_0 : decode cX11_isDay 0 = .ok (.iload_n 0, 1) := by decide +kernel
theorem dX11_isDay_1 : decode cX11_isDay 1 = .ok (.iconst 0, 1) := by decide +kernel
theorem dX11_isDay_2 : decode cX11_isDay 2 = .ok (.sipush 400, 3) := by decide +kernel
theorem dX11_isDay_5 : decode cX11_isDay 5 = .ok (.invokestatic 94, 3) := by decide +kernel
theorem dX11_isDay_8 : decode cX11_isDay 8 = .ok (.ireturn, 1) := by decide +kernel
theorem dX11_isHour_0 : decode cX11_isHour 0 = .ok (.iload_n 0, 1) := by decide +kernel
theorem dX11_isHour_1 : decode cX11_isHour 1 = .ok (.iconst 0, 1) := by decide +kernel
theorem dX11_isHour_2 : decode cX11_isHour 2 = .ok (.sipush 2000, 3) := by decide +kernel
theorem dX11_isHour_5 : decode cX11_isHour 5 = .ok (.invokestatic 94, 3) := by decide +kernel
theorem dX11_isHour_8 : decode cX11_isHour 8 = .ok (.ireturn, 1) := by decide +kernel
theorem dX11_isQuay_0 : decode cX11_isQuay 0 = .ok (.iload_n 0, 1) := by decide +kernel
theorem dX11_isQuay_1 : decode cX11_isQuay 1 = .ok (.iconst 0, 1) := by decide +kernel
theorem dX11_isQuay_2 : decode cX11_isQuay 2 = .ok (.iconst 3, 1) := by decide +kernel
theorem dX11_isQuay_3 : decode cX11_isQuay 3 = .ok (.invokestatic 94, 3) := by decide +kernel
theorem dX11_isQuay_6 : decode cX11_isQuay 6 = .ok (.ireturn, 1) := by decide +kernel
theorem dX11_say_0 : decode cX11_say 0 = .ok (.iload_n 1, 1) := by decide +kernel
theorem dX11_say_1 : decode cX11_say 1 = .ok (.bipush 33, 2) := by decide +kernel
theorem dX11_say_3 : decode cX11_say 3 = .ok (.bipush 126, 2) := by decide +kernel
theorem dX11_say_5 : decode cX11_say 5 = .ok (.invokestatic 94, 3) := by decide +kernel
theorem dX11_say_8 : decode cX11_say 8 = .ok (.ifCond .ne 6, 3) := by decide +kernel
theorem dX11_say_11 : decode cX11_say 11 = .ok (.bipush (-2), 2) := by decide +kernel
theorem dX11_say_13 : decode cX11_say 13 = .ok (.ireturn, 1) := by decide +kernel
theorem dX11_say_14 : decode cX11_say 14 = .ok (.aload_n 0, 1) := by decide +kernel
theorem dX11_say_15 : decode cX11_say 15 = .ok (.getfield 98, 3) := by decide +kernel
theorem dX11_say_18 : decode cX11_say 18 = .ok (.bipush 60, 2) := by decide +kernel
theorem dX11_say_20 : decode cX11_say 20 = .ok (.if_icmp .ne 6, 3) := by decide +kernel
theorem dX11_say_23 : decode cX11_say 23 = .ok (.bipush (-4), 2) := by decide +kernel
theorem dX11_say_25 : decode cX11_say 25 = .ok (.ireturn, 1) := by decide +kernel
theorem dX11_say_26 : decode cX11_say 26 = .ok (.aload_n 0, 1) := by decide +kernel
theorem dX11_say_27 : decode cX11_say 27 = .ok (.getfield 7, 3) := by decide +kernel
theorem dX11_say_30 : decode cX11_say 30 = .ok (.aload_n 0, 1) := by decide +kernel
theorem dX11_say_31 : decode cX11_say 31 = .ok (.getfield 98, 3) := by decide +kernel
theorem dX11_say_34 : decode cX11_say 34 = .ok (.iload_n 1, 1) := by decide +kernel
theorem dX11_say_35 : decode cX11_say 35 = .ok (.iastore, 1) := by decide +kernel
theorem dX11_say_36 : decode cX11_say 36 = .ok (.aload_n 0, 1) := by decide +kernel
theorem dX11_say_37 : decode cX11_say 37 = .ok (.dup, 1) := by decide +kernel
theorem dX11_say_38 : decode cX11_say 38 = .ok (.getfield 98, 3) := by decide +kernel
theorem dX11_say_41 : decode cX11_say 41 = .ok (.iconst 1, 1) := by decide +kernel
theorem dX11_say_42 : decode cX11_say 42 = .ok (.iadd, 1) := by decide +kernel
theorem dX11_say_43 : decode cX11_say 43 = .ok (.putfield 98, 3) := by decide +kernel
theorem dX11_say_46 : decode cX11_say 46 = .ok (.aload_n 0, 1) := by decide +kernel
theorem dX11_say_47 : decode cX11_say 47 = .ok (.getfield 98, 3) := by decide +kernel
theorem dX11_say_50 : decode cX11_say 50 = .ok (.ireturn, 1) := by decide +kernel
theorem dX11_wipe_0 : decode cX11_wipe 0 = .ok (.aload_n 0, 1) := by decide +kernel
theorem dX11_wipe_1 : decode cX11_wipe 1 = .ok (.getfield 98, 3) := by decide +kernel
theorem dX11_wipe_4 : decode cX11_wipe 4 = .ok (.istore_n 1, 1) := by decide +kernel
theorem dX11_wipe_5 : decode cX11_wipe 5 = .ok (.aload_n 0, 1) := by decide +kernel
theorem dX11_wipe_6 : decode cX11_wipe 6 = .ok (.iconst 0, 1) := by decide +kernel
theorem dX11_wipe_7 : decode cX11_wipe 7 = .ok (.putfield 98, 3) := by decide +kernel
theorem dX11_wipe_10 : decode cX11_wipe 10 = .ok (.iload_n 1, 1) := by decide +kernel
theorem dX11_wipe_11 : decode cX11_wipe 11 = .ok (.ireturn, 1) := by decide +kernel
theorem dX11_isFact_0 : decode cX11_isFact 0 = .ok (.iload_n 0, 1) := by decide +kernel
theorem dX11_isFact_1 : decode cX11_isFact 1 = .ok (.bipush 104, 2) := by decide +kernel
theorem dX11_isFact_3 : decode cX11_isFact 3 = .ok (.if_icmp .eq 27, 3) := by decide +kernel
theorem dX11_isFact_6 : decode cX11_isFact 6 = .ok (.iload_n 0, 1) := by decide +kernel
theorem dX11_isFact_7 : decode cX11_isFact 7 = .ok (.bipush 116, 2) := by decide +kernel
theorem dX11_isFact_9 : decode cX11_isFact 9 = .ok (.if_icmp .eq 21, 3) := by decide +kernel
theorem dX11_isFact_12 : decode cX11_isFact 12 = .ok (.iload_n 0, 1) := by decide +kernel
theorem dX11_isFact_13 : decode cX11_isFact 13 = .ok (.bipush 115, 2) := by decide +kernel
theorem dX11_isFact_15 : decode cX11_isFact 15 = .ok (.if_icmp .eq 15, 3) := by decide +kernel
theorem dX11_isFact_18 : decode cX11_isFact 18 = .ok (.iload_n 0, 1) := by decide +kernel
theorem dX11_isFact_19 : decode cX11_isFact 19 = .ok (.bipush 122, 2) := by decide +kernel
theorem dX11_isFact_21 : decode cX11_isFact 21 = .ok (.if_icmp .eq 9, 3) := by decide +kernel
theorem dX11_isFact_24 : decode cX11_isFact 24 = .ok (.iload_n 0, 1) := by decide +kernel
theorem dX11_isFact_25 : decode cX11_isFact 25 = .ok (.bipush 113, 2) := by decide +kernel
theorem dX11_isFact_27 : decode cX11_isFact 27 = .ok (.if_icmp .ne 7, 3) := by decide +kernel
theorem dX11_isFact_30 : decode cX11_isFact 30 = .ok (.iconst 1, 1) := by decide +kernel
theorem dX11_isFact_31 : decode cX11_isFact 31 = .ok (.goto 4, 3) := by decide +kernel
theorem dX11_isFact_34 : decode cX11_isFact 34 = .ok (.iconst 0, 1) := by decide +kernel
theorem dX11_isFact_35 : decode cX11_isFact 35 = .ok (.ireturn, 1) := by decide +kernel
theorem dX11_faultOf_0 : decode cX11_faultOf 0 = .ok (.iconst 0, 1) := by decide +kernel
theorem dX11_faultOf_1 : decode cX11_faultOf 1 = .ok (.istore_n 1, 1) := by decide +kernel
theorem dX11_faultOf_2 : decode cX11_faultOf 2 = .ok (.iconst 0, 1) := by decide +kernel
theorem dX11_faultOf_3 : decode cX11_faultOf 3 = .ok (.istore_n 2, 1) := by decide +kernel
theorem dX11_faultOf_4 : decode cX11_faultOf 4 = .ok (.iconst 0, 1) := by decide +kernel
theorem dX11_faultOf_5 : decode cX11_faultOf 5 = .ok (.istore_n 3, 1) := by decide +kernel
theorem dX11_faultOf_6 : decode cX11_faultOf 6 = .ok (.iload_n 3, 1) := by decide +kernel
theorem dX11_faultOf_7 : decode cX11_faultOf 7 = .ok (.aload_n 0, 1) := by decide +kernel
theorem dX11_faultOf_8 : decode cX11_faultOf 8 = .ok (.getfield 98, 3) := by decide +kernel
theorem dX11_faultOf_11 : decode cX11_faultOf 11 = .ok (.if_icmp .ge 242, 3) := by decide +kernel
theorem dX11_faultOf_14 : decode cX11_faultOf 14 = .ok (.aload_n 0, 1) := by decide +kernel
theorem dX11_faultOf_15 : decode cX11_faultOf 15 = .ok (.getfield 7, 3) := by decide +kernel
theorem dX11_faultOf_18 : decode cX11_faultOf 18 = .ok (.iload_n 3, 1) := by decide +kernel
theorem dX11_faultOf_19 : decode cX11_faultOf 19 = .ok (.iaload, 1) := by decide +kernel
theorem dX11_faultOf_20 : decode cX11_faultOf 20 = .ok (.istore 4, 2) := by decide +kernel
theorem dX11_faultOf_22 : decode cX11_faultOf 22 = .ok (.bipush (-6), 2) := by decide +kernel
theorem dX11_faultOf_24 : decode cX11_faultOf 24 = .ok (.istore 5, 2) := by decide +kernel
theorem dX11_faultOf_26 : decode cX11_faultOf 26 = .ok (.iload_n 1, 1) := by decide +kernel
theorem dX11_faultOf_27 : decode cX11_faultOf 27 = .ok (.ifCond .ne 58, 3) := by decide +kernel
theorem dX11_faultOf_30 : decode cX11_faultOf 30 = .ok (.iload 4, 2) := by decide +kernel
theorem dX11_faultOf_32 : decode cX11_faultOf 32 = .ok (.bipush 65, 2) := by decide +kernel
theorem dX11_faultOf_34 : decode cX11_faultOf 34 = .ok (.bipush 70, 2) := by decide +kernel
theorem dX11_faultOf_36 : decode cX11_faultOf 36 = .ok (.invokestatic 94, 3) := by decide +kernel
theorem dX11_faultOf_39 : decode cX11_faultOf 39 = .ok (.ifCond .eq 19, 3) := by decide +kernel
theorem dX11_faultOf_42 : decode cX11_faultOf 42 = .ok (.iload_n 2, 1) := by decide +kernel
theorem dX11_faultOf_43 : decode cX11_faultOf 43 = .ok (.iload 4, 2) := by decide +kernel
theorem dX11_faultOf_45 : decode cX11_faultOf 45 = .ok (.bipush 65, 2) := by decide +kernel
theorem dX11_faultOf_47 : decode cX11_faultOf 47 = .ok (.isub, 1) := by decide +kernel
theorem dX11_faultOf_48 : decode cX11_faultOf 48 = .ok (.ishr, 1) := by decide +kernel
theorem dX11_faultOf_49 : decode cX11_faultOf 49 = .ok (.iconst 1, 1) := by decide +kernel
theorem dX11_faultOf_50 : decode cX11_faultOf 50 = .ok (.iand, 1) := by decide +kernel
theorem dX11_faultOf_51 : decode cX11_faultOf 51 = .ok (.ifCond .ne 7, 3) := by decide +kernel
theorem dX11_faultOf_54 : decode cX11_faultOf 54 = .ok (.iconst 1, 1) := by decide +kernel
theorem dX11_faultOf_55 : decode cX11_faultOf 55 = .ok (.goto 5, 3) := by decide +kernel
theorem dX11_faultOf_58 : decode cX11_faultOf 58 = .ok (.bipush (-6), 2) := by decide +kernel
theorem dX11_faultOf_60 : decode cX11_faultOf 60 = .ok (.istore 5, 2) := by decide +kernel
theorem dX11_faultOf_62 : decode cX11_faultOf 62 = .ok (.iload_n 2, 1) := by decide +kernel
theorem dX11_faultOf_63 : decode cX11_faultOf 63 = .ok (.iload 5, 2) := by decide +kernel
theorem dX11_faultOf_65 : decode cX11_faultOf 65 = .ok (.iconst 1, 1) := by decide +kernel
theorem dX11_faultOf_66 : decode cX11_faultOf 66 = .ok (.if_icmp .ne 13, 3) := by decide +kernel
theorem dX11_faultOf_69 : decode cX11_faultOf 69 = .ok (.iconst 1, 1) := by decide +kernel
theorem dX11_faultOf_70 : decode cX11_faultOf 70 = .ok (.iload 4, 2) := by decide +kernel
theorem dX11_faultOf_72 : decode cX11_faultOf 72 = .ok (.bipush 65, 2) := by decide +kernel
theorem dX11_faultOf_74 : decode cX11_faultOf 74 = .ok (.isub, 1) := by decide +kernel
theorem dX11_faultOf_75 : decode cX11_faultOf 75 = .ok (.ishl, 1) := by decide +kernel
theorem dX11_faultOf_76 : decode cX11_faultOf 76 = .ok (.goto 4, 3) := by decide +kernel
theorem dX11_faultOf_79 : decode cX11_faultOf 79 = .ok (.iconst 0, 1) := by decide +kernel
theorem dX11_faultOf_80 : decode cX11_faultOf 80 = .ok (.ior, 1) := by decide +kernel
theorem dX11_faultOf_81 : decode cX11_faultOf 81 = .ok (.istore_n 2, 1) := by decide +kernel
theorem dX11_faultOf_82 : decode cX11_faultOf 82 = .ok (.goto 155, 3) := by decide +kernel
theorem dX11_faultOf_85 : decode cX11_faultOf 85 = .ok (.iload_n 1, 1) := by decide +kernel
theorem dX11_faultOf_86 : decode cX11_faultOf 86 = .ok (.iconst 1, 1) := by decide +kernel
theorem dX11_faultOf_87 : decode cX11_faultOf 87 = .ok (.if_icmp .ne 21, 3) := by decide +kernel
theorem dX11_faultOf_90 : decode cX11_faultOf 90 = .ok (.iload 4, 2) := by decide +kernel
theorem dX11_faultOf_92 : decode cX11_faultOf 92 = .ok (.bipush 58, 2) := by decide +kernel
theorem dX11_faultOf_94 : decode cX11_faultOf 94 = .ok (.if_icmp .ne 7, 3) := by decide +kernel
theorem dX11_faultOf_97 : decode cX11_faultOf 97 = .ok (.iconst 2, 1) := by decide +kernel
theorem dX11_faultOf_98 : decode cX11_faultOf 98 = .ok (.goto 5, 3) := by decide +kernel
theorem dX11_faultOf_101 : decode cX11_faultOf 101 = .ok (.bipush (-6), 2) := by decide +kernel
theorem dX11_faultOf_103 : decode cX11_faultOf 103 = .ok (.istore 5, 2) := by decide +kernel
theorem dX11_faultOf_105 : decode cX11_faultOf 105 = .ok (.goto 132, 3) := by decide +kernel
theorem dX11_faultOf_108 : decode cX11_faultOf 108 = .ok (.iload_n 1, 1) := by decide +kernel
theorem dX11_faultOf_109 : decode cX11_faultOf 109 = .ok (.iconst 2, 1) := by decide +kernel
theorem dX11_faultOf_110 : decode cX11_faultOf 110 = .ok (.if_icmp .ne 22, 3) := by decide +kernel
theorem dX11_faultOf_113 : decode cX11_faultOf 113 = .ok (.iload 4, 2) := by decide +kernel
theorem dX11_faultOf_115 : decode cX11_faultOf 115 = .ok (.invokestatic 102, 3) := by decide +kernel
theorem dX11_faultOf_118 : decode cX11_faultOf 118 = .ok (.ifCond .eq 7, 3) := by decide +kernel
theorem dX11_faultOf_121 : decode cX11_faultOf 121 = .ok (.iconst 3, 1) := by decide +kernel
theorem dX11_faultOf_122 : decode cX11_faultOf 122 = .ok (.goto 5, 3) := by decide +kernel
theorem dX11_faultOf_125 : decode cX11_faultOf 125 = .ok (.bipush (-6), 2) := by decide +kernel
theorem dX11_faultOf_127 : decode cX11_faultOf 127 = .ok (.istore 5, 2) := by decide +kernel
theorem dX11_faultOf_129 : decode cX11_faultOf 129 = .ok (.goto 108, 3) := by decide +kernel
theorem dX11_faultOf_132 : decode cX11_faultOf 132 = .ok (.iload_n 1, 1) := by decide +kernel
theorem dX11_faultOf_133 : decode cX11_faultOf 133 = .ok (.iconst 3, 1) := by decide +kernel
theorem dX11_faultOf_134 : decode cX11_faultOf 134 = .ok (.if_icmp .ne 35, 3) := by decide +kernel
theorem dX11_faultOf_137 : decode cX11_faultOf 137 = .ok (.iload 4, 2) := by decide +kernel
theorem dX11_faultOf_139 : decode cX11_faultOf 139 = .ok (.bipush 60, 2) := by decide +kernel
theorem dX11_faultOf_141 : decode cX11_faultOf 141 = .ok (.if_icmp .eq 17, 3) := by decide +kernel
theorem dX11_faultOf_144 : decode cX11_faultOf 144 = .ok (.iload 4, 2) := by decide +kernel
theorem dX11_faultOf_146 : decode cX11_faultOf 146 = .ok (.bipush 62, 2) := by decide +kernel
theorem dX11_faultOf_148 : decode cX11_faultOf 148 = .ok (.if_icmp .eq 10, 3) := by decide +kernel
theorem dX11_faultOf_151 : decode cX11_faultOf 151 = .ok (.iload 4, 2) := by decide +kernel
theorem dX11_faultOf_153 : decode cX11_faultOf 153 = .ok (.bipush 61, 2) := by decide +kernel
theorem dX11_faultOf_155 : decode cX11_faultOf 155 = .ok (.if_icmp .ne 7, 3) := by decide +kernel
theorem dX11_faultOf_158 : decode cX11_faultOf 158 = .ok (.iconst 4, 1) := by decide +kernel
theorem dX11_faultOf_159 : decode cX11_faultOf 159 = .ok (.goto 5, 3) := by decide +kernel
theorem dX11_faultOf_162 : decode cX11_faultOf 162 = .ok (.bipush (-6), 2) := by decide +kernel
theorem dX11_faultOf_164 : decode cX11_faultOf 164 = .ok (.istore 5, 2) := by decide +kernel
theorem dX11_faultOf_166 : decode cX11_faultOf 166 = .ok (.goto 71, 3) := by decide +kernel
theorem dX11_faultOf_169 : decode cX11_faultOf 169 = .ok (.iload 4, 2) := by decide +kernel
theorem dX11_faultOf_171 : decode cX11_faultOf 171 = .ok (.bipush 48, 2) := by decide +kernel
theorem dX11_faultOf_173 : decode cX11_faultOf 173 = .ok (.bipush 57, 2) := by decide +kernel
theorem dX11_faultOf_175 : decode cX11_faultOf 175 = .ok (.invokestatic 94, 3) := by decide +kernel
theorem dX11_faultOf_178 : decode cX11_faultOf 178 = .ok (.ifCond .eq 22, 3) := by decide +kernel
theorem dX11_faultOf_181 : decode cX11_faultOf 181 = .ok (.iload_n 1, 1) := by decide +kernel
theorem dX11_faultOf_182 : decode cX11_faultOf 182 = .ok (.bipush 8, 2) := by decide +kernel
theorem dX11_faultOf_184 : decode cX11_faultOf 184 = .ok (.if_icmp .ge 9, 3) := by decide +kernel
theorem dX11_faultOf_187 : decode cX11_faultOf 187 = .ok (.iload_n 1, 1) := by decide +kernel
theorem dX11_faultOf_188 : decode cX11_faultOf 188 = .ok (.iconst 1, 1) := by decide +kernel
theorem dX11_faultOf_189 : decode cX11_faultOf 189 = .ok (.iadd, 1) := by decide +kernel
theorem dX11_faultOf_190 : decode cX11_faultOf 190 = .ok (.goto 5, 3) := by decide +kernel
theorem dX11_faultOf_193 : decode cX11_faultOf 193 = .ok (.bipush (-6), 2) := by decide +kernel
theorem dX11_faultOf_195 : decode cX11_faultOf 195 = .ok (.istore 5, 2) := by decide +kernel
theorem dX11_faultOf_197 : decode cX11_faultOf 197 = .ok (.goto 40, 3) := by decide +kernel
theorem dX11_faultOf_200 : decode cX11_faultOf 200 = .ok (.iload_n 1, 1) := by decide +kernel
theorem dX11_faultOf_201 : decode cX11_faultOf 201 = .ok (.iconst 4, 1) := by decide +kernel
theorem dX11_faultOf_202 : decode cX11_faultOf 202 = .ok (.if_icmp .le 35, 3) := by decide +kernel
theorem dX11_faultOf_205 : decode cX11_faultOf 205 = .ok (.iload 4, 2) := by decide +kernel
theorem dX11_faultOf_207 : decode cX11_faultOf 207 = .ok (.bipush 44, 2) := by decide +kernel
theorem dX11_faultOf_209 : decode cX11_faultOf 209 = .ok (.if_icmp .ne 7, 3) := by decide +kernel
theorem dX11_faultOf_212 : decode cX11_faultOf 212 = .ok (.iconst 2, 1) := by decide +kernel
theorem dX11_faultOf_213 : decode cX11_faultOf 213 = .ok (.goto 22, 3) := by decide +kernel
theorem dX11_faultOf_216 : decode cX11_faultOf 216 = .ok (.iload 4, 2) := by decide +kernel
theorem dX11_faultOf_218 : decode cX11_faultOf 218 = .ok (.bipush 59, 2) := by decide +kernel
theorem dX11_faultOf_220 : decode cX11_faultOf 220 = .ok (.if_icmp .ne 13, 3) := by decide +kernel
theorem dX11_faultOf_223 : decode cX11_faultOf 223 = .ok (.iload_n 2, 1) := by decide +kernel
theorem dX11_faultOf_224 : decode cX11_faultOf 224 = .ok (.bipush 63, 2) := by decide +kernel
theorem dX11_faultOf_226 : decode cX11_faultOf 226 = .ok (.if_icmp .eq 7, 3) := by decide +kernel
theorem dX11_faultOf_229 : decode cX11_faultOf 229 = .ok (.iconst 0, 1) := by decide +kernel
theorem dX11_faultOf_230 : decode cX11_faultOf 230 = .ok (.goto 5, 3) := by decide +kernel
theorem dX11_faultOf_233 : decode cX11_faultOf 233 = .ok (.bipush (-6), 2) := by decide +kernel
theorem dX11_faultOf_235 : decode cX11_faultOf 235 = .ok (.istore 5, 2) := by decide +kernel
theorem dX11_faultOf_237 : decode cX11_faultOf 237 = .ok (.iload 5, 2) := by decide +kernel
theorem dX11_faultOf_239 : decode cX11_faultOf 239 = .ok (.ifCond .ge 5, 3) := by decide +kernel
theorem dX11_faultOf_242 : decode cX11_faultOf 242 = .ok (.iload_n 3, 1) := by decide +kernel
theorem dX11_faultOf_243 : decode cX11_faultOf 243 = .ok (.ireturn, 1) := by decide +kernel
theorem dX11_faultOf_244 : decode cX11_faultOf 244 = .ok (.iload 5, 2) := by decide +kernel
theorem dX11_faultOf_246 : decode cX11_faultOf 246 = .ok (.istore_n 1, 1) := by decide +kernel
theorem dX11_faultOf_247 : decode cX11_faultOf 247 = .ok (.iinc 3 1, 3) := by decide +kernel
theorem dX11_faultOf_250 : decode cX11_faultOf 250 = .ok (.goto (-244), 3) := by decide +kernel
theorem dX11_faultOf_253 : decode cX11_faultOf 253 = .ok (.iload_n 1, 1) := by decide +kernel
theorem dX11_faultOf_254 : decode cX11_faultOf 254 = .ok (.iconst 4, 1) := by decide +kernel
theorem dX11_faultOf_255 : decode cX11_faultOf 255 = .ok (.if_icmp .le 8, 3) := by decide +kernel
theorem dX11_faultOf_258 : decode cX11_faultOf 258 = .ok (.bipush (-6), 2) := by decide +kernel
theorem dX11_faultOf_260 : decode cX11_faultOf 260 = .ok (.goto 7, 3) := by decide +kernel
theorem dX11_faultOf_263 : decode cX11_faultOf 263 = .ok (.aload_n 0, 1) := by decide +kernel
theorem dX11_faultOf_264 : decode cX11_faultOf 264 = .ok (.getfield 98, 3) := by decide +kernel
theorem dX11_faultOf_267 : decode cX11_faultOf 267 = .ok (.ireturn, 1) := by decide +kernel
theorem dX11_fault_0 : decode cX11_fault 0 = .ok (.aload_n 0, 1) := by decide +kernel
theorem dX11_fault_1 : decode cX11_fault 1 = .ok (.invokevirtual 106, 3) := by decide +kernel
theorem dX11_fault_4 : decode cX11_fault 4 = .ok (.ireturn, 1) := by decide +kernel
theorem dX11_act_0 : decode cX11_act 0 = .ok (.iload_n 1, 1) := by decide +kernel
theorem dX11_act_1 : decode cX11_act 1 = .ok (.invokestatic 110, 3) := by decide +kernel
theorem dX11_act_4 : decode cX11_act 4 = .ok (.ifCond .ne 6, 3) := by decide +kernel
theorem dX11_act_7 : decode cX11_act 7 = .ok (.bipush (-2), 2) := by decide +kernel
theorem dX11_act_9 : decode cX11_act 9 = .ok (.ireturn, 1) := by decide +kernel
theorem dX11_act_10 : decode cX11_act 10 = .ok (.aload_n 0, 1) := by decide +kernel
theorem dX11_act_11 : decode cX11_act 11 = .ok (.getfield 113, 3) := by decide +kernel
theorem dX11_act_14 : decode cX11_act 14 = .ok (.bipush 8, 2) := by decide +kernel
theorem dX11_act_16 : decode cX11_act 16 = .ok (.if_icmp .ne 6, 3) := by decide +kernel
theorem dX11_act_19 : decode cX11_act 19 = .ok (.bipush (-4), 2) := by decide +kernel
theorem dX11_act_21 : decode cX11_act 21 = .ok (.ireturn, 1) := by decide +kernel
theorem dX11_act_22 : decode cX11_act 22 = .ok (.aload_n 0, 1) := by decide +kernel
theorem dX11_act_23 : decode cX11_act 23 = .ok (.invokevirtual 106, 3) := by decide +kernel
theorem dX11_act_26 : decode cX11_act 26 = .ok (.ifCond .lt 6, 3) := by decide +kernel
theorem dX11_act_29 : decode cX11_act 29 = .ok (.bipush (-5), 2) := by decide +kernel
theorem dX11_act_31 : decode cX11_act 31 = .ok (.ireturn, 1) := by decide +kernel
theorem dX11_act_32 : decode cX11_act 32 = .ok (.aload_n 0, 1) := by decide +kernel
theorem dX11_act_33 : decode cX11_act 33 = .ok (.getfield 13, 3) := by decide +kernel
theorem dX11_act_36 : decode cX11_act 36 = .ok (.aload_n 0, 1) := by decide +kernel
theorem dX11_act_37 : decode cX11_act 37 = .ok (.getfield 113, 3) := by decide +kernel
theorem dX11_act_40 : decode cX11_act 40 = .ok (.iload_n 1, 1) := by decide +kernel
theorem dX11_act_41 : decode cX11_act 41 = .ok (.iastore, 1) := by decide +kernel
theorem dX11_act_42 : decode cX11_act 42 = .ok (.aload_n 0, 1) := by decide +kernel
theorem dX11_act_43 : decode cX11_act 43 = .ok (.getfield 16, 3) := by decide +kernel
theorem dX11_act_46 : decode cX11_act 46 = .ok (.aload_n 0, 1) := by decide +kernel
theorem dX11_act_47 : decode cX11_act 47 = .ok (.getfield 113, 3) := by decide +kernel
theorem dX11_act_50 : decode cX11_act 50 = .ok (.aload_n 0, 1) := by decide +kernel
theorem dX11_act_51 : decode cX11_act 51 = .ok (.getfield 98, 3) := by decide +kernel
theorem dX11_act_54 : decode cX11_act 54 = .ok (.iastore, 1) := by decide +kernel
theorem dX11_act_55 : decode cX11_act 55 = .ok (.iconst 0, 1) := by decide +kernel
theorem dX11_act_56 : decode cX11_act 56 = .ok (.istore_n 2, 1) := by decide +kernel
theorem dX11_act_57 : decode cX11_act 57 = .ok (.iload_n 2, 1) := by decide +kernel
theorem dX11_act_58 : decode cX11_act 58 = .ok (.aload_n 0, 1) := by decide +kernel
theorem dX11_act_59 : decode cX11_act 59 = .ok (.getfield 98, 3) := by decide +kernel
theorem dX11_act_62 : decode cX11_act 62 = .ok (.if_icmp .ge 29, 3) := by decide +kernel
theorem dX11_act_65 : decode cX11_act 65 = .ok (.aload_n 0, 1) := by decide +kernel
theorem dX11_act_66 : decode cX11_act 66 = .ok (.getfield 19, 3) := by decide +kernel
theorem dX11_act_69 : decode cX11_act 69 = .ok (.bipush 60, 2) := by decide +kernel
theorem dX11_act_71 : decode cX11_act 71 = .ok (.aload_n 0, 1) := by decide +kernel
theorem dX11_act_72 : decode cX11_act 72 = .ok (.getfield 113, 3) := by decide +kernel
theorem dX11_act_75 : decode cX11_act 75 = .ok (.imul, 1) := by decide +kernel
theorem dX11_act_76 : decode cX11_act 76 = .ok (.iload_n 2, 1) := by decide +kernel
theorem dX11_act_77 : decode cX11_act 77 = .ok (.iadd, 1) := by decide +kernel
theorem dX11_act_78 : decode cX11_act 78 = .ok (.aload_n 0, 1) := by decide +kernel
theorem dX11_act_79 : decode cX11_act 79 = .ok (.getfield 7, 3) := by decide +kernel
theorem dX11_act_82 : decode cX11_act 82 = .ok (.iload_n 2, 1) := by decide +kernel
theorem dX11_act_83 : decode cX11_act 83 = .ok (.iaload, 1) := by decide +kernel
theorem dX11_act_84 : decode cX11_act 84 = .ok (.iastore, 1) := by decide +kernel
theorem dX11_act_85 : decode cX11_act 85 = .ok (.iinc 2 1, 3) := by decide +kernel
theorem dX11_act_88 : decode cX11_act 88 = .ok (.goto (-31), 3) := by decide +kernel
theorem dX11_act_91 : decode cX11_act 91 = .ok (.aload_n 0, 1) := by decide +kernel
theorem dX11_act_92 : decode cX11_act 92 = .ok (.dup, 1) := by decide +kernel
theorem dX11_act_93 : decode cX11_act 93 = .ok (.getfield 113, 3) := by decide +kernel
theorem dX11_act_96 : decode cX11_act 96 = .ok (.iconst 1, 1) := by decide +kernel
theorem dX11_act_97 : decode cX11_act 97 = .ok (.iadd, 1) := by decide +kernel
theorem dX11_act_98 : decode cX11_act 98 = .ok (.putfield 113, 3) := by decide +kernel
theorem dX11_act_101 : decode cX11_act 101 = .ok (.aload_n 0, 1) := by decide +kernel
theorem dX11_act_102 : decode cX11_act 102 = .ok (.iconst 0, 1) := by decide +kernel
theorem dX11_act_103 : decode cX11_act 103 = .ok (.putfield 98, 3) := by decide +kernel
theorem dX11_act_106 : decode cX11_act 106 = .ok (.aload_n 0, 1) := by decide +kernel
theorem dX11_act_107 : decode cX11_act 107 = .ok (.getfield 113, 3) := by decide +kernel
theorem dX11_act_110 : decode cX11_act 110 = .ok (.ireturn, 1) := by decide +kernel
theorem dX11_actOn_0 : decode cX11_actOn 0 = .ok (.bipush (-6), 2) := by decide +kernel
theorem dX11_actOn_2 : decode cX11_actOn 2 = .ok (.istore_n 2, 1) := by decide +kernel
theorem dX11_actOn_3 : decode cX11_actOn 3 = .ok (.iconst 0, 1) := by decide +kernel
theorem dX11_actOn_4 : decode cX11_actOn 4 = .ok (.istore_n 3, 1) := by decide +kernel
theorem dX11_actOn_5 : decode cX11_actOn 5 = .ok (.iload_n 3, 1) := by decide +kernel
theorem dX11_actOn_6 : decode cX11_actOn 6 = .ok (.aload_n 0, 1) := by decide +kernel
theorem dX11_actOn_7 : decode cX11_actOn 7 = .ok (.getfield 113, 3) := by decide +kernel
theorem dX11_actOn_10 : decode cX11_actOn 10 = .ok (.if_icmp .ge 44, 3) := by decide +kernel
theorem dX11_actOn_13 : decode cX11_actOn 13 = .ok (.aload_n 0, 1) := by decide +kernel
theorem dX11_actOn_14 : decode cX11_actOn 14 = .ok (.getfield 13, 3) := by decide +kernel
theorem dX11_actOn_17 : decode cX11_actOn 17 = .ok (.iload_n 3, 1) := by decide +kernel
theorem dX11_actOn_18 : decode cX11_actOn 18 = .ok (.iaload, 1) := by decide +kernel
theorem dX11_actOn_19 : decode cX11_actOn 19 = .ok (.iload_n 1, 1) := by decide +kernel
theorem dX11_actOn_20 : decode cX11_actOn 20 = .ok (.if_icmp .gt 26, 3) := by decide +kernel
theorem dX11_actOn_23 : decode cX11_actOn 23 = .ok (.iload_n 2, 1) := by decide +kernel
theorem dX11_actOn_24 : decode cX11_actOn 24 = .ok (.ifCond .lt 18, 3) := by decide +kernel
theorem dX11_actOn_27 : decode cX11_actOn 27 = .ok (.aload_n 0, 1) := by decide +kernel
theorem dX11_actOn_28 : decode cX11_actOn 28 = .ok (.getfield 13, 3) := by decide +kernel
theorem dX11_actOn_31 : decode cX11_actOn 31 = .ok (.iload_n 3, 1) := by decide +kernel
theorem dX11_actOn_32 : decode cX11_actOn 32 = .ok (.iaload, 1) := by decide +kernel
theorem dX11_actOn_33 : decode cX11_actOn 33 = .ok (.aload_n 0, 1) := by decide +kernel
theorem dX11_actOn_34 : decode cX11_actOn 34 = .ok (.getfield 13, 3) := by decide +kernel
theorem dX11_actOn_37 : decode cX11_actOn 37 = .ok (.iload_n 2, 1) := by decide +kernel
theorem dX11_actOn_38 : decode cX11_actOn 38 = .ok (.iaload, 1) := by decide +kernel
theorem dX11_actOn_39 : decode cX11_actOn 39 = .ok (.if_icmp .lt 7, 3) := by decide +kernel
theorem dX11_actOn_42 : decode cX11_actOn 42 = .ok (.iload_n 3, 1) := by decide +kernel
theorem dX11_actOn_43 : decode cX11_actOn 43 = .ok (.goto 4, 3) := by decide +kernel
theorem dX11_actOn_46 : decode cX11_actOn 46 = .ok (.iload_n 2, 1) := by decide +kernel
theorem dX11_actOn_47 : decode cX11_actOn 47 = .ok (.istore_n 2, 1) := by decide +kernel
theorem dX11_actOn_48 : decode cX11_actOn 48 = .ok (.iinc 3 1, 3) := by decide +kernel
theorem dX11_actOn_51 : decode cX11_actOn 51 = .ok (.goto (-46), 3) := by decide +kernel
theorem dX11_actOn_54 : decode cX11_actOn 54 = .ok (.iload_n 2, 1) := by decide +kernel
theorem dX11_actOn_55 : decode cX11_actOn 55 = .ok (.ireturn, 1) := by decide +kernel
theorem dX11_grade_0 : decode cX11_grade 0 = .ok (.iload_n 1, 1) := by decide +kernel
theorem dX11_grade_1 : decode cX11_grade 1 = .ok (.invokestatic 110, 3) := by decide +kernel
theorem dX11_grade_4 : decode cX11_grade 4 = .ok (.ifCond .ne 6, 3) := by decide +kernel
theorem dX11_grade_7 : decode cX11_grade 7 = .ok (.bipush (-2), 2) := by decide +kernel
theorem dX11_grade_9 : decode cX11_grade 9 = .ok (.ireturn, 1) := by decide +kernel
theorem dX11_grade_10 : decode cX11_grade 10 = .ok (.aload_n 0, 1) := by decide +kernel
theorem dX11_grade_11 : decode cX11_grade 11 = .ok (.iload_n 1, 1) := by decide +kernel
theorem dX11_grade_12 : decode cX11_grade 12 = .ok (.invokevirtual 116, 3) := by decide +kernel
theorem dX11_grade_15 : decode cX11_grade 15 = .ok (.istore_n 3, 1) := by decide +kernel
theorem dX11_grade_16 : decode cX11_grade 16 = .ok (.iconst 0, 1) := by decide +kernel
theorem dX11_grade_17 : decode cX11_grade 17 = .ok (.istore 4, 2) := by decide +kernel
theorem dX11_grade_19 : decode cX11_grade 19 = .ok (.iconst 0, 1) := by decide +kernel
theorem dX11_grade_20 : decode cX11_grade 20 = .ok (.istore 5, 2) := by decide +kernel
theorem dX11_grade_22 : decode cX11_grade 22 = .ok (.iload_n 3, 1) := by decide +kernel
theorem dX11_grade_23 : decode cX11_grade 23 = .ok (.ifCond .lt 61, 3) := by decide +kernel
theorem dX11_grade_26 : decode cX11_grade 26 = .ok (.iload 5, 2) := by decide +kernel
theorem dX11_grade_28 : decode cX11_grade 28 = .ok (.aload_n 0, 1) := by decide +kernel
theorem dX11_grade_29 : decode cX11_grade 29 = .ok (.getfield 16, 3) := by decide +kernel
theorem dX11_grade_32 : decode cX11_grade 32 = .ok (.iload_n 3, 1) := by decide +kernel
theorem dX11_grade_33 : decode cX11_grade 33 = .ok (.iaload, 1) := by decide +kernel
theorem dX11_grade_34 : decode cX11_grade 34 = .ok (.if_icmp .ge 50, 3) := by decide +kernel
theorem dX11_grade_37 : decode cX11_grade 37 = .ok (.aload_n 0, 1) := by decide +kernel
theorem dX11_grade_38 : decode cX11_grade 38 = .ok (.getfield 19, 3) := by decide +kernel
theorem dX11_grade_41 : decode cX11_grade 41 = .ok (.bipush 60, 2) := by decide +kernel
theorem dX11_grade_43 : decode cX11_grade 43 = .ok (.iload_n 3, 1) := by decide +kernel
theorem dX11_grade_44 : decode cX11_grade 44 = .ok (.imul, 1) := by decide +kernel
theorem dX11_grade_45 : decode cX11_grade 45 = .ok (.iload 5, 2) := by decide +kernel
theorem dX11_grade_47 : decode cX11_grade 47 = .ok (.iadd, 1) := by decide +kernel
theorem dX11_grade_48 : decode cX11_grade 48 = .ok (.iaload, 1) := by decide +kernel
theorem dX11_grade_49 : decode cX11_grade 49 = .ok (.istore 6, 2) := by decide +kernel
theorem dX11_grade_51 : decode cX11_grade 51 = .ok (.iload 6, 2) := by decide +kernel
theorem dX11_grade_53 : decode cX11_grade 53 = .ok (.bipush 65, 2) := by decide +kernel
theorem dX11_grade_55 : decode cX11_grade 55 = .ok (.bipush 70, 2) := by decide +kernel
theorem dX11_grade_57 : decode cX11_grade 57 = .ok (.invokestatic 94, 3) := by decide +kernel
theorem dX11_grade_60 : decode cX11_grade 60 = .ok (.ifCond .eq 18, 3) := by decide +kernel
theorem dX11_grade_63 : decode cX11_grade 63 = .ok (.iload 4, 2) := by decide +kernel
theorem dX11_grade_65 : decode cX11_grade 65 = .ok (.iload_n 2, 1) := by decide +kernel
theorem dX11_grade_66 : decode cX11_grade 66 = .ok (.if_icmp .ne 9, 3) := by decide +kernel
theorem dX11_grade_69 : decode cX11_grade 69 = .ok (.iload 6, 2) := by decide +kernel
theorem dX11_grade_71 : decode cX11_grade 71 = .ok (.bipush 65, 2) := by decide +kernel
theorem dX11_grade_73 : decode cX11_grade 73 = .ok (.isub, 1) := by decide +kernel
theorem dX11_grade_74 : decode cX11_grade 74 = .ok (.ireturn, 1) := by decide +kernel
theorem dX11_grade_75 : decode cX11_grade 75 = .ok (.iinc 4 1, 3) := by decide +kernel
theorem dX11_grade_78 : decode cX11_grade 78 = .ok (.iinc 5 1, 3) := by decide +kernel
theorem dX11_grade_81 : decode cX11_grade 81 = .ok (.goto (-59), 3) := by decide +kernel
theorem dX11_grade_84 : decode cX11_grade 84 = .ok (.iload_n 2, 1) := by decide +kernel
theorem dX11_grade_85 : decode cX11_grade 85 = .ok (.iconst (-1), 1) := by decide +kernel
theorem dX11_grade_86 : decode cX11_grade 86 = .ok (.if_icmp .ne 8, 3) := by decide +kernel
theorem dX11_grade_89 : decode cX11_grade 89 = .ok (.iload 4, 2) := by decide +kernel
theorem dX11_grade_91 : decode cX11_grade 91 = .ok (.goto 5, 3) := by decide +kernel
theorem dX11_grade_94 : decode cX11_grade 94 = .ok (.bipush (-6), 2) := by decide +kernel
theorem dX11_grade_96 : decode cX11_grade 96 = .ok (.ireturn, 1) := by decide +kernel
theorem dX11_factOf_0 : decode cX11_factOf 0 = .ok (.iload_n 2, 1) := by decide +kernel
theorem dX11_factOf_1 : decode cX11_factOf 1 = .ok (.bipush 104, 2) := by decide +kernel
theorem dX11_factOf_3 : decode cX11_factOf 3 = .ok (.if_icmp .ne 10, 3) := by decide +kernel
theorem dX11_factOf_6 : decode cX11_factOf 6 = .ok (.aload_n 0, 1) := by decide +kernel
theorem dX11_factOf_7 : decode cX11_factOf 7 = .ok (.getfield 120, 3) := by decide +kernel
theorem dX11_factOf_10 : decode cX11_factOf 10 = .ok (.goto 54, 3) := by decide +kernel
theorem dX11_factOf_13 : decode cX11_factOf 13 = .ok (.iload_n 2, 1) := by decide +kernel
theorem dX11_factOf_14 : decode cX11_factOf 14 = .ok (.bipush 116, 2) := by decide +kernel
theorem dX11_factOf_16 : decode cX11_factOf 16 = .ok (.if_icmp .ne 19, 3) := by decide +kernel
theorem dX11_factOf_19 : decode cX11_factOf 19 = .ok (.aload_n 0, 1) := by decide +kernel
theorem dX11_factOf_20 : decode cX11_factOf 20 = .ok (.getfield 28, 3) := by decide +kernel
theorem dX11_factOf_23 : decode cX11_factOf 23 = .ok (.iconst 1, 1) := by decide +kernel
theorem dX11_factOf_24 : decode cX11_factOf 24 = .ok (.iaload, 1) := by decide +kernel
theorem dX11_factOf_25 : decode cX11_factOf 25 = .ok (.aload_n 0, 1) := by decide +kernel
theorem dX11_factOf_26 : decode cX11_factOf 26 = .ok (.getfield 28, 3) := by decide +kernel
theorem dX11_factOf_29 : decode cX11_factOf 29 = .ok (.iconst 2, 1) := by decide +kernel
theorem dX11_factOf_30 : decode cX11_factOf 30 = .ok (.iaload, 1) := by decide +kernel
theorem dX11_factOf_31 : decode cX11_factOf 31 = .ok (.idiv, 1) := by decide +kernel
theorem dX11_factOf_32 : decode cX11_factOf 32 = .ok (.goto 32, 3) := by decide +kernel
theorem dX11_factOf_35 : decode cX11_factOf 35 = .ok (.iload_n 2, 1) := by decide +kernel
theorem dX11_factOf_36 : decode cX11_factOf 36 = .ok (.bipush 115, 2) := by decide +kernel
theorem dX11_factOf_38 : decode cX11_factOf 38 = .ok (.if_icmp .ne 12, 3) := by decide +kernel
theorem dX11_factOf_41 : decode cX11_factOf 41 = .ok (.aload_n 0, 1) := by decide +kernel
theorem dX11_factOf_42 : decode cX11_factOf 42 = .ok (.iload_n 1, 1) := by decide +kernel
theorem dX11_factOf_43 : decode cX11_factOf 43 = .ok (.iconst 3, 1) := by decide +kernel
theorem dX11_factOf_44 : decode cX11_factOf 44 = .ok (.invokevirtual 123, 3) := by decide +kernel
theorem dX11_factOf_47 : decode cX11_factOf 47 = .ok (.goto 17, 3) := by decide +kernel
theorem dX11_factOf_50 : decode cX11_factOf 50 = .ok (.iload_n 2, 1) := by decide +kernel
theorem dX11_factOf_51 : decode cX11_factOf 51 = .ok (.bipush 122, 2) := by decide +kernel
theorem dX11_factOf_53 : decode cX11_factOf 53 = .ok (.if_icmp .ne 10, 3) := by decide +kernel
theorem dX11_factOf_56 : decode cX11_factOf 56 = .ok (.aload_n 0, 1) := by decide +kernel
theorem dX11_factOf_57 : decode cX11_factOf 57 = .ok (.getfield 127, 3) := by decide +kernel
theorem dX11_factOf_60 : decode cX11_factOf 60 = .ok (.goto 4, 3) := by decide +kernel
theorem dX11_factOf_63 : decode cX11_factOf 63 = .ok (.iload_n 1, 1) := by decide +kernel
theorem dX11_factOf_64 : decode cX11_factOf 64 = .ok (.ireturn, 1) := by decide +kernel
theorem dX11_brandOf_0 : decode cX11_brandOf 0 = .ok (.aload_n 0, 1) := by decide +kernel
theorem dX11_brandOf_1 : decode cX11_brandOf 1 = .ok (.iload_n 2, 1) := by decide +kernel
theorem dX11_brandOf_2 : decode cX11_brandOf 2 = .ok (.invokevirtual 116, 3) := by decide +kernel
theorem dX11_brandOf_5 : decode cX11_brandOf 5 = .ok (.istore_n 3, 1) := by decide +kernel
theorem dX11_brandOf_6 : decode cX11_brandOf 6 = .ok (.bipush (-6), 2) := by decide +kernel
theorem dX11_brandOf_8 : decode cX11_brandOf 8 = .ok (.istore 4, 2) := by decide +kernel
theorem dX11_brandOf_10 : decode cX11_brandOf 10 = .ok (.iconst 0, 1) := by decide +kernel
theorem dX11_brandOf_11 : decode cX11_brandOf 11 = .ok (.istore 5, 2) := by decide +kernel
