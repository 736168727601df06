/-! decode rows, by program out of what TURN prints -/
theorem dX7_add_89 : decode cX7_add 89 = .ok (.iaload, 1) := by decide +kernel
theorem dX7_add_90 : decode cX7_add 90 = .ok (.iastore, 1) := by decide +kernel
theorem dX7_add_91 : decode cX7_add 91 = .ok (.iinc 7 (-1), 3) := by decide +kernel
theorem dX7_add_94 : decode cX7_add 94 = .ok (.goto (-42), 3) := by decide +kernel
theorem dX7_add_97 : decode cX7_add 97 = .ok (.aload_n 0, 1) := by decide +kernel
theorem dX7_add_98 : decode cX7_add 98 = .ok (.getfield 27, 3) := by decide +kernel
theorem dX7_add_101 : decode cX7_add 101 = .ok (.iload 7, 2) := by decide +kernel
theorem dX7_add_103 : decode cX7_add 103 = .ok (.iload 6, 2) := by decide +kernel
theorem dX7_add_105 : decode cX7_add 105 = .ok (.iastore, 1) := by decide +kernel
theorem dX7_add_106 : decode cX7_add 106 = .ok (.aload_n 0, 1) := by decide +kernel
theorem dX7_add_107 : decode cX7_add 107 = .ok (.dup, 1) := by decide +kernel
theorem dX7_add_108 : decode cX7_add 108 = .ok (.getfield 51, 3) := by decide +kernel
theorem dX7_add_111 : decode cX7_add 111 = .ok (.iconst 1, 1) := by decide +kernel
theorem dX7_add_112 : decode cX7_add 112 = .ok (.iadd, 1) := by decide +kernel
theorem dX7_add_113 : decode cX7_add 113 = .ok (.putfield 51, 3) := by decide +kernel
theorem dX7_add_116 : decode cX7_add 116 = .ok (.iload 6, 2) := by decide +kernel
theorem dX7_add_118 : decode cX7_add 118 = .ok (.ireturn, 1) := by decide +kernel
theorem dX7_waiting_0 : decode cX7_waiting 0 = .ok (.iconst 0, 1) := by decide +kernel
theorem dX7_waiting_1 : decode cX7_waiting 1 = .ok (.istore_n 1, 1) := by decide +kernel
theorem dX7_waiting_2 : decode cX7_waiting 2 = .ok (.iconst 0, 1) := by decide +kernel
theorem dX7_waiting_3 : decode cX7_waiting 3 = .ok (.istore_n 2, 1) := by decide +kernel
theorem dX7_waiting_4 : decode cX7_waiting 4 = .ok (.iload_n 2, 1) := by decide +kernel
theorem dX7_waiting_5 : decode cX7_waiting 5 = .ok (.aload_n 0, 1) := by decide +kernel
theorem dX7_waiting_6 : decode cX7_waiting 6 = .ok (.getfield 51, 3) := by decide +kernel
theorem dX7_waiting_9 : decode cX7_waiting 9 = .ok (.if_icmp .ge 22, 3) := by decide +kernel
theorem dX7_waiting_12 : decode cX7_waiting 12 = .ok (.aload_n 0, 1) := by decide +kernel
theorem dX7_waiting_13 : decode cX7_waiting 13 = .ok (.getfield 15, 3) := by decide +kernel
theorem dX7_waiting_16 : decode cX7_waiting 16 = .ok (.iload_n 2, 1) := by decide +kernel
theorem dX7_waiting_17 : decode cX7_waiting 17 = .ok (.iaload, 1) := by decide +kernel
theorem dX7_waiting_18 : decode cX7_waiting 18 = .ok (.iconst (-1), 1) := by decide +kernel
theorem dX7_waiting_19 : decode cX7_waiting 19 = .ok (.if_icmp .ne 6, 3) := by decide +kernel
theorem dX7_waiting_22 : decode cX7_waiting 22 = .ok (.iinc 1 1, 3) := by decide +kernel
theorem dX7_waiting_25 : decode cX7_waiting 25 = .ok (.iinc 2 1, 3) := by decide +kernel
theorem dX7_waiting_28 : decode cX7_waiting 28 = .ok (.goto (-24), 3) := by decide +kernel
theorem dX7_waiting_31 : decode cX7_waiting 31 = .ok (.iload_n 1, 1) := by decide +kernel
theorem dX7_waiting_32 : decode cX7_waiting 32 = .ok (.ireturn, 1) := by decide +kernel
theorem dX7_paceAt_0 : decode cX7_paceAt 0 = .ok (.aload_n 0, 1) := by decide +kernel
theorem dX7_paceAt_1 : decode cX7_paceAt 1 = .ok (.getfield 39, 3) := by decide +kernel
theorem dX7_paceAt_4 : decode cX7_paceAt 4 = .ok (.iload_n 1, 1) := by decide +kernel
theorem dX7_paceAt_5 : decode cX7_paceAt 5 = .ok (.iaload, 1) := by decide +kernel
theorem dX7_paceAt_6 : decode cX7_paceAt 6 = .ok (.aload_n 0, 1) := by decide +kernel
theorem dX7_paceAt_7 : decode cX7_paceAt 7 = .ok (.getfield 42, 3) := by decide +kernel
theorem dX7_paceAt_10 : decode cX7_paceAt 10 = .ok (.iload_n 1, 1) := by decide +kernel
theorem dX7_paceAt_11 : decode cX7_paceAt 11 = .ok (.iaload, 1) := by decide +kernel
theorem dX7_paceAt_12 : decode cX7_paceAt 12 = .ok (.imul, 1) := by decide +kernel
theorem dX7_paceAt_13 : decode cX7_paceAt 13 = .ok (.ireturn, 1) := by decide +kernel
theorem dX7_work_0 : decode cX7_work 0 = .ok (.iconst 0, 1) := by decide +kernel
theorem dX7_work_1 : decode cX7_work 1 = .ok (.istore_n 2, 1) := by decide +kernel
theorem dX7_work_2 : decode cX7_work 2 = .ok (.iload_n 2, 1) := by decide +kernel
theorem dX7_work_3 : decode cX7_work 3 = .ok (.iconst 4, 1) := by decide +kernel
theorem dX7_work_4 : decode cX7_work 4 = .ok (.if_icmp .ge 23, 3) := by decide +kernel
theorem dX7_work_7 : decode cX7_work 7 = .ok (.aload_n 0, 1) := by decide +kernel
theorem dX7_work_8 : decode cX7_work 8 = .ok (.getfield 45, 3) := by decide +kernel
theorem dX7_work_11 : decode cX7_work 11 = .ok (.iload_n 2, 1) := by decide +kernel
theorem dX7_work_12 : decode cX7_work 12 = .ok (.iconst 0, 1) := by decide +kernel
theorem dX7_work_13 : decode cX7_work 13 = .ok (.iastore, 1) := by decide +kernel
theorem dX7_work_14 : decode cX7_work 14 = .ok (.aload_n 0, 1) := by decide +kernel
theorem dX7_work_15 : decode cX7_work 15 = .ok (.getfield 48, 3) := by decide +kernel
theorem dX7_work_18 : decode cX7_work 18 = .ok (.iload_n 2, 1) := by decide +kernel
theorem dX7_work_19 : decode cX7_work 19 = .ok (.iconst 0, 1) := by decide +kernel
theorem dX7_work_20 : decode cX7_work 20 = .ok (.iastore, 1) := by decide +kernel
theorem dX7_work_21 : decode cX7_work 21 = .ok (.iinc 2 1, 3) := by decide +kernel
theorem dX7_work_24 : decode cX7_work 24 = .ok (.goto (-22), 3) := by decide +kernel
theorem dX7_work_27 : decode cX7_work 27 = .ok (.iconst 0, 1) := by decide +kernel
theorem dX7_work_28 : decode cX7_work 28 = .ok (.istore_n 2, 1) := by decide +kernel
theorem dX7_work_29 : decode cX7_work 29 = .ok (.iload_n 2, 1) := by decide +kernel
theorem dX7_work_30 : decode cX7_work 30 = .ok (.aload_n 0, 1) := by decide +kernel
theorem dX7_work_31 : decode cX7_work 31 = .ok (.getfield 51, 3) := by decide +kernel
theorem dX7_work_34 : decode cX7_work 34 = .ok (.if_icmp .ge 38, 3) := by decide +kernel
theorem dX7_work_37 : decode cX7_work 37 = .ok (.aload_n 0, 1) := by decide +kernel
theorem dX7_work_38 : decode cX7_work 38 = .ok (.getfield 27, 3) := by decide +kernel
theorem dX7_work_41 : decode cX7_work 41 = .ok (.iload_n 2, 1) := by decide +kernel
theorem dX7_work_42 : decode cX7_work 42 = .ok (.iaload, 1) := by decide +kernel
theorem dX7_work_43 : decode cX7_work 43 = .ok (.istore_n 3, 1) := by decide +kernel
theorem dX7_work_44 : decode cX7_work 44 = .ok (.aload_n 0, 1) := by decide +kernel
theorem dX7_work_45 : decode cX7_work 45 = .ok (.getfield 15, 3) := by decide +kernel
theorem dX7_work_48 : decode cX7_work 48 = .ok (.iload_n 3, 1) := by decide +kernel
theorem dX7_work_49 : decode cX7_work 49 = .ok (.iaload, 1) := by decide +kernel
theorem dX7_work_50 : decode cX7_work 50 = .ok (.iconst (-1), 1) := by decide +kernel
theorem dX7_work_51 : decode cX7_work 51 = .ok (.if_icmp .eq 15, 3) := by decide +kernel
theorem dX7_work_54 : decode cX7_work 54 = .ok (.aload_n 0, 1) := by decide +kernel
theorem dX7_work_55 : decode cX7_work 55 = .ok (.iload_n 3, 1) := by decide +kernel
theorem dX7_work_56 : decode cX7_work 56 = .ok (.aload_n 0, 1) := by decide +kernel
theorem dX7_work_57 : decode cX7_work 57 = .ok (.getfield 15, 3) := by decide +kernel
theorem dX7_work_60 : decode cX7_work 60 = .ok (.iload_n 3, 1) := by decide +kernel
theorem dX7_work_61 : decode cX7_work 61 = .ok (.iaload, 1) := by decide +kernel
theorem dX7_work_62 : decode cX7_work 62 = .ok (.iload_n 1, 1) := by decide +kernel
theorem dX7_work_63 : decode cX7_work 63 = .ok (.invokevirtual 55, 3) := by decide +kernel
theorem dX7_work_66 : decode cX7_work 66 = .ok (.iinc 2 1, 3) := by decide +kernel
theorem dX7_work_69 : decode cX7_work 69 = .ok (.goto (-40), 3) := by decide +kernel
theorem dX7_work_72 : decode cX7_work 72 = .ok (.return_, 1) := by decide +kernel
theorem dX7_workOne_0 : decode cX7_workOne 0 = .ok (.aload_n 0, 1) := by decide +kernel
theorem dX7_workOne_1 : decode cX7_workOne 1 = .ok (.getfield 30, 3) := by decide +kernel
theorem dX7_workOne_4 : decode cX7_workOne 4 = .ok (.iload_n 1, 1) := by decide +kernel
theorem dX7_workOne_5 : decode cX7_workOne 5 = .ok (.aload_n 0, 1) := by decide +kernel
theorem dX7_workOne_6 : decode cX7_workOne 6 = .ok (.iload_n 1, 1) := by decide +kernel
theorem dX7_workOne_7 : decode cX7_workOne 7 = .ok (.iload_n 2, 1) := by decide +kernel
theorem dX7_workOne_8 : decode cX7_workOne 8 = .ok (.aload_n 0, 1) := by decide +kernel
theorem dX7_workOne_9 : decode cX7_workOne 9 = .ok (.getfield 45, 3) := by decide +kernel
theorem dX7_workOne_12 : decode cX7_workOne 12 = .ok (.iload_n 2, 1) := by decide +kernel
theorem dX7_workOne_13 : decode cX7_workOne 13 = .ok (.iaload, 1) := by decide +kernel
theorem dX7_workOne_14 : decode cX7_workOne 14 = .ok (.invokevirtual 59, 3) := by decide +kernel
theorem dX7_workOne_17 : decode cX7_workOne 17 = .ok (.iastore, 1) := by decide +kernel
theorem dX7_workOne_18 : decode cX7_workOne 18 = .ok (.aload_n 0, 1) := by decide +kernel
theorem dX7_workOne_19 : decode cX7_workOne 19 = .ok (.getfield 33, 3) := by decide +kernel
theorem dX7_workOne_22 : decode cX7_workOne 22 = .ok (.iload_n 1, 1) := by decide +kernel
theorem dX7_workOne_23 : decode cX7_workOne 23 = .ok (.aload_n 0, 1) := by decide +kernel
theorem dX7_workOne_24 : decode cX7_workOne 24 = .ok (.aload_n 0, 1) := by decide +kernel
theorem dX7_workOne_25 : decode cX7_workOne 25 = .ok (.getfield 30, 3) := by decide +kernel
theorem dX7_workOne_28 : decode cX7_workOne 28 = .ok (.iload_n 1, 1) := by decide +kernel
theorem dX7_workOne_29 : decode cX7_workOne 29 = .ok (.iaload, 1) := by decide +kernel
theorem dX7_workOne_30 : decode cX7_workOne 30 = .ok (.iload_n 1, 1) := by decide +kernel
theorem dX7_workOne_31 : decode cX7_workOne 31 = .ok (.iload_n 2, 1) := by decide +kernel
theorem dX7_workOne_32 : decode cX7_workOne 32 = .ok (.iload_n 3, 1) := by decide +kernel
theorem dX7_workOne_33 : decode cX7_workOne 33 = .ok (.invokevirtual 63, 3) := by decide +kernel
theorem dX7_workOne_36 : decode cX7_workOne 36 = .ok (.iastore, 1) := by decide +kernel
theorem dX7_workOne_37 : decode cX7_workOne 37 = .ok (.aload_n 0, 1) := by decide +kernel
theorem dX7_workOne_38 : decode cX7_workOne 38 = .ok (.getfield 36, 3) := by decide +kernel
theorem dX7_workOne_41 : decode cX7_workOne 41 = .ok (.iload_n 1, 1) := by decide +kernel
theorem dX7_workOne_42 : decode cX7_workOne 42 = .ok (.aload_n 0, 1) := by decide +kernel
theorem dX7_workOne_43 : decode cX7_workOne 43 = .ok (.getfield 48, 3) := by decide +kernel
theorem dX7_workOne_46 : decode cX7_workOne 46 = .ok (.iload_n 2, 1) := by decide +kernel
theorem dX7_workOne_47 : decode cX7_workOne 47 = .ok (.iaload, 1) := by decide +kernel
theorem dX7_workOne_48 : decode cX7_workOne 48 = .ok (.iastore, 1) := by decide +kernel
theorem dX7_workOne_49 : decode cX7_workOne 49 = .ok (.aload_n 0, 1) := by decide +kernel
theorem dX7_workOne_50 : decode cX7_workOne 50 = .ok (.getfield 45, 3) := by decide +kernel
theorem dX7_workOne_53 : decode cX7_workOne 53 = .ok (.iload_n 2, 1) := by decide +kernel
theorem dX7_workOne_54 : decode cX7_workOne 54 = .ok (.aload_n 0, 1) := by decide +kernel
theorem dX7_workOne_55 : decode cX7_workOne 55 = .ok (.getfield 30, 3) := by decide +kernel
theorem dX7_workOne_58 : decode cX7_workOne 58 = .ok (.iload_n 1, 1) := by decide +kernel
theorem dX7_workOne_59 : decode cX7_workOne 59 = .ok (.iaload, 1) := by decide +kernel
theorem dX7_workOne_60 : decode cX7_workOne 60 = .ok (.aload_n 0, 1) := by decide +kernel
theorem dX7_workOne_61 : decode cX7_workOne 61 = .ok (.getfield 33, 3) := by decide +kernel
theorem dX7_workOne_64 : decode cX7_workOne 64 = .ok (.iload_n 1, 1) := by decide +kernel
theorem dX7_workOne_65 : decode cX7_workOne 65 = .ok (.iaload, 1) := by decide +kernel
theorem dX7_workOne_66 : decode cX7_workOne 66 = .ok (.iadd, 1) := by decide +kernel
theorem dX7_workOne_67 : decode cX7_workOne 67 = .ok (.iastore, 1) := by decide +kernel
theorem dX7_workOne_68 : decode cX7_workOne 68 = .ok (.aload_n 0, 1) := by decide +kernel
theorem dX7_workOne_69 : decode cX7_workOne 69 = .ok (.getfield 48, 3) := by decide +kernel
theorem dX7_workOne_72 : decode cX7_workOne 72 = .ok (.iload_n 2, 1) := by decide +kernel
theorem dX7_workOne_73 : decode cX7_workOne 73 = .ok (.dup2, 1) := by decide +kernel
theorem dX7_workOne_74 : decode cX7_workOne 74 = .ok (.iaload, 1) := by decide +kernel
theorem dX7_workOne_75 : decode cX7_workOne 75 = .ok (.aload_n 0, 1) := by decide +kernel
theorem dX7_workOne_76 : decode cX7_workOne 76 = .ok (.getfield 33, 3) := by decide +kernel
theorem dX7_workOne_79 : decode cX7_workOne 79 = .ok (.iload_n 1, 1) := by decide +kernel
theorem dX7_workOne_80 : decode cX7_workOne 80 = .ok (.iaload, 1) := by decide +kernel
theorem dX7_workOne_81 : decode cX7_workOne 81 = .ok (.iadd, 1) := by decide +kernel
theorem dX7_workOne_82 : decode cX7_workOne 82 = .ok (.iastore, 1) := by decide +kernel
theorem dX7_workOne_83 : decode cX7_workOne 83 = .ok (.return_, 1) := by decide +kernel
theorem dX7_startOf_0 : decode cX7_startOf 0 = .ok (.iload_n 3, 1) := by decide +kernel
theorem dX7_startOf_1 : decode cX7_startOf 1 = .ok (.aload_n 0, 1) := by decide +kernel
theorem dX7_startOf_2 : decode cX7_startOf 2 = .ok (.getfield 18, 3) := by decide +kernel
theorem dX7_startOf_5 : decode cX7_startOf 5 = .ok (.iload_n 1, 1) := by decide +kernel
theorem dX7_startOf_6 : decode cX7_startOf 6 = .ok (.iaload, 1) := by decide +kernel
theorem dX7_startOf_7 : decode cX7_startOf 7 = .ok (.aload_n 0, 1) := by decide +kernel
theorem dX7_startOf_8 : decode cX7_startOf 8 = .ok (.iload_n 2, 1) := by decide +kernel
theorem dX7_startOf_9 : decode cX7_startOf 9 = .ok (.invokevirtual 67, 3) := by decide +kernel
theorem dX7_startOf_12 : decode cX7_startOf 12 = .ok (.imul, 1) := by decide +kernel
theorem dX7_startOf_13 : decode cX7_startOf 13 = .ok (.invokestatic 71, 3) := by decide +kernel
theorem dX7_startOf_16 : decode cX7_startOf 16 = .ok (.ireturn, 1) := by decide +kernel
theorem dX7_workedFrom_0 : decode cX7_workedFrom 0 = .ok (.aload_n 0, 1) := by decide +kernel
theorem dX7_workedFrom_1 : decode cX7_workedFrom 1 = .ok (.getfield 18, 3) := by decide +kernel
theorem dX7_workedFrom_4 : decode cX7_workedFrom 4 = .ok (.iload_n 2, 1) := by decide +kernel
theorem dX7_workedFrom_5 : decode cX7_workedFrom 5 = .ok (.iaload, 1) := by decide +kernel
theorem dX7_workedFrom_6 : decode cX7_workedFrom 6 = .ok (.iload 4, 2) := by decide +kernel
theorem dX7_workedFrom_8 : decode cX7_workedFrom 8 = .ok (.iadd, 1) := by decide +kernel
theorem dX7_workedFrom_9 : decode cX7_workedFrom 9 = .ok (.aload_n 0, 1) := by decide +kernel
theorem dX7_workedFrom_10 : decode cX7_workedFrom 10 = .ok (.iload_n 3, 1) := by decide +kernel
theorem dX7_workedFrom_11 : decode cX7_workedFrom 11 = .ok (.invokevirtual 67, 3) := by decide +kernel
theorem dX7_workedFrom_14 : decode cX7_workedFrom 14 = .ok (.imul, 1) := by decide +kernel
theorem dX7_workedFrom_15 : decode cX7_workedFrom 15 = .ok (.iload_n 1, 1) := by decide +kernel
theorem dX7_workedFrom_16 : decode cX7_workedFrom 16 = .ok (.isub, 1) := by decide +kernel
theorem dX7_workedFrom_17 : decode cX7_workedFrom 17 = .ok (.istore 5, 2) := by decide +kernel
theorem dX7_workedFrom_19 : decode cX7_workedFrom 19 = .ok (.iconst 0, 1) := by decide +kernel
theorem dX7_workedFrom_20 : decode cX7_workedFrom 20 = .ok (.aload_n 0, 1) := by decide +kernel
theorem dX7_workedFrom_21 : decode cX7_workedFrom 21 = .ok (.getfield 21, 3) := by decide +kernel
theorem dX7_workedFrom_24 : decode cX7_workedFrom 24 = .ok (.iload_n 2, 1) := by decide +kernel
theorem dX7_workedFrom_25 : decode cX7_workedFrom 25 = .ok (.iaload, 1) := by decide +kernel
theorem dX7_workedFrom_26 : decode cX7_workedFrom 26 = .ok (.iload 5, 2) := by decide +kernel
theorem dX7_workedFrom_28 : decode cX7_workedFrom 28 = .ok (.invokestatic 77, 3) := by decide +kernel
theorem dX7_workedFrom_31 : decode cX7_workedFrom 31 = .ok (.invokestatic 71, 3) := by decide +kernel
theorem dX7_workedFrom_34 : decode cX7_workedFrom 34 = .ok (.ireturn, 1) := by decide +kernel
theorem dX7_spoiltOf_0 : decode cX7_spoiltOf 0 = .ok (.aload_n 0, 1) := by decide +kernel
theorem dX7_spoiltOf_1 : decode cX7_spoiltOf 1 = .ok (.getfield 15, 3) := by decide +kernel
theorem dX7_spoiltOf_4 : decode cX7_spoiltOf 4 = .ok (.iload_n 1, 1) := by decide +kernel
theorem dX7_spoiltOf_5 : decode cX7_spoiltOf 5 = .ok (.iaload, 1) := by decide +kernel
theorem dX7_spoiltOf_6 : decode cX7_spoiltOf 6 = .ok (.iconst (-1), 1) := by decide +kernel
theorem dX7_spoiltOf_7 : decode cX7_spoiltOf 7 = .ok (.if_icmp .ne 7, 3) := by decide +kernel
theorem dX7_spoiltOf_10 : decode cX7_spoiltOf 10 = .ok (.iconst 0, 1) := by decide +kernel
theorem dX7_spoiltOf_11 : decode cX7_spoiltOf 11 = .ok (.goto 16, 3) := by decide +kernel
theorem dX7_spoiltOf_14 : decode cX7_spoiltOf 14 = .ok (.aload_n 0, 1) := by decide +kernel
theorem dX7_spoiltOf_15 : decode cX7_spoiltOf 15 = .ok (.getfield 21, 3) := by decide +kernel
theorem dX7_spoiltOf_18 : decode cX7_spoiltOf 18 = .ok (.iload_n 1, 1) := by decide +kernel
theorem dX7_spoiltOf_19 : decode cX7_spoiltOf 19 = .ok (.iaload, 1) := by decide +kernel
theorem dX7_spoiltOf_20 : decode cX7_spoiltOf 20 = .ok (.aload_n 0, 1) := by decide +kernel
theorem dX7_spoiltOf_21 : decode cX7_spoiltOf 21 = .ok (.getfield 33, 3) := by decide +kernel
theorem dX7_spoiltOf_24 : decode cX7_spoiltOf 24 = .ok (.iload_n 1, 1) := by decide +kernel
theorem dX7_spoiltOf_25 : decode cX7_spoiltOf 25 = .ok (.iaload, 1) := by decide +kernel
theorem dX7_spoiltOf_26 : decode cX7_spoiltOf 26 = .ok (.isub, 1) := by decide +kernel
theorem dX7_spoiltOf_27 : decode cX7_spoiltOf 27 = .ok (.ireturn, 1) := by decide +kernel
theorem dX7_lastHourOf_0 : decode cX7_lastHourOf 0 = .ok (.aload_n 0, 1) := by decide +kernel
theorem dX7_lastHourOf_1 : decode cX7_lastHourOf 1 = .ok (.getfield 15, 3) := by decide +kernel
theorem dX7_lastHourOf_4 : decode cX7_lastHourOf 4 = .ok (.iload_n 1, 1) := by decide +kernel
theorem dX7_lastHourOf_5 : decode cX7_lastHourOf 5 = .ok (.iaload, 1) := by decide +kernel
theorem dX7_lastHourOf_6 : decode cX7_lastHourOf 6 = .ok (.iconst (-1), 1) := by decide +kernel
theorem dX7_lastHourOf_7 : decode cX7_lastHourOf 7 = .ok (.if_icmp .eq 12, 3) := by decide +kernel
theorem dX7_lastHourOf_10 : decode cX7_lastHourOf 10 = .ok (.aload_n 0, 1) := by decide +kernel
theorem dX7_lastHourOf_11 : decode cX7_lastHourOf 11 = .ok (.getfield 33, 3) := by decide +kernel
theorem dX7_lastHourOf_14 : decode cX7_lastHourOf 14 = .ok (.iload_n 1, 1) := by decide +kernel
theorem dX7_lastHourOf_15 : decode cX7_lastHourOf 15 = .ok (.iaload, 1) := by decide +kernel
theorem dX7_lastHourOf_16 : decode cX7_lastHourOf 16 = .ok (.ifCond .ne 6, 3) := by decide +kernel
theorem dX7_lastHourOf_19 : decode cX7_lastHourOf 19 = .ok (.bipush (-6), 2) := by decide +kernel
theorem dX7_lastHourOf_21 : decode cX7_lastHourOf 21 = .ok (.ireturn, 1) := by decide +kernel
theorem dX7_lastHourOf_22 : decode cX7_lastHourOf 22 = .ok (.aload_n 0, 1) := by decide +kernel
theorem dX7_lastHourOf_23 : decode cX7_lastHourOf 23 = .ok (.getfield 30, 3) := by decide +kernel
theorem dX7_lastHourOf_26 : decode cX7_lastHourOf 26 = .ok (.iload_n 1, 1) := by decide +kernel
theorem dX7_lastHourOf_27 : decode cX7_lastHourOf 27 = .ok (.iaload, 1) := by decide +kernel
theorem dX7_lastHourOf_28 : decode cX7_lastHourOf 28 = .ok (.aload_n 0, 1) := by decide +kernel
theorem dX7_lastHourOf_29 : decode cX7_lastHourOf 29 = .ok (.getfield 33, 3) := by decide +kernel
theorem dX7_lastHourOf_32 : decode cX7_lastHourOf 32 = .ok (.iload_n 1, 1) := by decide +kernel
theorem dX7_lastHourOf_33 : decode cX7_lastHourOf 33 = .ok (.iaload, 1) := by decide +kernel
theorem dX7_lastHourOf_34 : decode cX7_lastHourOf 34 = .ok (.iadd, 1) := by decide +kernel
theorem dX7_lastHourOf_35 : decode cX7_lastHourOf 35 = .ok (.iconst 1, 1) := by decide +kernel
theorem dX7_lastHourOf_36 : decode cX7_lastHourOf 36 = .ok (.isub, 1) := by decide +kernel
theorem dX7_lastHourOf_37 : decode cX7_lastHourOf 37 = .ok (.aload_n 0, 1) := by decide +kernel
theorem dX7_lastHourOf_38 : decode cX7_lastHourOf 38 = .ok (.aload_n 0, 1) := by decide +kernel
theorem dX7_lastHourOf_39 : decode cX7_lastHourOf 39 = .ok (.getfield 15, 3) := by decide +kernel
theorem dX7_lastHourOf_42 : decode cX7_lastHourOf 42 = .ok (.iload_n 1, 1) := by decide +kernel
theorem dX7_lastHourOf_43 : decode cX7_lastHourOf 43 = .ok (.iaload, 1) := by decide +kernel
theorem dX7_lastHourOf_44 : decode cX7_lastHourOf 44 = .ok (.invokevirtual 67, 3) := by decide +kernel
theorem dX7_lastHourOf_47 : decode cX7_lastHourOf 47 = .ok (.idiv, 1) := by decide +kernel
theorem dX7_lastHourOf_48 : decode cX7_lastHourOf 48 = .ok (.ireturn, 1) := by decide +kernel
theorem dX7_spoiltAt_0 : decode cX7_spoiltAt 0 = .ok (.iconst 0, 1) := by decide +kernel
theorem dX7_spoiltAt_1 : decode cX7_spoiltAt 1 = .ok (.istore_n 2, 1) := by decide +kernel
theorem dX7_spoiltAt_2 : decode cX7_spoiltAt 2 = .ok (.iconst 0, 1) := by decide +kernel
theorem dX7_spoiltAt_3 : decode cX7_spoiltAt 3 = .ok (.istore_n 3, 1) := by decide +kernel
theorem dX7_spoiltAt_4 : decode cX7_spoiltAt 4 = .ok (.iload_n 3, 1) := by decide +kernel
theorem dX7_spoiltAt_5 : decode cX7_spoiltAt 5 = .ok (.aload_n 0, 1) := by decide +kernel
theorem dX7_spoiltAt_6 : decode cX7_spoiltAt 6 = .ok (.getfield 51, 3) := by decide +kernel
theorem dX7_spoiltAt_9 : decode cX7_spoiltAt 9 = .ok (.if_icmp .ge 27, 3) := by decide +kernel
theorem dX7_spoiltAt_12 : decode cX7_spoiltAt 12 = .ok (.aload_n 0, 1) := by decide +kernel
theorem dX7_spoiltAt_13 : decode cX7_spoiltAt 13 = .ok (.getfield 15, 3) := by decide +kernel
theorem dX7_spoiltAt_16 : decode cX7_spoiltAt 16 = .ok (.iload_n 3, 1) := by decide +kernel
theorem dX7_spoiltAt_17 : decode cX7_spoiltAt 17 = .ok (.iaload, 1) := by decide +kernel
theorem dX7_spoiltAt_18 : decode cX7_spoiltAt 18 = .ok (.iload_n 1, 1) := by decide +kernel
theorem dX7_spoiltAt_19 : decode cX7_spoiltAt 19 = .ok (.if_icmp .ne 11, 3) := by decide +kernel
theorem dX7_spoiltAt_22 : decode cX7_spoiltAt 22 = .ok (.iload_n 2, 1) := by decide +kernel
theorem dX7_spoiltAt_23 : decode cX7_spoiltAt 23 = .ok (.aload_n 0, 1) := by decide +kernel
theorem dX7_spoiltAt_24 : decode cX7_spoiltAt 24 = .ok (.iload_n 3, 1) := by decide +kernel
theorem dX7_spoiltAt_25 : decode cX7_spoiltAt 25 = .ok (.invokevirtual 80, 3) := by decide +kernel
theorem dX7_spoiltAt_28 : decode cX7_spoiltAt 28 = .ok (.iadd, 1) := by decide +kernel
theorem dX7_spoiltAt_29 : decode cX7_spoiltAt 29 = .ok (.istore_n 2, 1) := by decide +kernel
theorem dX7_spoiltAt_30 : decode cX7_spoiltAt 30 = .ok (.iinc 3 1, 3) := by decide +kernel
theorem dX7_spoiltAt_33 : decode cX7_spoiltAt 33 = .ok (.goto (-29), 3) := by decide +kernel
theorem dX7_spoiltAt_36 : decode cX7_spoiltAt 36 = .ok (.iload_n 2, 1) := by decide +kernel
theorem dX7_spoiltAt_37 : decode cX7_spoiltAt 37 = .ok (.ireturn, 1) := by decide +kernel
theorem dX7_spoiltWith_0 : decode cX7_spoiltWith 0 = .ok (.iconst 0, 1) := by decide +kernel
theorem dX7_spoiltWith_1 : decode cX7_spoiltWith 1 = .ok (.istore 5, 2) := by decide +kernel
theorem dX7_spoiltWith_3 : decode cX7_spoiltWith 3 = .ok (.iconst 0, 1) := by decide +kernel
theorem dX7_spoiltWith_4 : decode cX7_spoiltWith 4 = .ok (.istore 6, 2) := by decide +kernel
theorem dX7_spoiltWith_6 : decode cX7_spoiltWith 6 = .ok (.iconst 0, 1) := by decide +kernel
theorem dX7_spoiltWith_7 : decode cX7_spoiltWith 7 = .ok (.istore 7, 2) := by decide +kernel
theorem dX7_spoiltWith_9 : decode cX7_spoiltWith 9 = .ok (.iload 7, 2) := by decide +kernel
theorem dX7_spoiltWith_11 : decode cX7_spoiltWith 11 = .ok (.aload_n 0, 1) := by decide +kernel
theorem dX7_spoiltWith_12 : decode cX7_spoiltWith 12 = .ok (.getfield 51, 3) := by decide +kernel
theorem dX7_spoiltWith_15 : decode cX7_spoiltWith 15 = .ok (.if_icmp .ge 110, 3) := by decide +kernel
theorem dX7_spoiltWith_18 : decode cX7_spoiltWith 18 = .ok (.aload_n 0, 1) := by decide +kernel
theorem dX7_spoiltWith_19 : decode cX7_spoiltWith 19 = .ok (.getfield 27, 3) := by decide +kernel
theorem dX7_spoiltWith_22 : decode cX7_spoiltWith 22 = .ok (.iload 7, 2) := by decide +kernel
theorem dX7_spoiltWith_24 : decode cX7_spoiltWith 24 = .ok (.iaload, 1) := by decide +kernel
theorem dX7_spoiltWith_25 : decode cX7_spoiltWith 25 = .ok (.istore 8, 2) := by decide +kernel
theorem dX7_spoiltWith_27 : decode cX7_spoiltWith 27 = .ok (.aload_n 0, 1) := by decide +kernel
theorem dX7_spoiltWith_28 : decode cX7_spoiltWith 28 = .ok (.getfield 15, 3) := by decide +kernel
theorem dX7_spoiltWith_31 : decode cX7_spoiltWith 31 = .ok (.iload 8, 2) := by decide +kernel
theorem dX7_spoiltWith_33 : decode cX7_spoiltWith 33 = .ok (.iaload, 1) := by decide +kernel
theorem dX7_spoiltWith_34 : decode cX7_spoiltWith 34 = .ok (.iconst (-1), 1) := by decide +kernel
theorem dX7_spoiltWith_35 : decode cX7_spoiltWith 35 = .ok (.if_icmp .ne 19, 3) := by decide +kernel
theorem dX7_spoiltWith_38 : decode cX7_spoiltWith 38 = .ok (.iload_n 2, 1) := by decide +kernel
theorem dX7_spoiltWith_39 : decode cX7_spoiltWith 39 = .ok (.aload_n 3, 1) := by decide +kernel
theorem dX7_spoiltWith_40 : decode cX7_spoiltWith 40 = .ok (.iload 8, 2) := by decide +kernel
theorem dX7_spoiltWith_42 : decode cX7_spoiltWith 42 = .ok (.iaload, 1) := by decide +kernel
theorem dX7_spoiltWith_43 : decode cX7_spoiltWith 43 = .ok (.ishr, 1) := by decide +kernel
theorem dX7_spoiltWith_44 : decode cX7_spoiltWith 44 = .ok (.iconst 1, 1) := by decide +kernel
theorem dX7_spoiltWith_45 : decode cX7_spoiltWith 45 = .ok (.iand, 1) := by decide +kernel
theorem dX7_spoiltWith_46 : decode cX7_spoiltWith 46 = .ok (.iconst 1, 1) := by decide +kernel
theorem dX7_spoiltWith_47 : decode cX7_spoiltWith 47 = .ok (.if_icmp .ne 7, 3) := by decide +kernel
theorem dX7_spoiltWith_50 : decode cX7_spoiltWith 50 = .ok (.iconst 1, 1) := by decide +kernel
theorem dX7_spoiltWith_51 : decode cX7_spoiltWith 51 = .ok (.goto 4, 3) := by decide +kernel
theorem dX7_spoiltWith_54 : decode cX7_spoiltWith 54 = .ok (.iconst 0, 1) := by decide +kernel
theorem dX7_spoiltWith_55 : decode cX7_spoiltWith 55 = .ok (.istore 9, 2) := by decide +kernel
theorem dX7_spoiltWith_57 : decode cX7_spoiltWith 57 = .ok (.iload 9, 2) := by decide +kernel
theorem dX7_spoiltWith_59 : decode cX7_spoiltWith 59 = .ok (.ifCond .ne 14, 3) := by decide +kernel
theorem dX7_spoiltWith_62 : decode cX7_spoiltWith 62 = .ok (.aload_n 0, 1) := by decide +kernel
theorem dX7_spoiltWith_63 : decode cX7_spoiltWith 63 = .ok (.getfield 15, 3) := by decide +kernel
theorem dX7_spoiltWith_66 : decode cX7_spoiltWith 66 = .ok (.iload 8, 2) := by decide +kernel
theorem dX7_spoiltWith_68 : decode cX7_spoiltWith 68 = .ok (.iaload, 1) := by decide +kernel
theorem dX7_spoiltWith_69 : decode cX7_spoiltWith 69 = .ok (.iload_n 1, 1) := by decide +kernel
theorem dX7_spoiltWith_70 : decode cX7_spoiltWith 70 = .ok (.if_icmp .ne 49, 3) := by decide +kernel
theorem dX7_spoiltWith_73 : decode cX7_spoiltWith 73 = .ok (.aload_n 0, 1) := by decide +kernel
theorem dX7_spoiltWith_74 : decode cX7_spoiltWith 74 = .ok (.iload 8, 2) := by decide +kernel
theorem dX7_spoiltWith_76 : decode cX7_spoiltWith 76 = .ok (.iload_n 1, 1) := by decide +kernel
theorem dX7_spoiltWith_77 : decode cX7_spoiltWith 77 = .ok (.iload 5, 2) := by decide +kernel
theorem dX7_spoiltWith_79 : decode cX7_spoiltWith 79 = .ok (.invokevirtual 59, 3) := by decide +kernel
theorem dX7_spoiltWith_82 : decode cX7_spoiltWith 82 = .ok (.istore 10, 2) := by decide +kernel
theorem dX7_spoiltWith_84 : decode cX7_spoiltWith 84 = .ok (.aload_n 0, 1) := by decide +kernel
theorem dX7_spoiltWith_85 : decode cX7_spoiltWith 85 = .ok (.iload 10, 2) := by decide +kernel
theorem dX7_spoiltWith_87 : decode cX7_spoiltWith 87 = .ok (.iload 8, 2) := by decide +kernel
theorem dX7_spoiltWith_89 : decode cX7_spoiltWith 89 = .ok (.iload_n 1, 1) := by decide +kernel
theorem dX7_spoiltWith_90 : decode cX7_spoiltWith 90 = .ok (.iload 4, 2) := by decide +kernel
theorem dX7_spoiltWith_92 : decode cX7_spoiltWith 92 = .ok (.invokevirtual 63, 3) := by decide +kernel
theorem dX7_spoiltWith_95 : decode cX7_spoiltWith 95 = .ok (.istore 11, 2) := by decide +kernel
theorem dX7_spoiltWith_97 : decode cX7_spoiltWith 97 = .ok (.iload 10, 2) := by decide +kernel
theorem dX7_spoiltWith_99 : decode cX7_spoiltWith 99 = .ok (.iload 11, 2) := by decide +kernel
theorem dX7_spoiltWith_101 : decode cX7_spoiltWith 101 = .ok (.iadd, 1) := by decide +kernel
theorem dX7_spoiltWith_102 : decode cX7_spoiltWith 102 = .ok (.istore 5, 2) := by decide +kernel
theorem dX7_spoiltWith_104 : decode cX7_spoiltWith 104 = .ok (.iload 6, 2) := by decide +kernel
theorem dX7_spoiltWith_106 : decode cX7_spoiltWith 106 = .ok (.aload_n 0, 1) := by decide +kernel
theorem dX7_spoiltWith_107 : decode cX7_spoiltWith 107 = .ok (.getfield 21, 3) := by decide +kernel
theorem dX7_spoiltWith_110 : decode cX7_spoiltWith 110 = .ok (.iload 8, 2) := by decide +kernel
theorem dX7_spoiltWith_112 : decode cX7_spoiltWith 112 = .ok (.iaload, 1) := by decide +kernel
theorem dX7_spoiltWith_113 : decode cX7_spoiltWith 113 = .ok (.iload 11, 2) := by decide +kernel
theorem dX7_spoiltWith_115 : decode cX7_spoiltWith 115 = .ok (.isub, 1) := by decide +kernel
theorem dX7_spoiltWith_116 : decode cX7_spoiltWith 116 = .ok (.iadd, 1) := by decide +kernel
theorem dX7_spoiltWith_117 : decode cX7_spoiltWith 117 = .ok (.istore 6, 2) := by decide +kernel
theorem dX7_spoiltWith_119 : decode cX7_spoiltWith 119 = .ok (.iinc 7 1, 3) := by decide +kernel
theorem dX7_spoiltWith_122 : decode cX7_spoiltWith 122 = .ok (.goto (-113), 3) := by decide +kernel
theorem dX7_spoiltWith_125 : decode cX7_spoiltWith 125 = .ok (.iload 6, 2) := by decide +kernel
theorem dX7_spoiltWith_127 : decode cX7_spoiltWith 127 = .ok (.ireturn, 1) := by decide +kernel
theorem dX7_fishOf_0 : decode cX7_fishOf 0 = .ok (.iconst 0, 1) := by decide +kernel
theorem dX7_fishOf_1 : decode cX7_fishOf 1 = .ok (.istore_n 3, 1) := by decide +kernel
theorem dX7_fishOf_2 : decode cX7_fishOf 2 = .ok (.iconst 0, 1) := by decide +kernel
theorem dX7_fishOf_3 : decode cX7_fishOf 3 = .ok (.istore 4, 2) := by decide +kernel
theorem dX7_fishOf_5 : decode cX7_fishOf 5 = .ok (.iload 4, 2) := by decide +kernel
theorem dX7_fishOf_7 : decode cX7_fishOf 7 = .ok (.aload_n 0, 1) := by decide +kernel
theorem dX7_fishOf_8 : decode cX7_fishOf 8 = .ok (.getfield 51, 3) := by decide +kernel
theorem dX7_fishOf_11 : decode cX7_fishOf 11 = .ok (.if_icmp .ge 41, 3) := by decide +kernel
theorem dX7_fishOf_14 : decode cX7_fishOf 14 = .ok (.aload_n 0, 1) := by decide +kernel
theorem dX7_fishOf_15 : decode cX7_fishOf 15 = .ok (.getfield 9, 3) := by decide +kernel
theorem dX7_fishOf_18 : decode cX7_fishOf 18 = .ok (.iload 4, 2) := by decide +kernel
theorem dX7_fishOf_20 : decode cX7_fishOf 20 = .ok (.iaload, 1) := by decide +kernel
theorem dX7_fishOf_21 : decode cX7_fishOf 21 = .ok (.iload_n 1, 1) := by decide +kernel
theorem dX7_fishOf_22 : decode cX7_fishOf 22 = .ok (.if_icmp .ne 24, 3) := by decide +kernel
theorem dX7_fishOf_25 : decode cX7_fishOf 25 = .ok (.aload_n 0, 1) := by decide +kernel
theorem dX7_fishOf_26 : decode cX7_fishOf 26 = .ok (.getfield 15, 3) := by decide +kernel
theorem dX7_fishOf_29 : decode cX7_fishOf 29 = .ok (.iload 4, 2) := by decide +kernel
theorem dX7_fishOf_31 : decode cX7_fishOf 31 = .ok (.iaload, 1) := by decide +kernel
theorem dX7_fishOf_32 : decode cX7_fishOf 32 = .ok (.iload_n 2, 1) := by decide +kernel
theorem dX7_fishOf_33 : decode cX7_fishOf 33 = .ok (.if_icmp .ne 13, 3) := by decide +kernel
theorem dX7_fishOf_36 : decode cX7_fishOf 36 = .ok (.iload_n 3, 1) := by decide +kernel
theorem dX7_fishOf_37 : decode cX7_fishOf 37 = .ok (.aload_n 0, 1) := by decide +kernel
theorem dX7_fishOf_38 : decode cX7_fishOf 38 = .ok (.getfield 21, 3) := by decide +kernel
theorem dX7_fishOf_41 : decode cX7_fishOf 41 = .ok (.iload 4, 2) := by decide +kernel
theorem dX7_fishOf_43 : decode cX7_fishOf 43 = .ok (.iaload, 1) := by decide +kernel
theorem dX7_fishOf_44 : decode cX7_fishOf 44 = .ok (.iadd, 1) := by decide +kernel
theorem dX7_fishOf_45 : decode cX7_fishOf 45 = .ok (.istore_n 3, 1) := by decide +kernel
theorem dX7_fishOf_46 : decode cX7_fishOf 46 = .ok (.iinc 4 1, 3) := by decide +kernel
theorem dX7_fishOf_49 : decode cX7_fishOf 49 = .ok (.goto (-44), 3) := by decide +kernel
theorem dX7_fishOf_52 : decode cX7_fishOf 52 = .ok (.iload_n 3, 1) := by decide +kernel
theorem dX7_fishOf_53 : decode cX7_fishOf 53 = .ok (.ireturn, 1) := by decide +kernel
theorem dX7_measure_0 : decode cX7_measure 0 = .ok (.iload_n 2, 1) := by decide +kernel
theorem dX7_measure_1 : decode cX7_measure 1 = .ok (.iload_n 3, 1) := by decide +kernel
theorem dX7_measure_2 : decode cX7_measure 2 = .ok (.imul, 1) := by decide +kernel
theorem dX7_measure_3 : decode cX7_measure 3 = .ok (.istore 4, 2) := by decide +kernel
theorem dX7_measure_5 : decode cX7_measure 5 = .ok (.iload 4, 2) := by decide +kernel
theorem dX7_measure_7 : decode cX7_measure 7 = .ok (.iload_n 3, 1) := by decide +kernel
theorem dX7_measure_8 : decode cX7_measure 8 = .ok (.iadd, 1) := by decide +kernel
theorem dX7_measure_9 : decode cX7_measure 9 = .ok (.istore 5, 2) := by decide +kernel
theorem dX7_measure_11 : decode cX7_measure 11 = .ok (.aload_n 0, 1) := by decide +kernel
theorem dX7_measure_12 : decode cX7_measure 12 = .ok (.aload_n 1, 1) := by decide +kernel
theorem dX7_measure_13 : decode cX7_measure 13 = .ok (.getfield 83, 3) := by decide +kernel
theorem dX7_measure_16 : decode cX7_measure 16 = .ok (.invokevirtual 67, 3) := by decide +kernel
theorem dX7_measure_19 : decode cX7_measure 19 = .ok (.istore 6, 2) := by decide +kernel
theorem dX7_measure_21 : decode cX7_measure 21 = .ok (.aload_n 1, 1) := by decide +kernel
theorem dX7_measure_22 : decode cX7_measure 22 = .ok (.invokevirtual 88, 3) := by decide +kernel
theorem dX7_measure_25 : decode cX7_measure 25 = .ok (.aload_n 1, 1) := by decide +kernel
theorem dX7_measure_26 : decode cX7_measure 26 = .ok (.getfield 91, 3) := by decide +kernel
theorem dX7_measure_29 : decode cX7_measure 29 = .ok (.istore 7, 2) := by decide +kernel
theorem dX7_measure_31 : decode cX7_measure 31 = .ok (.iload 7, 2) := by decide +kernel
theorem dX7_measure_33 : decode cX7_measure 33 = .ok (.aload_n 0, 1) := by decide +kernel
theorem dX7_measure_34 : decode cX7_measure 34 = .ok (.getfield 51, 3) := by decide +kernel
theorem dX7_measure_37 : decode cX7_measure 37 = .ok (.if_icmp .ge 140, 3) := by decide +kernel
theorem dX7_measure_40 : decode cX7_measure 40 = .ok (.aload_n 0, 1) := by decide +kernel
theorem dX7_measure_41 : decode cX7_measure 41 = .ok (.getfield 27, 3) := by decide +kernel
theorem dX7_measure_44 : decode cX7_measure 44 = .ok (.iload 7, 2) := by decide +kernel
theorem dX7_measure_46 : decode cX7_measure 46 = .ok (.iaload, 1) := by decide +kernel
theorem dX7_measure_47 : decode cX7_measure 47 = .ok (.istore 8, 2) := by decide +kernel
theorem dX7_measure_49 : decode cX7_measure 49 = .ok (.aload_n 0, 1) := by decide +kernel
theorem dX7_measure_50 : decode cX7_measure 50 = .ok (.getfield 15, 3) := by decide +kernel
theorem dX7_measure_53 : decode cX7_measure 53 = .ok (.iload 8, 2) := by decide +kernel
theorem dX7_measure_55 : decode cX7_measure 55 = .ok (.iaload, 1) := by decide +kernel
theorem dX7_measure_56 : decode cX7_measure 56 = .ok (.aload_n 1, 1) := by decide +kernel
theorem dX7_measure_57 : decode cX7_measure 57 = .ok (.getfield 83, 3) := by decide +kernel
theorem dX7_measure_60 : decode cX7_measure 60 = .ok (.if_icmp .ne 111, 3) := by decide +kernel
theorem dX7_measure_63 : decode cX7_measure 63 = .ok (.aload_n 0, 1) := by decide +kernel
theorem dX7_measure_64 : decode cX7_measure 64 = .ok (.getfield 36, 3) := by decide +kernel
theorem dX7_measure_67 : decode cX7_measure 67 = .ok (.iload 8, 2) := by decide +kernel
theorem dX7_measure_69 : decode cX7_measure 69 = .ok (.iaload, 1) := by decide +kernel
theorem dX7_measure_70 : decode cX7_measure 70 = .ok (.iload 5, 2) := by decide +kernel
theorem dX7_measure_72 : decode cX7_measure 72 = .ok (.if_icmp .lt 6, 3) := by decide +kernel
theorem dX7_measure_75 : decode cX7_measure 75 = .ok (.goto 102, 3) := by decide +kernel
theorem dX7_measure_78 : decode cX7_measure 78 = .ok (.iload 5, 2) := by decide +kernel
theorem dX7_measure_80 : decode cX7_measure 80 = .ok (.aload_n 0, 1) := by decide +kernel
theorem dX7_measure_81 : decode cX7_measure 81 = .ok (.getfield 36, 3) := by decide +kernel
theorem dX7_measure_84 : decode cX7_measure 84 = .ok (.iload 8, 2) := by decide +kernel
theorem dX7_measure_86 : decode cX7_measure 86 = .ok (.iaload, 1) := by decide +kernel
theorem dX7_measure_87 : decode cX7_measure 87 = .ok (.aload_n 0, 1) := by decide +kernel
theorem dX7_measure_88 : decode cX7_measure 88 = .ok (.getfield 33, 3) := by decide +kernel
theorem dX7_measure_91 : decode cX7_measure 91 = .ok (.iload 8, 2) := by decide +kernel
theorem dX7_measure_93 : decode cX7_measure 93 = .ok (.iaload, 1) := by decide +kernel
theorem dX7_measure_94 : decode cX7_measure 94 = .ok (.iadd, 1) := by decide +kernel
theorem dX7_measure_95 : decode cX7_measure 95 = .ok (.invokestatic 77, 3) := by decide +kernel
theorem dX7_measure_98 : decode cX7_measure 98 = .ok (.istore 9, 2) := by decide +kernel
theorem dX7_measure_100 : decode cX7_measure 100 = .ok (.iload 4, 2) := by decide +kernel
theorem dX7_measure_102 : decode cX7_measure 102 = .ok (.aload_n 0, 1) := by decide +kernel
theorem dX7_measure_103 : decode cX7_measure 103 = .ok (.getfield 36, 3) := by decide +kernel
theorem dX7_measure_106 : decode cX7_measure 106 = .ok (.iload 8, 2) := by decide +kernel
theorem dX7_measure_108 : decode cX7_measure 108 = .ok (.iaload, 1) := by decide +kernel
theorem dX7_measure_109 : decode cX7_measure 109 = .ok (.invokestatic 71, 3) := by decide +kernel
theorem dX7_measure_112 : decode cX7_measure 112 = .ok (.iload 9, 2) := by decide +kernel
theorem dX7_measure_114 : decode cX7_measure 114 = .ok (.if_icmp .ge 57, 3) := by decide +kernel
theorem dX7_measure_117 : decode cX7_measure 117 = .ok (.aload_n 0, 1) := by decide +kernel
theorem dX7_measure_118 : decode cX7_measure 118 = .ok (.getfield 30, 3) := by decide +kernel
theorem dX7_measure_121 : decode cX7_measure 121 = .ok (.iload 8, 2) := by decide +kernel
theorem dX7_measure_123 : decode cX7_measure 123 = .ok (.iaload, 1) := by decide +kernel
theorem dX7_measure_124 : decode cX7_measure 124 = .ok (.iload 9, 2) := by decide +kernel
theorem dX7_measure_126 : decode cX7_measure 126 = .ok (.iadd, 1) := by decide +kernel
theorem dX7_measure_127 : decode cX7_measure 127 = .ok (.iconst 1, 1) := by decide +kernel
theorem dX7_measure_128 : decode cX7_measure 128 = .ok (.isub, 1) := by decide +kernel
theorem dX7_measure_129 : decode cX7_measure 129 = .ok (.aload_n 0, 1) := by decide +kernel
theorem dX7_measure_130 : decode cX7_measure 130 = .ok (.getfield 36, 3) := by decide +kernel
theorem dX7_measure_133 : decode cX7_measure 133 = .ok (.iload 8, 2) := by decide +kernel
theorem dX7_measure_135 : decode cX7_measure 135 = .ok (.iaload, 1) := by decide +kernel
theorem dX7_measure_136 : decode cX7_measure 136 = .ok (.isub, 1) := by decide +kernel
theorem dX7_measure_137 : decode cX7_measure 137 = .ok (.iload 6, 2) := by decide +kernel
theorem dX7_measure_139 : decode cX7_measure 139 = .ok (.idiv, 1) := by decide +kernel
theorem dX7_measure_140 : decode cX7_measure 140 = .ok (.istore 10, 2) := by decide +kernel
theorem dX7_measure_142 : decode cX7_measure 142 = .ok (.aload_n 1, 1) := by decide +kernel
theorem dX7_measure_143 : decode cX7_measure 143 = .ok (.iload 10, 2) := by decide +kernel
theorem dX7_measure_145 : decode cX7_measure 145 = .ok (.iload 10, 2) := by decide +kernel
theorem dX7_measure_147 : decode cX7_measure 147 = .ok (.aload_n 0, 1) := by decide +kernel
theorem dX7_measure_148 : decode cX7_measure 148 = .ok (.getfield 18, 3) := by decide +kernel
theorem dX7_measure_151 : decode cX7_measure 151 = .ok (.iload 8, 2) := by decide +kernel
theorem dX7_measure_153 : decode cX7_measure 153 = .ok (.iaload, 1) := by decide +kernel
theorem dX7_measure_154 : decode cX7_measure 154 = .ok (.isub, 1) := by decide +kernel
theorem dX7_measure_155 : decode cX7_measure 155 = .ok (.aload_n 0, 1) := by decide +kernel
theorem dX7_measure_156 : decode cX7_measure 156 = .ok (.getfield 24, 3) := by decide +kernel
theorem dX7_measure_159 : decode cX7_measure 159 = .ok (.iload 8, 2) := by decide +kernel
theorem dX7_measure_161 : decode cX7_measure 161 = .ok (.iaload, 1) := by decide +kernel
theorem dX7_measure_162 : decode cX7_measure 162 = .ok (.invokevirtual 94, 3) := by decide +kernel
theorem dX7_measure_165 : decode cX7_measure 165 = .ok (.aload_n 1, 1) := by decide +kernel
theorem dX7_measure_166 : decode cX7_measure 166 = .ok (.iload 7, 2) := by decide +kernel
theorem dX7_measure_168 : decode cX7_measure 168 = .ok (.putfield 91, 3) := by decide +kernel
theorem dX7_measure_171 : decode cX7_measure 171 = .ok (.iinc 7 1, 3) := by decide +kernel
theorem dX7_measure_174 : decode cX7_measure 174 = .ok (.goto (-143), 3) := by decide +kernel
theorem dX7_measure_177 : decode cX7_measure 177 = .ok (.aload_n 1, 1) := by decide +kernel
theorem dX7_measure_178 : decode cX7_measure 178 = .ok (.invokevirtual 97, 3) := by decide +kernel
theorem dX7_measure_181 : decode cX7_measure 181 = .ok (.return_, 1) := by decide +kernel
theorem dX8_init_0 : decode cX8_init 0 = .ok (.aload_n 0, 1) := by decide +kernel
theorem dX8_init_1 : decode cX8_init 1 = .ok (.invokespecial 3, 3) := by decide +kernel
theorem dX8_init_4 : decode cX8_init 4 = .ok (.aload_n 0, 1) := by decide +kernel
theorem dX8_init_5 : decode cX8_init 5 = .ok (.bipush 12, 2) := by decide +kernel
theorem dX8_init_7 : decode cX8_init 7 = .ok (.newarray .int, 2) := by decide +kernel
theorem dX8_init_9 : decode cX8_init 9 = .ok (.putfield 9, 3) := by decide +kernel
theorem dX8_init_12 : decode cX8_init 12 = .ok (.aload_n 0, 1) := by decide +kernel
theorem dX8_init_13 : decode cX8_init 13 = .ok (.bipush 12, 2) := by decide +kernel
theorem dX8_init_15 : decode cX8_init 15 = .ok (.newarray .int, 2) := by decide +kernel
theorem dX8_init_17 : decode cX8_init 17 = .ok (.putfield 15, 3) := by decide +kernel
theorem dX8_init_20 : decode cX8_init 20 = .ok (.aload_n 0, 1) := by decide +kernel
theorem dX8_init_21 : decode cX8_init 21 = .ok (.bipush 12, 2) := by decide +kernel
theorem dX8_init_23 : decode cX8_init 23 = .ok (.newarray .int, 2) := by decide +kernel
theorem dX8_init_25 : decode cX8_init 25 = .ok (.putfield 18, 3) := by decide +kernel
theorem dX8_init_28 : decode cX8_init 28 = .ok (.aload_n 0, 1) := by decide +kernel
theorem dX8_init_29 : decode cX8_init 29 = .ok (.bipush 12, 2) := by decide +kernel
theorem dX8_init_31 : decode cX8_init 31 = .ok (.newarray .int, 2) := by decide +kernel
theorem dX8_init_33 : decode cX8_init 33 = .ok (.putfield 21, 3) := by decide +kernel
theorem dX8_init_36 : decode cX8_init 36 = .ok (.return_, 1) := by decide +kernel
theorem dX8_add_0 : decode cX8_add 0 = .ok (.aload_n 0, 1) := by decide +kernel
theorem dX8_add_1 : decode cX8_add 1 = .ok (.getfield 9, 3) := by decide +kernel
theorem dX8_add_4 : decode cX8_add 4 = .ok (.aload_n 0, 1) := by decide +kernel
theorem dX8_add_5 : decode cX8_add 5 = .ok (.getfield 24, 3) := by decide +kernel
theorem dX8_add_8 : decode cX8_add 8 = .ok (.iload_n 1, 1) := by decide +kernel
theorem dX8_add_9 : decode cX8_add 9 = .ok (.iastore, 1) := by decide +kernel
theorem dX8_add_10 : decode cX8_add 10 = .ok (.aload_n 0, 1) := by decide +kernel
theorem dX8_add_11 : decode cX8_add 11 = .ok (.getfield 15, 3) := by decide +kernel
theorem dX8_add_14 : decode cX8_add 14 = .ok (.aload_n 0, 1) := by decide +kernel
theorem dX8_add_15 : decode cX8_add 15 = .ok (.getfield 24, 3) := by decide +kernel
theorem dX8_add_18 : decode cX8_add 18 = .ok (.iload_n 2, 1) := by decide +kernel
theorem dX8_add_19 : decode cX8_add 19 = .ok (.iastore, 1) := by decide +kernel
theorem dX8_add_20 : decode cX8_add 20 = .ok (.aload_n 0, 1) := by decide +kernel
theorem dX8_add_21 : decode cX8_add 21 = .ok (.getfield 18, 3) := by decide +kernel
theorem dX8_add_24 : decode cX8_add 24 = .ok (.aload_n 0, 1) := by decide +kernel
theorem dX8_add_25 : decode cX8_add 25 = .ok (.getfield 24, 3) := by decide +kernel
theorem dX8_add_28 : decode cX8_add 28 = .ok (.iload_n 3, 1) := by decide +kernel
theorem dX8_add_29 : decode cX8_add 29 = .ok (.iastore, 1) := by decide +kernel
theorem dX8_add_30 : decode cX8_add 30 = .ok (.aload_n 0, 1) := by decide +kernel
theorem dX8_add_31 : decode cX8_add 31 = .ok (.getfield 21, 3) := by decide +kernel
theorem dX8_add_34 : decode cX8_add 34 = .ok (.aload_n 0, 1) := by decide +kernel
theorem dX8_add_35 : decode cX8_add 35 = .ok (.getfield 24, 3) := by decide +kernel
theorem dX8_add_38 : decode cX8_add 38 = .ok (.iload 4, 2) := by decide +kernel
theorem dX8_add_40 : decode cX8_add 40 = .ok (.iastore, 1) := by decide +kernel
theorem dX8_add_41 : decode cX8_add 41 = .ok (.aload_n 0, 1) := by decide +kernel
theorem dX8_add_42 : decode cX8_add 42 = .ok (.dup, 1) := by decide +kernel
theorem dX8_add_43 : decode cX8_add 43 = .ok (.getfield 24, 3) := by decide +kernel
theorem dX8_add_46 : decode cX8_add 46 = .ok (.iconst 1, 1) := by decide +kernel
theorem dX8_add_47 : decode cX8_add 47 = .ok (.iadd, 1) := by decide +kernel
theorem dX8_add_48 : decode cX8_add 48 = .ok (.putfield 24, 3) := by decide +kernel
theorem dX8_add_51 : decode cX8_add 51 = .ok (.aload_n 0, 1) := by decide +kernel
theorem dX8_add_52 : decode cX8_add 52 = .ok (.getfield 24, 3) := by decide +kernel
theorem dX8_add_55 : decode cX8_add 55 = .ok (.ireturn, 1) := by decide +kernel
theorem dX8_find_0 : decode cX8_find 0 = .ok (.bipush (-6), 2) := by decide +kernel
theorem dX8_find_2 : decode cX8_find 2 = .ok (.istore_n 3, 1) := by decide +kernel
theorem dX8_find_3 : decode cX8_find 3 = .ok (.iconst 0, 1) := by decide +kernel
theorem dX8_find_4 : decode cX8_find 4 = .ok (.istore 4, 2) := by decide +kernel
theorem dX8_find_6 : decode cX8_find 6 = .ok (.iload 4, 2) := by decide +kernel
theorem dX8_find_8 : decode cX8_find 8 = .ok (.aload_n 0, 1) := by decide +kernel
theorem dX8_find_9 : decode cX8_find 9 = .ok (.getfield 24, 3) := by decide +kernel
theorem dX8_find_12 : decode cX8_find 12 = .ok (.if_icmp .ge 68, 3) := by decide +kernel
theorem dX8_find_15 : decode cX8_find 15 = .ok (.aload_n 0, 1) := by decide +kernel
theorem dX8_find_16 : decode cX8_find 16 = .ok (.getfield 9, 3) := by decide +kernel
theorem dX8_find_19 : decode cX8_find 19 = .ok (.iload 4, 2) := by decide +kernel
theorem dX8_find_21 : decode cX8_find 21 = .ok (.iaload, 1) := by decide +kernel
theorem dX8_find_22 : decode cX8_find 22 = .ok (.iload_n 1, 1) := by decide +kernel
theorem dX8_find_23 : decode cX8_find 23 = .ok (.if_icmp .ne 18, 3) := by decide +kernel
theorem dX8_find_26 : decode cX8_find 26 = .ok (.aload_n 0, 1) := by decide +kernel
theorem dX8_find_27 : decode cX8_find 27 = .ok (.getfield 15, 3) := by decide +kernel
theorem dX8_find_30 : decode cX8_find 30 = .ok (.iload 4, 2) := by decide +kernel
theorem dX8_find_32 : decode cX8_find 32 = .ok (.iaload, 1) := by decide +kernel
theorem dX8_find_33 : decode cX8_find 33 = .ok (.iload_n 2, 1) := by decide +kernel
theorem dX8_find_34 : decode cX8_find 34 = .ok (.if_icmp .gt 7, 3) := by decide +kernel
theorem dX8_find_37 : decode cX8_find 37 = .ok (.iconst 1, 1) := by decide +kernel
theorem dX8_find_38 : decode cX8_find 38 = .ok (.goto 4, 3) := by decide +kernel
theorem dX8_find_41 : decode cX8_find 41 = .ok (.iconst 0, 1) := by decide +kernel
theorem dX8_find_42 : decode cX8_find 42 = .ok (.istore 5, 2) := by decide +kernel
theorem dX8_find_44 : decode cX8_find 44 = .ok (.iload 5, 2) := by decide +kernel
theorem dX8_find_46 : decode cX8_find 46 = .ok (.ifCond .eq 28, 3) := by decide +kernel
theorem dX8_find_49 : decode cX8_find 49 = .ok (.iload_n 3, 1) := by decide +kernel
theorem dX8_find_50 : decode cX8_find 50 = .ok (.bipush (-6), 2) := by decide +kernel
theorem dX8_find_52 : decode cX8_find 52 = .ok (.if_icmp .eq 19, 3) := by decide +kernel
theorem dX8_find_55 : decode cX8_find 55 = .ok (.aload_n 0, 1) := by decide +kernel
theorem dX8_find_56 : decode cX8_find 56 = .ok (.getfield 15, 3) := by decide +kernel
theorem dX8_find_59 : decode cX8_find 59 = .ok (.iload 4, 2) := by decide +kernel
theorem dX8_find_61 : decode cX8_find 61 = .ok (.iaload, 1) := by decide +kernel
theorem dX8_find_62 : decode cX8_find 62 = .ok (.aload_n 0, 1) := by decide +kernel
theorem dX8_find_63 : decode cX8_find 63 = .ok (.getfield 15, 3) := by decide +kernel
theorem dX8_find_66 : decode cX8_find 66 = .ok (.iload_n 3, 1) := by decide +kernel
theorem dX8_find_67 : decode cX8_find 67 = .ok (.iaload, 1) := by decide +kernel
theorem dX8_find_68 : decode cX8_find 68 = .ok (.if_icmp .lt 6, 3) := by decide +kernel
theorem dX8_find_71 : decode cX8_find 71 = .ok (.iload 4, 2) := by decide +kernel
theorem dX8_find_73 : decode cX8_find 73 = .ok (.istore_n 3, 1) := by decide +kernel
theorem dX8_find_74 : decode cX8_find 74 = .ok (.iinc 4 1, 3) := by decide +kernel
theorem dX8_find_77 : decode cX8_find 77 = .ok (.goto (-71), 3) := by decide +kernel
theorem dX8_find_80 : decode cX8_find 80 = .ok (.iload_n 3, 1) := by decide +kernel
theorem dX8_find_81 : decode cX8_find 81 = .ok (.ireturn, 1) := by decide +kernel
theorem dX8_lotAt_0 : decode cX8_lotAt 0 = .ok (.aload_n 0, 1) := by decide +kernel
theorem dX8_lotAt_1 : decode cX8_lotAt 1 = .ok (.iload_n 1, 1) := by decide +kernel
theorem dX8_lotAt_2 : decode cX8_lotAt 2 = .ok (.iload_n 2, 1) := by decide +kernel
theorem dX8_lotAt_3 : decode cX8_lotAt 3 = .ok (.invokevirtual 28, 3) := by decide +kernel
theorem dX8_lotAt_6 : decode cX8_lotAt 6 = .ok (.istore_n 3, 1) := by decide +kernel
theorem dX8_lotAt_7 : decode cX8_lotAt 7 = .ok (.iload_n 3, 1) := by decide +kernel
theorem dX8_lotAt_8 : decode cX8_lotAt 8 = .ok (.bipush (-6), 2) := by decide +kernel
theorem dX8_lotAt_10 : decode cX8_lotAt 10 = .ok (.if_icmp .ne 7, 3) := by decide +kernel
theorem dX8_lotAt_13 : decode cX8_lotAt 13 = .ok (.iconst 0, 1) := by decide +kernel
theorem dX8_lotAt_14 : decode cX8_lotAt 14 = .ok (.goto 9, 3) := by decide +kernel
theorem dX8_lotAt_17 : decode cX8_lotAt 17 = .ok (.aload_n 0, 1) := by decide +kernel
theorem dX8_lotAt_18 : decode cX8_lotAt 18 = .ok (.getfield 18, 3) := by decide +kernel
theorem dX8_lotAt_21 : decode cX8_lotAt 21 = .ok (.iload_n 3, 1) := by decide +kernel
theorem dX8_lotAt_22 : decode cX8_lotAt 22 = .ok (.iaload, 1) := by decide +kernel
theorem dX8_lotAt_23 : decode cX8_lotAt 23 = .ok (.ireturn, 1) := by decide +kernel
theorem dX8_muchAt_0 : decode cX8_muchAt 0 = .ok (.aload_n 0, 1) := by decide +kernel
theorem dX8_muchAt_1 : decode cX8_muchAt 1 = .ok (.iload_n 1, 1) := by decide +kernel
theorem dX8_muchAt_2 : decode cX8_muchAt 2 = .ok (.iload_n 2, 1) := by decide +kernel
theorem dX8_muchAt_3 : decode cX8_muchAt 3 = .ok (.invokevirtual 28, 3) := by decide +kernel
theorem dX8_muchAt_6 : decode cX8_muchAt 6 = .ok (.istore_n 3, 1) := by decide +kernel
theorem dX8_muchAt_7 : decode cX8_muchAt 7 = .ok (.iload_n 3, 1) := by decide +kernel
theorem dX8_muchAt_8 : decode cX8_muchAt 8 = .ok (.bipush (-6), 2) := by decide +kernel
theorem dX8_muchAt_10 : decode cX8_muchAt 10 = .ok (.if_icmp .ne 8, 3) := by decide +kernel
theorem dX8_muchAt_13 : decode cX8_muchAt 13 = .ok (.bipush 50, 2) := by decide +kernel
theorem dX8_muchAt_15 : decode cX8_muchAt 15 = .ok (.goto 9, 3) := by decide +kernel
theorem dX8_muchAt_18 : decode cX8_muchAt 18 = .ok (.aload_n 0, 1) := by decide +kernel
theorem dX8_muchAt_19 : decode cX8_muchAt 19 = .ok (.getfield 21, 3) := by decide +kernel
theorem dX8_muchAt_22 : decode cX8_muchAt 22 = .ok (.iload_n 3, 1) := by decide +kernel
theorem dX8_muchAt_23 : decode cX8_muchAt 23 = .ok (.iaload, 1) := by decide +kernel
theorem dX8_muchAt_24 : decode cX8_muchAt 24 = .ok (.ireturn, 1) := by decide +kernel
theorem dX9_init_0 : decode cX9_init 0 = .ok (.aload_n 0, 1) := by decide +kernel
theorem dX9_init_1 : decode cX9_init 1 = .ok (.invokespecial 3, 3) := by decide +kernel
theorem dX9_init_4 : decode cX9_init 4 = .ok (.aload_n 0, 1) := by decide +kernel
theorem dX9_init_5 : decode cX9_init 5 = .ok (.bipush 30, 2) := by decide +kernel
theorem dX9_init_7 : decode cX9_init 7 = .ok (.newarray .int, 2) := by decide +kernel
theorem dX9_init_9 : decode cX9_init 9 = .ok (.putfield 9, 3) := by decide +kernel
theorem dX9_init_12 : decode cX9_init 12 = .ok (.aload_n 0, 1) := by decide +kernel
theorem dX9_init_13 : decode cX9_init 13 = .ok (.iconst 5, 1) := by decide +kernel
theorem dX9_init_14 : decode cX9_init 14 = .ok (.newarray .int, 2) := by decide +kernel
theorem dX9_init_16 : decode cX9_init 16 = .ok (.putfield 15, 3) := by decide +kernel
theorem dX9_init_19 : decode cX9_init 19 = .ok (.aload_n 0, 1) := by decide +kernel
theorem dX9_init_20 : decode cX9_init 20 = .ok (.sipush 128, 3) := by decide +kernel
theorem dX9_init_23 : decode cX9_init 23 = .ok (.newarray .int, 2) := by decide +kernel
theorem dX9_init_25 : decode cX9_init 25 = .ok (.putfield 18, 3) := by decide +kernel
theorem dX9_init_28 : decode cX9_init 28 = .ok (.return_, 1) := by decide +kernel
theorem dX9_plan_0 : decode cX9_plan 0 = .ok (.aload_n 0, 1) := by decide +kernel
theorem dX9_plan_1 : decode cX9_plan 1 = .ok (.aload_n 1, 1) := by decide +kernel
theorem dX9_plan_2 : decode cX9_plan 2 = .ok (.invokevirtual 21, 3) := by decide +kernel
theorem dX9_plan_5 : decode cX9_plan 5 = .ok (.iconst 0, 1) := by decide +kernel
theorem dX9_plan_6 : decode cX9_plan 6 = .ok (.istore_n 3, 1) := by decide +kernel
theorem dX9_plan_7 : decode cX9_plan 7 = .ok (.iload_n 3, 1) := by decide +kernel
theorem dX9_plan_8 : decode cX9_plan 8 = .ok (.iconst 4, 1) := by decide +kernel
theorem dX9_plan_9 : decode cX9_plan 9 = .ok (.if_icmp .ge 53, 3) := by decide +kernel
theorem dX9_plan_12 : decode cX9_plan 12 = .ok (.iconst 0, 1) := by decide +kernel
theorem dX9_plan_13 : decode cX9_plan 13 = .ok (.istore 4, 2) := by decide +kernel
theorem dX9_plan_15 : decode cX9_plan 15 = .ok (.iload 4, 2) := by decide +kernel
theorem dX9_plan_17 : decode cX9_plan 17 = .ok (.iconst 1, 1) := by decide +kernel
theorem dX9_plan_18 : decode cX9_plan 18 = .ok (.aload_n 0, 1) := by decide +kernel
theorem dX9_plan_19 : decode cX9_plan 19 = .ok (.getfield 25, 3) := by decide +kernel
theorem dX9_plan_22 : decode cX9_plan 22 = .ok (.ishl, 1) := by decide +kernel
theorem dX9_plan_23 : decode cX9_plan 23 = .ok (.if_icmp .ge 33, 3) := by decide +kernel
theorem dX9_plan_26 : decode cX9_plan 26 = .ok (.aload_n 0, 1) := by decide +kernel
theorem dX9_plan_27 : decode cX9_plan 27 = .ok (.getfield 18, 3) := by decide +kernel
theorem dX9_plan_30 : decode cX9_plan 30 = .ok (.iload_n 3, 1) := by decide +kernel
theorem dX9_plan_31 : decode cX9_plan 31 = .ok (.bipush 32, 2) := by decide +kernel
theorem dX9_plan_33 : decode cX9_plan 33 = .ok (.imul, 1) := by decide +kernel
theorem dX9_plan_34 : decode cX9_plan 34 = .ok (.iload 4, 2) := by decide +kernel
theorem dX9_plan_36 : decode cX9_plan 36 = .ok (.iadd, 1) := by decide +kernel
theorem dX9_plan_37 : decode cX9_plan 37 = .ok (.aload_n 1, 1) := by decide +kernel
theorem dX9_plan_38 : decode cX9_plan 38 = .ok (.iload_n 3, 1) := by decide +kernel
theorem dX9_plan_39 : decode cX9_plan 39 = .ok (.iload 4, 2) := by decide +kernel
theorem dX9_plan_41 : decode cX9_plan 41 = .ok (.aload_n 0, 1) := by decide +kernel
theorem dX9_plan_42 : decode cX9_plan 42 = .ok (.getfield 9, 3) := by decide +kernel
theorem dX9_plan_45 : decode cX9_plan 45 = .ok (.iload_n 2, 1) := by decide +kernel
theorem dX9_plan_46 : decode cX9_plan 46 = .ok (.invokevirtual 29, 3) := by decide +kernel
theorem dX9_plan_49 : decode cX9_plan 49 = .ok (.iastore, 1) := by decide +kernel
theorem dX9_plan_50 : decode cX9_plan 50 = .ok (.iinc 4 1, 3) := by decide +kernel
theorem dX9_plan_53 : decode cX9_plan 53 = .ok (.goto (-38), 3) := by decide +kernel
theorem dX9_plan_56 : decode cX9_plan 56 = .ok (.iinc 3 1, 3) := by decide +kernel
theorem dX9_plan_59 : decode cX9_plan 59 = .ok (.goto (-52), 3) := by decide +kernel
theorem dX9_plan_62 : decode cX9_plan 62 = .ok (.aload_n 0, 1) := by decide +kernel
theorem dX9_plan_63 : decode cX9_plan 63 = .ok (.iconst 0, 1) := by decide +kernel
theorem dX9_plan_64 : decode cX9_plan 64 = .ok (.putfield 35, 3) := by decide +kernel
theorem dX9_plan_67 : decode cX9_plan 67 = .ok (.aload_n 0, 1) := by decide +kernel
theorem dX9_plan_68 : decode cX9_plan 68 = .ok (.aload_n 0, 1) := by decide +kernel
theorem dX9_plan_69 : decode cX9_plan 69 = .ok (.iconst 0, 1) := by decide +kernel
theorem dX9_plan_70 : decode cX9_plan 70 = .ok (.invokevirtual 38, 3) := by decide +kernel
theorem dX9_plan_73 : decode cX9_plan 73 = .ok (.putfield 42, 3) := by decide +kernel
theorem dX9_plan_76 : decode cX9_plan 76 = .ok (.iconst 1, 1) := by decide +kernel
theorem dX9_plan_77 : decode cX9_plan 77 = .ok (.istore_n 3, 1) := by decide +kernel
theorem dX9_plan_78 : decode cX9_plan 78 = .ok (.iload_n 3, 1) := by decide +kernel
theorem dX9_plan_79 : decode cX9_plan 79 = .ok (.iconst 1, 1) := by decide +kernel
theorem dX9_plan_80 : decode cX9_plan 80 = .ok (.iconst 2, 1) := by decide +kernel
theorem dX9_plan_81 : decode cX9_plan 81 = .ok (.aload_n 0, 1) := by decide +kernel
theorem dX9_plan_82 : decode cX9_plan 82 = .ok (.getfield 25, 3) := by decide +kernel
theorem dX9_plan_85 : decode cX9_plan 85 = .ok (.imul, 1) := by decide +kernel
theorem dX9_plan_86 : decode cX9_plan 86 = .ok (.ishl, 1) := by decide +kernel
theorem dX9_plan_87 : decode cX9_plan 87 = .ok (.if_icmp .ge 36, 3) := by decide +kernel
theorem dX9_plan_90 : decode cX9_plan 90 = .ok (.aload_n 0, 1) := by decide +kernel
theorem dX9_plan_91 : decode cX9_plan 91 = .ok (.iload_n 3, 1) := by decide +kernel
theorem dX9_plan_92 : decode cX9_plan 92 = .ok (.invokevirtual 38, 3) := by decide +kernel
theorem dX9_plan_95 : decode cX9_plan 95 = .ok (.istore 4, 2) := by decide +kernel
theorem dX9_plan_97 : decode cX9_plan 97 = .ok (.iload 4, 2) := by decide +kernel
theorem dX9_plan_99 : decode cX9_plan 99 = .ok (.aload_n 0, 1) := by decide +kernel
theorem dX9_plan_100 : decode cX9_plan 100 = .ok (.getfield 42, 3) := by decide +kernel
theorem dX9_plan_103 : decode cX9_plan 103 = .ok (.if_icmp .ge 14, 3) := by decide +kernel
theorem dX9_plan_106 : decode cX9_plan 106 = .ok (.aload_n 0, 1) := by decide +kernel
theorem dX9_plan_107 : decode cX9_plan 107 = .ok (.iload 4, 2) := by decide +kernel
theorem dX9_plan_109 : decode cX9_plan 109 = .ok (.putfield 42, 3) := by decide +kernel
theorem dX9_plan_112 : decode cX9_plan 112 = .ok (.aload_n 0, 1) := by decide +kernel
theorem dX9_plan_113 : decode cX9_plan 113 = .ok (.iload_n 3, 1) := by decide +kernel
theorem dX9_plan_114 : decode cX9_plan 114 = .ok (.putfield 35, 3) := by decide +kernel
theorem dX9_plan_117 : decode cX9_plan 117 = .ok (.iinc 3 1, 3) := by decide +kernel
theorem dX9_plan_120 : decode cX9_plan 120 = .ok (.goto (-42), 3) := by decide +kernel
theorem dX9_plan_123 : decode cX9_plan 123 = .ok (.return_, 1) := by decide +kernel
theorem dX9_quayOf_0 : decode cX9_quayOf 0 = .ok (.aload_n 0, 1) := by decide +kernel
theorem dX9_quayOf_1 : decode cX9_quayOf 1 = .ok (.aload_n 0, 1) := by decide +kernel
theorem dX9_quayOf_2 : decode cX9_quayOf 2 = .ok (.getfield 35, 3) := by decide +kernel
theorem dX9_quayOf_5 : decode cX9_quayOf 5 = .ok (.iload_n 1, 1) := by decide +kernel
theorem dX9_quayOf_6 : decode cX9_quayOf 6 = .ok (.invokevirtual 45, 3) := by decide +kernel
theorem dX9_quayOf_9 : decode cX9_quayOf 9 = .ok (.ireturn, 1) := by decide +kernel
theorem dX9_list_0 : decode cX9_list 0 = .ok (.aload_n 0, 1) := by decide +kernel
theorem dX9_list_1 : decode cX9_list 1 = .ok (.iconst 0, 1) := by decide +kernel
theorem dX9_list_2 : decode cX9_list 2 = .ok (.putfield 25, 3) := by decide +kernel
theorem dX9_list_5 : decode cX9_list 5 = .ok (.iconst 0, 1) := by decide +kernel
theorem dX9_list_6 : decode cX9_list 6 = .ok (.istore_n 2, 1) := by decide +kernel
theorem dX9_list_7 : decode cX9_list 7 = .ok (.iload_n 2, 1) := by decide +kernel
theorem dX9_list_8 : decode cX9_list 8 = .ok (.aload_n 1, 1) := by decide +kernel
theorem dX9_list_9 : decode cX9_list 9 = .ok (.getfield 49, 3) := by decide +kernel
theorem dX9_list_12 : decode cX9_list 12 = .ok (.if_icmp .ge 57, 3) := by decide +kernel
theorem dX9_list_15 : decode cX9_list 15 = .ok (.aload_n 1, 1) := by decide +kernel
theorem dX9_list_16 : decode cX9_list 16 = .ok (.getfield 50, 3) := by decide +kernel
theorem dX9_list_19 : decode cX9_list 19 = .ok (.iload_n 2, 1) := by decide +kernel
theorem dX9_list_20 : decode cX9_list 20 = .ok (.iaload, 1) := by decide +kernel
theorem dX9_list_21 : decode cX9_list 21 = .ok (.iconst (-1), 1) := by decide +kernel
theorem dX9_list_22 : decode cX9_list 22 = .ok (.if_icmp .ne 41, 3) := by decide +kernel
theorem dX9_list_25 : decode cX9_list 25 = .ok (.aload_n 0, 1) := by decide +kernel
theorem dX9_list_26 : decode cX9_list 26 = .ok (.getfield 25, 3) := by decide +kernel
theorem dX9_list_29 : decode cX9_list 29 = .ok (.iconst 5, 1) := by decide +kernel
theorem dX9_list_30 : decode cX9_list 30 = .ok (.if_icmp .ge 33, 3) := by decide +kernel
theorem dX9_list_33 : decode cX9_list 33 = .ok (.aload_n 0, 1) := by decide +kernel
theorem dX9_list_34 : decode cX9_list 34 = .ok (.getfield 9, 3) := by decide +kernel
theorem dX9_list_37 : decode cX9_list 37 = .ok (.iload_n 2, 1) := by decide +kernel
theorem dX9_list_38 : decode cX9_list 38 = .ok (.aload_n 0, 1) := by decide +kernel
theorem dX9_list_39 : decode cX9_list 39 = .ok (.getfield 25, 3) := by decide +kernel
theorem dX9_list_42 : decode cX9_list 42 = .ok (.iastore, 1) := by decide +kernel
theorem dX9_list_43 : decode cX9_list 43 = .ok (.aload_n 0, 1) := by decide +kernel
theorem dX9_list_44 : decode cX9_list 44 = .ok (.getfield 15, 3) := by decide +kernel
theorem dX9_list_47 : decode cX9_list 47 = .ok (.aload_n 0, 1) := by decide +kernel
theorem dX9_list_48 : decode cX9_list 48 = .ok (.getfield 25, 3) := by decide +kernel
theorem dX9_list_51 : decode cX9_list 51 = .ok (.iload_n 2, 1) := by decide +kernel
theorem dX9_list_52 : decode cX9_list 52 = .ok (.iastore, 1) := by decide +kernel
theorem dX9_list_53 : decode cX9_list 53 = .ok (.aload_n 0, 1) := by decide +kernel
theorem dX9_list_54 : decode cX9_list 54 = .ok (.dup, 1) := by decide +kernel
theorem dX9_list_55 : decode cX9_list 55 = .ok (.getfield 25, 3) := by decide +kernel
theorem dX9_list_58 : decode cX9_list 58 = .ok (.iconst 1, 1) := by decide +kernel
theorem dX9_list_59 : decode cX9_list 59 = .ok (.iadd, 1) := by decide +kernel
theorem dX9_list_60 : decode cX9_list 60 = .ok (.putfield 25, 3) := by decide +kernel
theorem dX9_list_63 : decode cX9_list 63 = .ok (.iinc 2 1, 3) := by decide +kernel
theorem dX9_list_66 : decode cX9_list 66 = .ok (.goto (-59), 3) := by decide +kernel
theorem dX9_list_69 : decode cX9_list 69 = .ok (.return_, 1) := by decide +kernel
theorem dX9_digit_0 : decode cX9_digit 0 = .ok (.iload_n 1, 1) := by decide +kernel
theorem dX9_digit_1 : decode cX9_digit 1 = .ok (.iconst 2, 1) := by decide +kernel
theorem dX9_digit_2 : decode cX9_digit 2 = .ok (.aload_n 0, 1) := by decide +kernel
theorem dX9_digit_3 : decode cX9_digit 3 = .ok (.getfield 25, 3) := by decide +kernel
theorem dX9_digit_6 : decode cX9_digit 6 = .ok (.iconst 1, 1) := by decide +kernel
theorem dX9_digit_7 : decode cX9_digit 7 = .ok (.isub, 1) := by decide +kernel
theorem dX9_digit_8 : decode cX9_digit 8 = .ok (.iload_n 2, 1) := by decide +kernel
theorem dX9_digit_9 : decode cX9_digit 9 = .ok (.isub, 1) := by decide +kernel
theorem dX9_digit_10 : decode cX9_digit 10 = .ok (.imul, 1) := by decide +kernel
theorem dX9_digit_11 : decode cX9_digit 11 = .ok (.ishr, 1) := by decide +kernel
theorem dX9_digit_12 : decode cX9_digit 12 = .ok (.iconst 3, 1) := by decide +kernel
theorem dX9_digit_13 : decode cX9_digit 13 = .ok (.iand, 1) := by decide +kernel
theorem dX9_digit_14 : decode cX9_digit 14 = .ok (.ireturn, 1) := by decide +kernel
theorem dX9_spoiltBy_0 : decode cX9_spoiltBy 0 = .ok (.iconst 0, 1) := by decide +kernel
theorem dX9_spoiltBy_1 : decode cX9_spoiltBy 1 = .ok (.istore_n 2, 1) := by decide +kernel
theorem dX9_spoiltBy_2 : decode cX9_spoiltBy 2 = .ok (.iconst 0, 1) := by decide +kernel
theorem dX9_spoiltBy_3 : decode cX9_spoiltBy 3 = .ok (.istore_n 3, 1) := by decide +kernel
theorem dX9_spoiltBy_4 : decode cX9_spoiltBy 4 = .ok (.iload_n 3, 1) := by decide +kernel
theorem dX9_spoiltBy_5 : decode cX9_spoiltBy 5 = .ok (.iconst 4, 1) := by decide +kernel
theorem dX9_spoiltBy_6 : decode cX9_spoiltBy 6 = .ok (.if_icmp .ge 65, 3) := by decide +kernel
theorem dX9_spoiltBy_9 : decode cX9_spoiltBy 9 = .ok (.iconst 0, 1) := by decide +kernel
theorem dX9_spoiltBy_10 : decode cX9_spoiltBy 10 = .ok (.istore 4, 2) := by decide +kernel
theorem dX9_spoiltBy_12 : decode cX9_spoiltBy 12 = .ok (.iconst 0, 1) := by decide +kernel
theorem dX9_spoiltBy_13 : decode cX9_spoiltBy 13 = .ok (.istore 5, 2) := by decide +kernel
theorem dX9_spoiltBy_15 : decode cX9_spoiltBy 15 = .ok (.iload 5, 2) := by decide +kernel
theorem dX9_spoiltBy_17 : decode cX9_spoiltBy 17 = .ok (.aload_n 0, 1) := by decide +kernel
theorem dX9_spoiltBy_18 : decode cX9_spoiltBy 18 = .ok (.getfield 25, 3) := by decide +kernel
theorem dX9_spoiltBy_21 : decode cX9_spoiltBy 21 = .ok (.if_icmp .ge 29, 3) := by decide +kernel
theorem dX9_spoiltBy_24 : decode cX9_spoiltBy 24 = .ok (.aload_n 0, 1) := by decide +kernel
theorem dX9_spoiltBy_25 : decode cX9_spoiltBy 25 = .ok (.iload_n 1, 1) := by decide +kernel
theorem dX9_spoiltBy_26 : decode cX9_spoiltBy 26 = .ok (.iload 5, 2) := by decide +kernel
theorem dX9_spoiltBy_28 : decode cX9_spoiltBy 28 = .ok (.invokevirtual 45, 3) := by decide +kernel
theorem dX9_spoiltBy_31 : decode cX9_spoiltBy 31 = .ok (.iload_n 3, 1) := by decide +kernel
theorem dX9_spoiltBy_32 : decode cX9_spoiltBy 32 = .ok (.if_icmp .ne 12, 3) := by decide +kernel
theorem dX9_spoiltBy_35 : decode cX9_spoiltBy 35 = .ok (.iload 4, 2) := by decide +kernel
theorem dX9_spoiltBy_37 : decode cX9_spoiltBy 37 = .ok (.iconst 1, 1) := by decide +kernel
theorem dX9_spoiltBy_38 : decode cX9_spoiltBy 38 = .ok (.iload 5, 2) := by decide +kernel
theorem dX9_spoiltBy_40 : decode cX9_spoiltBy 40 = .ok (.ishl, 1) := by decide +kernel
theorem dX9_spoiltBy_41 : decode cX9_spoiltBy 41 = .ok (.ior, 1) := by decide +kernel
theorem dX9_spoiltBy_42 : decode cX9_spoiltBy 42 = .ok (.istore 4, 2) := by decide +kernel
theorem dX9_spoiltBy_44 : decode cX9_spoiltBy 44 = .ok (.iinc 5 1, 3) := by decide +kernel
theorem dX9_spoiltBy_47 : decode cX9_spoiltBy 47 = .ok (.goto (-32), 3) := by decide +kernel
theorem dX9_spoiltBy_50 : decode cX9_spoiltBy 50 = .ok (.iload_n 2, 1) := by decide +kernel
theorem dX9_spoiltBy_51 : decode cX9_spoiltBy 51 = .ok (.aload_n 0, 1) := by decide +kernel
theorem dX9_spoiltBy_52 : decode cX9_spoiltBy 52 = .ok (.getfield 18, 3) := by decide +kernel
theorem dX9_spoiltBy_55 : decode cX9_spoiltBy 55 = .ok (.iload_n 3, 1) := by decide +kernel
theorem dX9_spoiltBy_56 : decode cX9_spoiltBy 56 = .ok (.bipush 32, 2) := by decide +kernel
theorem dX9_spoiltBy_58 : decode cX9_spoiltBy 58 = .ok (.imul, 1) := by decide +kernel
theorem dX9_spoiltBy_59 : decode cX9_spoiltBy 59 = .ok (.iload 4, 2) := by decide +kernel
theorem dX9_spoiltBy_61 : decode cX9_spoiltBy 61 = .ok (.iadd, 1) := by decide +kernel
theorem dX9_spoiltBy_62 : decode cX9_spoiltBy 62 = .ok (.iaload, 1) := by decide +kernel
theorem dX9_spoiltBy_63 : decode cX9_spoiltBy 63 = .ok (.iadd, 1) := by decide +kernel
theorem dX9_spoiltBy_64 : decode cX9_spoiltBy 64 = .ok (.istore_n 2, 1) := by decide +kernel
theorem dX9_spoiltBy_65 : decode cX9_spoiltBy 65 = .ok (.iinc 3 1, 3) := by decide +kernel
theorem dX9_spoiltBy_68 : decode cX9_spoiltBy 68 = .ok (.goto (-64), 3) := by decide +kernel
theorem dX9_spoiltBy_71 : decode cX9_spoiltBy 71 = .ok (.iload_n 2, 1) := by decide +kernel
theorem dX9_spoiltBy_72 : decode cX9_spoiltBy 72 = .ok (.ireturn, 1) := by decide +kernel
theorem dX10_init_0 : decode cX10_init 0 = .ok (.aload_n 0, 1) := by decide +kernel
theorem dX10_init_1 : decode cX10_init 1 = .ok (.invokespecial 1, 3) := by decide +kernel
theorem dX10_init_4 : decode cX10_init 4 = .ok (.aload_n 0, 1) := by decide +kernel
theorem dX10_init_5 : decode cX10_init 5 = .ok (.new 7, 3) := by decide +kernel
theorem dX10_init_8 : decode cX10_init 8 = .ok (.dup, 1) := by decide +kernel
theorem dX10_init_9 : decode cX10_init 9 = .ok (.invokespecial 9, 3) := by decide +kernel
theorem dX10_init_12 : decode cX10_init 12 = .ok (.putfield 10, 3) := by decide +kernel
theorem dX10_init_15 : decode cX10_init 15 = .ok (.aload_n 0, 1) := by decide +kernel
theorem dX10_init_16 : decode cX10_init 16 = .ok (.new 16, 3) := by decide +kernel
theorem dX10_init_19 : decode cX10_init 19 = .ok (.dup, 1) := by decide +kernel
theorem dX10_init_20 : decode cX10_init 20 = .ok (.invokespecial 18, 3) := by decide +kernel
theorem dX10_init_23 : decode cX10_init 23 = .ok (.putfield 19, 3) := by decide +kernel
theorem dX10_init_26 : decode cX10_init 26 = .ok (.aload_n 0, 1) := by decide +kernel
theorem dX10_init_27 : decode cX10_init 27 = .ok (.bipush 7, 2) := by decide +kernel
theorem dX10_init_29 : decode cX10_init 29 = .ok (.newarray .int, 2) := by decide +kernel
theorem dX10_init_31 : decode cX10_init 31 = .ok (.dup, 1) := by decide +kernel
theorem dX10_init_32 : decode cX10_init 32 = .ok (.iconst 0, 1) := by decide +kernel
theorem dX10_init_33 : decode cX10_init 33 = .ok (.bipush 24, 2) := by decide +kernel
theorem dX10_init_35 : decode cX10_init 35 = .ok (.iastore, 1) := by decide +kernel
theorem dX10_init_36 : decode cX10_init 36 = .ok (.dup, 1) := by decide +kernel
theorem dX10_init_37 : decode cX10_init 37 = .ok (.iconst 1, 1) := by decide +kernel
theorem dX10_init_38 : decode cX10_init 38 = .ok (.sipush 800, 3) := by decide +kernel
theorem dX10_init_41 : decode cX10_init 41 = .ok (.iastore, 1) := by decide +kernel
theorem dX10_init_42 : decode cX10_init 42 = .ok (.dup, 1) := by decide +kernel
theorem dX10_init_43 : decode cX10_init 43 = .ok (.iconst 2, 1) := by decide +kernel
theorem dX10_init_44 : decode cX10_init 44 = .ok (.bipush 40, 2) := by decide +kernel
theorem dX10_init_46 : decode cX10_init 46 = .ok (.iastore, 1) := by decide +kernel
theorem dX10_init_47 : decode cX10_init 47 = .ok (.dup, 1) := by decide +kernel
theorem dX10_init_48 : decode cX10_init 48 = .ok (.iconst 3, 1) := by decide +kernel
theorem dX10_init_49 : decode cX10_init 49 = .ok (.bipush 10, 2) := by decide +kernel
theorem dX10_init_51 : decode cX10_init 51 = .ok (.iastore, 1) := by decide +kernel
theorem dX10_init_52 : decode cX10_init 52 = .ok (.dup, 1) := by decide +kernel
theorem dX10_init_53 : decode cX10_init 53 = .ok (.iconst 4, 1) := by decide +kernel
theorem dX10_init_54 : decode cX10_init 54 = .ok (.sipush 1000, 3) := by decide +kernel
theorem dX10_init_57 : decode cX10_init 57 = .ok (.iastore, 1) := by decide +kernel
theorem dX10_init_58 : decode cX10_init 58 = .ok (.dup, 1) := by decide +kernel
theorem dX10_init_59 : decode cX10_init 59 = .ok (.iconst 5, 1) := by decide +kernel
theorem dX10_init_60 : decode cX10_init 60 = .ok (.iconst 5, 1) := by decide +kernel
theorem dX10_init_61 : decode cX10_init 61 = .ok (.iastore, 1) := by decide +kernel
theorem dX10_init_62 : decode cX10_init 62 = .ok (.dup, 1) := by decide +kernel
theorem dX10_init_63 : decode cX10_init 63 = .ok (.bipush 6, 2) := by decide +kernel
theorem dX10_init_65 : decode cX10_init 65 = .ok (.iconst 4, 1) := by decide +kernel
theorem dX10_init_66 : decode cX10_init 66 = .ok (.iastore, 1) := by decide +kernel
theorem dX10_init_67 : decode cX10_init 67 = .ok (.putfield 23, 3) := by decide +kernel
theorem dX10_init_70 : decode cX10_init 70 = .ok (.aload_n 0, 1) := by decide +kernel
theorem dX10_init_71 : decode cX10_init 71 = .ok (.new 27, 3) := by decide +kernel
theorem dX10_init_74 : decode cX10_init 74 = .ok (.dup, 1) := by decide +kernel
theorem dX10_init_75 : decode cX10_init 75 = .ok (.invokespecial 29, 3) := by decide +kernel
theorem dX10_init_78 : decode cX10_init 78 = .ok (.putfield 30, 3) := by decide +kernel
theorem dX10_init_81 : decode cX10_init 81 = .ok (.aload_n 0, 1) := by decide +kernel
theorem dX10_init_82 : decode cX10_init 82 = .ok (.new 34, 3) := by decide +kernel
theorem dX10_init_85 : decode cX10_init 85 = .ok (.dup, 1) := by decide +kernel
theorem dX10_init_86 : decode cX10_init 86 = .ok (.invokespecial 36, 3) := by decide +kernel
theorem dX10_init_89 : decode cX10_init 89 = .ok (.putfield 37, 3) := by decide +kernel
theorem dX10_init_92 : decode cX10_init 92 = .ok (.aload_n 0, 1) := by decide +kernel
theorem dX10_init_93 : decode cX10_init 93 = .ok (.new 41, 3) := by decide +kernel
theorem dX10_init_96 : decode cX10_init 96 = .ok (.dup, 1) := by decide +kernel
theorem dX10_init_97 : decode cX10_init 97 = .ok (.invokespecial 43, 3) := by decide +kernel
theorem dX10_init_100 : decode cX10_init 100 = .ok (.putfield 44, 3) := by decide +kernel
theorem dX10_init_103 : decode cX10_init 103 = .ok (.aload_n 0, 1) := by decide +kernel
theorem dX10_init_104 : decode cX10_init 104 = .ok (.iconst 5, 1) := by decide +kernel
theorem dX10_init_105 : decode cX10_init 105 = .ok (.newarray .int, 2) := by decide +kernel
theorem dX10_init_107 : decode cX10_init 107 = .ok (.putfield 48, 3) := by decide +kernel
theorem dX10_init_110 : decode cX10_init 110 = .ok (.aload_n 0, 1) := by decide +kernel
theorem dX10_init_111 : decode cX10_init 111 = .ok (.new 51, 3) := by decide +kernel
theorem dX10_init_114 : decode cX10_init 114 = .ok (.dup, 1) := by decide +kernel
theorem dX10_init_115 : decode cX10_init 115 = .ok (.invokespecial 53, 3) := by decide +kernel
theorem dX10_init_118 : decode cX10_init 118 = .ok (.putfield 54, 3) := by decide +kernel
theorem dX10_init_121 : decode cX10_init 121 = .ok (.aload_n 0, 1) := by decide +kernel
theorem dX10_init_122 : decode cX10_init 122 = .ok (.new 58, 3) := by decide +kernel
theorem dX10_init_125 : decode cX10_init 125 = .ok (.dup, 1) := by decide +kernel
theorem dX10_init_126 : decode cX10_init 126 = .ok (.invokespecial 60, 3) := by decide +kernel
theorem dX10_init_129 : decode cX10_init 129 = .ok (.putfield 61, 3) := by decide +kernel
theorem dX10_init_132 : decode cX10_init 132 = .ok (.aload_n 0, 1) := by decide +kernel
theorem dX10_init_133 : decode cX10_init 133 = .ok (.new 65, 3) := by decide +kernel
theorem dX10_init_136 : decode cX10_init 136 = .ok (.dup, 1) := by decide +kernel
theorem dX10_init_137 : decode cX10_init 137 = .ok (.invokespecial 67, 3) := by decide +kernel
theorem dX10_init_140 : decode cX10_init 140 = .ok (.putfield 68, 3) := by decide +kernel
theorem dX10_init_143 : decode cX10_init 143 = .ok (.aload_n 0, 1) := by decide +kernel
theorem dX10_init_144 : decode cX10_init 144 = .ok (.new 65, 3) := by decide +kernel
theorem dX10_init_147 : decode cX10_init 147 = .ok (.dup, 1) := by decide +kernel
theorem dX10_init_148 : decode cX10_init 148 = .ok (.invokespecial 67, 3) := by decide +kernel
theorem dX10_init_151 : decode cX10_init 151 = .ok (.putfield 72, 3) := by decide +kernel
theorem dX10_init_154 : decode cX10_init 154 = .ok (.aload_n 0, 1) := by decide +kernel
theorem dX10_init_155 : decode cX10_init 155 = .ok (.new 75, 3) := by decide +kernel
theorem dX10_init_158 : decode cX10_init 158 = .ok (.dup, 1) := by decide +kernel
theorem dX10_init_159 : decode cX10_init 159 = .ok (.invokespecial 77, 3) := by decide +kernel
theorem dX10_init_162 : decode cX10_init 162 = .ok (.putfield 78, 3) := by decide +kernel
theorem dX10_init_165 : decode cX10_init 165 = .ok (.aload_n 0, 1) := by decide +kernel
theorem dX10_init_166 : decode cX10_init 166 = .ok (.new 82, 3) := by decide +kernel
theorem dX10_init_169 : decode cX10_init 169 = .ok (.dup, 1) := by decide +kernel
theorem dX10_init_170 : decode cX10_init 170 = .ok (.invokespecial 84, 3) := by decide +kernel
theorem dX10_init_173 : decode cX10_init 173 = .ok (.putfield 85, 3) := by decide +kernel
theorem dX10_init_176 : decode cX10_init 176 = .ok (.return_, 1) := by decide +kernel
theorem dX10_say_0 : decode cX10_say 0 = .ok (.iload_n 1, 1) := by decide +kernel
theorem dX10_say_1 : decode cX10_say 1 = .ok (.bipush 33, 2) := by decide +kernel
theorem dX10_say_3 : decode cX10_say 3 = .ok (.bipush 126, 2) := by decide +kernel
theorem dX10_say_5 : decode cX10_say 5 = .ok (.invokestatic 89, 3) := by decide +kernel
theorem dX10_say_8 : decode cX10_say 8 = .ok (.ifCond .ne 6, 3) := by decide +kernel
theorem dX10_say_11 : decode cX10_say 11 = .ok (.bipush (-2), 2) := by decide +kernel
theorem dX10_say_13 : decode cX10_say 13 = .ok (.ireturn, 1) := by decide +kernel
theorem dX10_say_14 : decode cX10_say 14 = .ok (.aload_n 0, 1) := by decide +kernel
theorem dX10_say_15 : decode cX10_say 15 = .ok (.getfield 10, 3) := by decide +kernel
theorem dX10_say_18 : decode cX10_say 18 = .ok (.getfield 93, 3) := by decide +kernel
theorem dX10_say_21 : decode cX10_say 21 = .ok (.bipush 60, 2) := by decide +kernel
theorem dX10_say_23 : decode cX10_say 23 = .ok (.if_icmp .lt 6, 3) := by decide +kernel
theorem dX10_say_26 : decode cX10_say 26 = .ok (.bipush (-4), 2) := by decide +kernel
theorem dX10_say_28 : decode cX10_say 28 = .ok (.ireturn, 1) := by decide +kernel
theorem dX10_say_29 : decode cX10_say 29 = .ok (.aload_n 0, 1) := by decide +kernel
theorem dX10_say_30 : decode cX10_say 30 = .ok (.getfield 10, 3) := by decide +kernel
theorem dX10_say_33 : decode cX10_say 33 = .ok (.iload_n 1, 1) := by decide +kernel
theorem dX10_say_34 : decode cX10_say 34 = .ok (.invokevirtual 97, 3) := by decide +kernel
theorem dX10_say_37 : decode cX10_say 37 = .ok (.ireturn, 1) := by decide +kernel
theorem dX10_wipe_0 : decode cX10_wipe 0 = .ok (.aload_n 0, 1) := by decide +kernel
theorem dX10_wipe_1 : decode cX10_wipe 1 = .ok (.getfield 10, 3) := by decide +kernel
theorem dX10_wipe_4 : decode cX10_wipe 4 = .ok (.invokevirtual 101, 3) := by decide +kernel
theorem dX10_wipe_7 : decode cX10_wipe 7 = .ok (.ireturn, 1) := by decide +kernel
theorem dX10_fault_0 : decode cX10_fault 0 = .ok (.aload_n 0, 1) := by decide +kernel
theorem dX10_fault_1 : decode cX10_fault 1 = .ok (.getfield 10, 3) := by decide +kernel
theorem dX10_fault_4 : decode cX10_fault 4 = .ok (.invokevirtual 105, 3) := by decide +kernel
theorem dX10_fault_7 : decode cX10_fault 7 = .ok (.ireturn, 1) := by decide +kernel
theorem dX10_act_0 : decode cX10_act 0 = .ok (.iload_n 1, 1) := by decide +kernel
theorem dX10_act_1 : decode cX10_act 1 = .ok (.invokestatic 108, 3) := by decide +kernel
theorem dX10_act_4 : decode cX10_act 4 = .ok (.ifCond .ne 6, 3) := by decide +kernel
theorem dX10_act_7 : decode cX10_act 7 = .ok (.bipush (-2), 2) := by decide +kernel
theorem dX10_act_9 : decode cX10_act 9 = .ok (.ireturn, 1) := by decide +kernel
theorem dX10_act_10 : decode cX10_act 10 = .ok (.aload_n 0, 1) := by decide +kernel
theorem dX10_act_11 : decode cX10_act 11 = .ok (.getfield 19, 3) := by decide +kernel
theorem dX10_act_14 : decode cX10_act 14 = .ok (.getfield 112, 3) := by decide +kernel
theorem dX10_act_17 : decode cX10_act 17 = .ok (.bipush 8, 2) := by decide +kernel
theorem dX10_act_19 : decode cX10_act 19 = .ok (.if_icmp .lt 6, 3) := by decide +kernel
theorem dX10_act_22 : decode cX10_act 22 = .ok (.bipush (-4), 2) := by decide +kernel
theorem dX10_act_24 : decode cX10_act 24 = .ok (.ireturn, 1) := by decide +kernel
theorem dX10_act_25 : decode cX10_act 25 = .ok (.aload_n 0, 1) := by decide +kernel
theorem dX10_act_26 : decode cX10_act 26 = .ok (.getfield 10, 3) := by decide +kernel
theorem dX10_act_29 : decode cX10_act 29 = .ok (.invokevirtual 105, 3) := by decide +kernel
theorem dX10_act_32 : decode cX10_act 32 = .ok (.bipush (-6), 2) := by decide +kernel
theorem dX10_act_34 : decode cX10_act 34 = .ok (.if_icmp .eq 6, 3) := by decide +kernel
theorem dX10_act_37 : decode cX10_act 37 = .ok (.bipush (-5), 2) := by decide +kernel
theorem dX10_act_39 : decode cX10_act 39 = .ok (.ireturn, 1) := by decide +kernel
theorem dX10_act_40 : decode cX10_act 40 = .ok (.aload_n 0, 1) := by decide +kernel
theorem dX10_act_41 : decode cX10_act 41 = .ok (.getfield 19, 3) := by decide +kernel
theorem dX10_act_44 : decode cX10_act 44 = .ok (.iload_n 1, 1) := by decide +kernel
theorem dX10_act_45 : decode cX10_act 45 = .ok (.aload_n 0, 1) := by decide +kernel
theorem dX10_act_46 : decode cX10_act 46 = .ok (.getfield 10, 3) := by decide +kernel
theorem dX10_act_49 : decode cX10_act 49 = .ok (.invokevirtual 113, 3) := by decide +kernel
theorem dX10_act_52 : decode cX10_act 52 = .ok (.aload_n 0, 1) := by decide +kernel
theorem dX10_act_53 : decode cX10_act 53 = .ok (.getfield 10, 3) := by decide +kernel
theorem dX10_act_56 : decode cX10_act 56 = .ok (.invokevirtual 101, 3) := by decide +kernel
theorem dX10_act_59 : decode cX10_act 59 = .ok (.pop, 1) := by decide +kernel
theorem dX10_act_60 : decode cX10_act 60 = .ok (.aload_n 0, 1) := by decide +kernel
theorem dX10_act_61 : decode cX10_act 61 = .ok (.getfield 19, 3) := by decide +kernel
theorem dX10_act_64 : decode cX10_act 64 = .ok (.getfield 112, 3) := by decide +kernel
theorem dX10_act_67 : decode cX10_act 67 = .ok (.ireturn, 1) := by decide +kernel
theorem dX10_brand_0 : decode cX10_brand 0 = .ok (.iload_n 1, 1) := by decide +kernel
theorem dX10_brand_1 : decode cX10_brand 1 = .ok (.invokestatic 116, 3) := by decide +kernel
theorem dX10_brand_4 : decode cX10_brand 4 = .ok (.ifCond .ne 5, 3) := by decide +kernel
theorem dX10_brand_7 : decode cX10_brand 7 = .ok (.iconst (-1), 1) := by decide +kernel
theorem dX10_brand_8 : decode cX10_brand 8 = .ok (.ireturn, 1) := by decide +kernel
theorem dX10_brand_9 : decode cX10_brand 9 = .ok (.aload_n 0, 1) := by decide +kernel
theorem dX10_brand_10 : decode cX10_brand 10 = .ok (.invokevirtual 119, 3) := by decide +kernel
theorem dX10_brand_13 : decode cX10_brand 13 = .ok (.iload_n 2, 1) := by decide +kernel
theorem dX10_brand_14 : decode cX10_brand 14 = .ok (.iconst 0, 1) := by decide +kernel
theorem dX10_brand_15 : decode cX10_brand 15 = .ok (.aload_n 0, 1) := by decide +kernel
theorem dX10_brand_16 : decode cX10_brand 16 = .ok (.iload_n 1, 1) := by decide +kernel
theorem dX10_brand_17 : decode cX10_brand 17 = .ok (.invokevirtual 122, 3) := by decide +kernel
theorem dX10_brand_20 : decode cX10_brand 20 = .ok (.iconst 1, 1) := by decide +kernel
theorem dX10_brand_21 : decode cX10_brand 21 = .ok (.isub, 1) := by decide +kernel
theorem dX10_brand_22 : decode cX10_brand 22 = .ok (.invokestatic 89, 3) := by decide +kernel
theorem dX10_brand_25 : decode cX10_brand 25 = .ok (.ifCond .ne 5, 3) := by decide +kernel
theorem dX10_brand_28 : decode cX10_brand 28 = .ok (.iconst (-1), 1) := by decide +kernel
theorem dX10_brand_29 : decode cX10_brand 29 = .ok (.ireturn, 1) := by decide +kernel
theorem dX10_brand_30 : decode cX10_brand 30 = .ok (.iload_n 3, 1) := by decide +kernel
theorem dX10_brand_31 : decode cX10_brand 31 = .ok (.invokestatic 108, 3) := by decide +kernel
theorem dX10_brand_34 : decode cX10_brand 34 = .ok (.ifCond .ne 6, 3) := by decide +kernel
theorem dX10_brand_37 : decode cX10_brand 37 = .ok (.bipush (-2), 2) := by decide +kernel
theorem dX10_brand_39 : decode cX10_brand 39 = .ok (.ireturn, 1) := by decide +kernel
theorem dX10_brand_40 : decode cX10_brand 40 = .ok (.aload_n 0, 1) := by decide +kernel
theorem dX10_brand_41 : decode cX10_brand 41 = .ok (.iload_n 1, 1) := by decide +kernel
theorem dX10_brand_42 : decode cX10_brand 42 = .ok (.iload_n 2, 1) := by decide +kernel
theorem dX10_brand_43 : decode cX10_brand 43 = .ok (.invokevirtual 125, 3) := by decide +kernel
theorem dX10_brand_46 : decode cX10_brand 46 = .ok (.aload_n 0, 1) := by decide +kernel
theorem dX10_brand_47 : decode cX10_brand 47 = .ok (.iload_n 3, 1) := by decide +kernel
theorem dX10_brand_48 : decode cX10_brand 48 = .ok (.invokevirtual 129, 3) := by decide +kernel
theorem dX10_brand_51 : decode cX10_brand 51 = .ok (.ireturn, 1) := by decide +kernel
theorem dX10_grade_0 : decode cX10_grade 0 = .ok (.iload_n 1, 1) := by decide +kernel
theorem dX10_grade_1 : decode cX10_grade 1 = .ok (.invokestatic 108, 3) := by decide +kernel
theorem dX10_grade_4 : decode cX10_grade 4 = .ok (.ifCond .ne 6, 3) := by decide +kernel
theorem dX10_grade_7 : decode cX10_grade 7 = .ok (.bipush (-2), 2) := by decide +kernel
theorem dX10_grade_9 : decode cX10_grade 9 = .ok (.ireturn, 1) := by decide +kernel
theorem dX10_grade_10 : decode cX10_grade 10 = .ok (.iload_n 2, 1) := by decide +kernel
theorem dX10_grade_11 : decode cX10_grade 11 = .ok (.iconst (-1), 1) := by decide +kernel
theorem dX10_grade_12 : decode cX10_grade 12 = .ok (.if_icmp .ne 14, 3) := by decide +kernel
theorem dX10_grade_15 : decode cX10_grade 15 = .ok (.aload_n 0, 1) := by decide +kernel
theorem dX10_grade_16 : decode cX10_grade 16 = .ok (.getfield 19, 3) := by decide +kernel
theorem dX10_grade_19 : decode cX10_grade 19 = .ok (.iload_n 1, 1) := by decide +kernel
theorem dX10_grade_20 : decode cX10_grade 20 = .ok (.invokevirtual 132, 3) := by decide +kernel
theorem dX10_grade_23 : decode cX10_grade 23 = .ok (.goto 12, 3) := by decide +kernel
theorem dX10_grade_26 : decode cX10_grade 26 = .ok (.aload_n 0, 1) := by decide +kernel
theorem dX10_grade_27 : decode cX10_grade 27 = .ok (.getfield 19, 3) := by decide +kernel
theorem dX10_grade_30 : decode cX10_grade 30 = .ok (.iload_n 1, 1) := by decide +kernel
theorem dX10_grade_31 : decode cX10_grade 31 = .ok (.iload_n 2, 1) := by decide +kernel
theorem dX10_grade_32 : decode cX10_grade 32 = .ok (.invokevirtual 135, 3) := by decide +kernel
theorem dX10_grade_35 : decode cX10_grade 35 = .ok (.ireturn, 1) := by decide +kernel
theorem dX10_set_0 : decode cX10_set 0 = .ok (.iload_n 1, 1) := by decide +kernel
theorem dX10_set_1 : decode cX10_set 1 = .ok (.invokestatic 116, 3) := by decide +kernel
theorem dX10_set_4 : decode cX10_set 4 = .ok (.ifCond .ne 5, 3) := by decide +kernel
theorem dX10_set_7 : decode cX10_set 7 = .ok (.iconst (-1), 1) := by decide +kernel
theorem dX10_set_8 : decode cX10_set 8 = .ok (.ireturn, 1) := by decide +kernel
theorem dX10_set_9 : decode cX10_set 9 = .ok (.iload_n 2, 1) := by decide +kernel
theorem dX10_set_10 : decode cX10_set 10 = .ok (.iconst 0, 1) := by decide +kernel
theorem dX10_set_11 : decode cX10_set 11 = .ok (.iconst 1, 1) := by decide +kernel
theorem dX10_set_12 : decode cX10_set 12 = .ok (.invokestatic 89, 3) := by decide +kernel
theorem dX10_set_15 : decode cX10_set 15 = .ok (.ifCond .eq 23, 3) := by decide +kernel
theorem dX10_set_18 : decode cX10_set 18 = .ok (.iload_n 3, 1) := by decide +kernel
theorem dX10_set_19 : decode cX10_set 19 = .ok (.iconst 1, 1) := by decide +kernel
theorem dX10_set_20 : decode cX10_set 20 = .ok (.iload_n 2, 1) := by decide +kernel
theorem dX10_set_21 : decode cX10_set 21 = .ok (.ifCond .ne 8, 3) := by decide +kernel
theorem dX10_set_24 : decode cX10_set 24 = .ok (.bipush 9, 2) := by decide +kernel
theorem dX10_set_26 : decode cX10_set 26 = .ok (.goto 6, 3) := by decide +kernel
theorem dX10_set_29 : decode cX10_set 29 = .ok (.sipush 2000, 3) := by decide +kernel
theorem dX10_set_32 : decode cX10_set 32 = .ok (.invokestatic 89, 3) := by decide +kernel
theorem dX10_set_35 : decode cX10_set 35 = .ok (.ifCond .ne 6, 3) := by decide +kernel
theorem dX10_set_38 : decode cX10_set 38 = .ok (.bipush (-2), 2) := by decide +kernel
theorem dX10_set_40 : decode cX10_set 40 = .ok (.ireturn, 1) := by decide +kernel
theorem dX10_set_41 : decode cX10_set 41 = .ok (.iload_n 2, 1) := by decide +kernel
theorem dX10_set_42 : decode cX10_set 42 = .ok (.ifCond .ne 13, 3) := by decide +kernel
theorem dX10_set_45 : decode cX10_set 45 = .ok (.aload_n 0, 1) := by decide +kernel
theorem dX10_set_46 : decode cX10_set 46 = .ok (.getfield 30, 3) := by decide +kernel
theorem dX10_set_49 : decode cX10_set 49 = .ok (.getfield 139, 3) := by decide +kernel
theorem dX10_set_52 : decode cX10_set 52 = .ok (.goto 10, 3) := by decide +kernel
theorem dX10_set_55 : decode cX10_set 55 = .ok (.aload_n 0, 1) := by decide +kernel
theorem dX10_set_56 : decode cX10_set 56 = .ok (.getfield 30, 3) := by decide +kernel
theorem dX10_set_59 : decode cX10_set 59 = .ok (.getfield 142, 3) := by decide +kernel
theorem dX10_set_62 : decode cX10_set 62 = .ok (.astore 4, 2) := by decide +kernel
theorem dX10_set_64 : decode cX10_set 64 = .ok (.aload 4, 2) := by decide +kernel
theorem dX10_set_66 : decode cX10_set 66 = .ok (.iload_n 1, 1) := by decide +kernel
theorem dX10_set_67 : decode cX10_set 67 = .ok (.iaload, 1) := by decide +kernel
theorem dX10_set_68 : decode cX10_set 68 = .ok (.istore 5, 2) := by decide +kernel
theorem dX10_set_70 : decode cX10_set 70 = .ok (.aload 4, 2) := by decide +kernel
theorem dX10_set_72 : decode cX10_set 72 = .ok (.iload_n 1, 1) := by decide +kernel
theorem dX10_set_73 : decode cX10_set 73 = .ok (.iload_n 3, 1) := by decide +kernel
theorem dX10_set_74 : decode cX10_set 74 = .ok (.iastore, 1) := by decide +kernel
theorem dX10_set_75 : decode cX10_set 75 = .ok (.iload 5, 2) := by decide +kernel
theorem dX10_set_77 : decode cX10_set 77 = .ok (.ireturn, 1) := by decide +kernel
theorem dX10_rule_0 : decode cX10_rule 0 = .ok (.iload_n 1, 1) := by decide +kernel
theorem dX10_rule_1 : decode cX10_rule 1 = .ok (.iconst 0, 1) := by decide +kernel
theorem dX10_rule_2 : decode cX10_rule 2 = .ok (.bipush 6, 2) := by decide +kernel
theorem dX10_rule_4 : decode cX10_rule 4 = .ok (.invokestatic 89, 3) := by decide +kernel
theorem dX10_rule_7 : decode cX10_rule 7 = .ok (.ifCond .eq 20, 3) := by decide +kernel
theorem dX10_rule_10 : decode cX10_rule 10 = .ok (.iload_n 2, 1) := by decide +kernel
theorem dX10_rule_11 : decode cX10_rule 11 = .ok (.getstatic 145, 3) := by decide +kernel
theorem dX10_rule_14 : decode cX10_rule 14 = .ok (.iload_n 1, 1) := by decide +kernel
theorem dX10_rule_15 : decode cX10_rule 15 = .ok (.iaload, 1) := by decide +kernel
theorem dX10_rule_16 : decode cX10_rule 16 = .ok (.getstatic 148, 3) := by decide +kernel
theorem dX10_rule_19 : decode cX10_rule 19 = .ok (.iload_n 1, 1) := by decide +kernel
theorem dX10_rule_20 : decode cX10_rule 20 = .ok (.iaload, 1) := by decide +kernel
theorem dX10_rule_21 : decode cX10_rule 21 = .ok (.invokestatic 89, 3) := by decide +kernel
theorem dX10_rule_24 : decode cX10_rule 24 = .ok (.ifCond .ne 6, 3) := by decide +kernel
theorem dX10_rule_27 : decode cX10_rule 27 = .ok (.bipush (-2), 2) := by decide +kernel
theorem dX10_rule_29 : decode cX10_rule 29 = .ok (.ireturn, 1) := by decide +kernel
theorem dX10_rule_30 : decode cX10_rule 30 = .ok (.aload_n 0, 1) := by decide +kernel
theorem dX10_rule_31 : decode cX10_rule 31 = .ok (.getfield 23, 3) := by decide +kernel
theorem dX10_rule_34 : decode cX10_rule 34 = .ok (.iload_n 1, 1) := by decide +kernel
theorem dX10_rule_35 : decode cX10_rule 35 = .ok (.iaload, 1) := by decide +kernel
theorem dX10_rule_36 : decode cX10_rule 36 = .ok (.istore_n 3, 1) := by decide +kernel
theorem dX10_rule_37 : decode cX10_rule 37 = .ok (.aload_n 0, 1) := by decide +kernel
theorem dX10_rule_38 : decode cX10_rule 38 = .ok (.getfield 23, 3) := by decide +kernel
theorem dX10_rule_41 : decode cX10_rule 41 = .ok (.iload_n 1, 1) := by decide +kernel
theorem dX10_rule_42 : decode cX10_rule 42 = .ok (.iload_n 2, 1) := by decide +kernel
theorem dX10_rule_43 : decode cX10_rule 43 = .ok (.iastore, 1) := by decide +kernel
theorem dX10_rule_44 : decode cX10_rule 44 = .ok (.iload_n 3, 1) := by decide +kernel
theorem dX10_rule_45 : decode cX10_rule 45 = .ok (.ireturn, 1) := by decide +kernel
theorem dX10_land_0 : decode cX10_land 0 = .ok (.iload_n 1, 1) := by decide +kernel
theorem dX10_land_1 : decode cX10_land 1 = .ok (.invokestatic 151, 3) := by decide +kernel
theorem dX10_land_4 : decode cX10_land 4 = .ok (.ifCond .eq 10, 3) := by decide +kernel
theorem dX10_land_7 : decode cX10_land 7 = .ok (.iload_n 2, 1) := by decide +kernel
theorem dX10_land_8 : decode cX10_land 8 = .ok (.invokestatic 154, 3) := by decide +kernel
theorem dX10_land_11 : decode cX10_land 11 = .ok (.ifCond .ne 5, 3) := by decide +kernel
theorem dX10_land_14 : decode cX10_land 14 = .ok (.iconst (-1), 1) := by decide +kernel
theorem dX10_land_15 : decode cX10_land 15 = .ok (.ireturn, 1) := by decide +kernel
theorem dX10_land_16 : decode cX10_land 16 = .ok (.iload_n 3, 1) := by decide +kernel
theorem dX10_land_17 : decode cX10_land 17 = .ok (.invokestatic 157, 3) := by decide +kernel
theorem dX10_land_20 : decode cX10_land 20 = .ok (.ifCond .eq 26, 3) := by decide +kernel
theorem dX10_land_23 : decode cX10_land 23 = .ok (.iload 4, 2) := by decide +kernel
theorem dX10_land_25 : decode cX10_land 25 = .ok (.iconst 1, 1) := by decide +kernel
theorem dX10_land_26 : decode cX10_land 26 = .ok (.sipush 20000, 3) := by decide +kernel
theorem dX10_land_29 : decode cX10_land 29 = .ok (.invokestatic 89, 3) := by decide +kernel
theorem dX10_land_32 : decode cX10_land 32 = .ok (.ifCond .eq 14, 3) := by decide +kernel
theorem dX10_land_35 : decode cX10_land 35 = .ok (.iload 5, 2) := by decide +kernel
theorem dX10_land_37 : decode cX10_land 37 = .ok (.iconst 1, 1) := by decide +kernel
theorem dX10_land_38 : decode cX10_land 38 = .ok (.bipush 9, 2) := by decide +kernel
theorem dX10_land_40 : decode cX10_land 40 = .ok (.invokestatic 89, 3) := by decide +kernel
theorem dX10_land_43 : decode cX10_land 43 = .ok (.ifCond .ne 6, 3) := by decide +kernel
theorem dX10_land_46 : decode cX10_land 46 = .ok (.bipush (-2), 2) := by decide +kernel
theorem dX10_land_48 : decode cX10_land 48 = .ok (.ireturn, 1) := by decide +kernel
theorem dX10_land_49 : decode cX10_land 49 = .ok (.aload_n 0, 1) := by decide +kernel
theorem dX10_land_50 : decode cX10_land 50 = .ok (.getfield 30, 3) := by decide +kernel
theorem dX10_land_53 : decode cX10_land 53 = .ok (.getfield 160, 3) := by decide +kernel
theorem dX10_land_56 : decode cX10_land 56 = .ok (.bipush 30, 2) := by decide +kernel
theorem dX10_land_58 : decode cX10_land 58 = .ok (.if_icmp .lt 6, 3) := by decide +kernel
theorem dX10_land_61 : decode cX10_land 61 = .ok (.bipush (-4), 2) := by decide +kernel
theorem dX10_land_63 : decode cX10_land 63 = .ok (.ireturn, 1) := by decide +kernel
theorem dX10_land_64 : decode cX10_land 64 = .ok (.iload_n 2, 1) := by decide +kernel
theorem dX10_land_65 : decode cX10_land 65 = .ok (.iconst (-1), 1) := by decide +kernel
theorem dX10_land_66 : decode cX10_land 66 = .ok (.if_icmp .ne 17, 3) := by decide +kernel
theorem dX10_land_69 : decode cX10_land 69 = .ok (.aload_n 0, 1) := by decide +kernel
theorem dX10_land_70 : decode cX10_land 70 = .ok (.getfield 30, 3) := by decide +kernel
theorem dX10_land_73 : decode cX10_land 73 = .ok (.invokevirtual 161, 3) := by decide +kernel
theorem dX10_land_76 : decode cX10_land 76 = .ok (.iconst 5, 1) := by decide +kernel
theorem dX10_land_77 : decode cX10_land 77 = .ok (.if_icmp .lt 6, 3) := by decide +kernel
theorem dX10_land_80 : decode cX10_land 80 = .ok (.bipush (-5), 2) := by decide +kernel
theorem dX10_land_82 : decode cX10_land 82 = .ok (.ireturn, 1) := by decide +kernel
theorem dX10_land_83 : decode cX10_land 83 = .ok (.aload_n 0, 1) := by decide +kernel
theorem dX10_land_84 : decode cX10_land 84 = .ok (.getfield 30, 3) := by decide +kernel
theorem dX10_land_87 : decode cX10_land 87 = .ok (.iload_n 1, 1) := by decide +kernel
theorem dX10_land_88 : decode cX10_land 88 = .ok (.iload_n 2, 1) := by decide +kernel
theorem dX10_land_89 : decode cX10_land 89 = .ok (.iload_n 3, 1) := by decide +kernel
theorem dX10_land_90 : decode cX10_land 90 = .ok (.iload 4, 2) := by decide +kernel
theorem dX10_land_92 : decode cX10_land 92 = .ok (.iload 5, 2) := by decide +kernel
theorem dX10_land_94 : decode cX10_land 94 = .ok (.invokevirtual 164, 3) := by decide +kernel
theorem dX10_land_97 : decode cX10_land 97 = .ok (.ireturn, 1) := by decide +kernel
theorem dX10_lead_0 : decode cX10_lead 0 = .ok (.aload_n 0, 1) := by decide +kernel
theorem dX10_lead_1 : decode cX10_lead 1 = .ok (.iload_n 1, 1) := by decide +kernel
theorem dX10_lead_2 : decode cX10_lead 2 = .ok (.invokevirtual 167, 3) := by decide +kernel
theorem dX10_lead_5 : decode cX10_lead 5 = .ok (.ifCond .eq 10, 3) := by decide +kernel
theorem dX10_lead_8 : decode cX10_lead 8 = .ok (.iload_n 2, 1) := by decide +kernel
theorem dX10_lead_9 : decode cX10_lead 9 = .ok (.invokestatic 154, 3) := by decide +kernel
theorem dX10_lead_12 : decode cX10_lead 12 = .ok (.ifCond .ne 5, 3) := by decide +kernel
theorem dX10_lead_15 : decode cX10_lead 15 = .ok (.iconst (-1), 1) := by decide +kernel
theorem dX10_lead_16 : decode cX10_lead 16 = .ok (.ireturn, 1) := by decide +kernel
theorem dX10_lead_17 : decode cX10_lead 17 = .ok (.aload_n 0, 1) := by decide +kernel
theorem dX10_lead_18 : decode cX10_lead 18 = .ok (.getfield 30, 3) := by decide +kernel
theorem dX10_lead_21 : decode cX10_lead 21 = .ok (.getfield 170, 3) := by decide +kernel
theorem dX10_lead_24 : decode cX10_lead 24 = .ok (.iload_n 1, 1) := by decide +kernel
theorem dX10_lead_25 : decode cX10_lead 25 = .ok (.iaload, 1) := by decide +kernel
theorem dX10_lead_26 : decode cX10_lead 26 = .ok (.istore_n 3, 1) := by decide +kernel
theorem dX10_lead_27 : decode cX10_lead 27 = .ok (.iload_n 2, 1) := by decide +kernel
theorem dX10_lead_28 : decode cX10_lead 28 = .ok (.iconst (-1), 1) := by decide +kernel
theorem dX10_lead_29 : decode cX10_lead 29 = .ok (.if_icmp .ne 22, 3) := by decide +kernel
theorem dX10_lead_32 : decode cX10_lead 32 = .ok (.iload_n 3, 1) := by decide +kernel
theorem dX10_lead_33 : decode cX10_lead 33 = .ok (.iconst (-1), 1) := by decide +kernel
theorem dX10_lead_34 : decode cX10_lead 34 = .ok (.if_icmp .eq 17, 3) := by decide +kernel
theorem dX10_lead_37 : decode cX10_lead 37 = .ok (.aload_n 0, 1) := by decide +kernel
theorem dX10_lead_38 : decode cX10_lead 38 = .ok (.getfield 30, 3) := by decide +kernel
theorem dX10_lead_41 : decode cX10_lead 41 = .ok (.invokevirtual 161, 3) := by decide +kernel
theorem dX10_lead_44 : decode cX10_lead 44 = .ok (.iconst 5, 1) := by decide +kernel
theorem dX10_lead_45 : decode cX10_lead 45 = .ok (.if_icmp .lt 6, 3) := by decide +kernel
theorem dX10_lead_48 : decode cX10_lead 48 = .ok (.bipush (-5), 2) := by decide +kernel
theorem dX10_lead_50 : decode cX10_lead 50 = .ok (.ireturn, 1) := by decide +kernel
theorem dX10_lead_51 : decode cX10_lead 51 = .ok (.aload_n 0, 1) := by decide +kernel
theorem dX10_lead_52 : decode cX10_lead 52 = .ok (.getfield 30, 3) := by decide +kernel
theorem dX10_lead_55 : decode cX10_lead 55 = .ok (.getfield 170, 3) := by decide +kernel
theorem dX10_lead_58 : decode cX10_lead 58 = .ok (.iload_n 1, 1) := by decide +kernel
theorem dX10_lead_59 : decode cX10_lead 59 = .ok (.iload_n 2, 1) := by decide +kernel
theorem dX10_lead_60 : decode cX10_lead 60 = .ok (.iastore, 1) := by decide +kernel
theorem dX10_lead_61 : decode cX10_lead 61 = .ok (.iload_n 3, 1) := by decide +kernel
theorem dX10_lead_62 : decode cX10_lead 62 = .ok (.ireturn, 1) := by decide +kernel
theorem dX10_landing_0 : decode cX10_landing 0 = .ok (.aload_n 0, 1) := by decide +kernel
theorem dX10_landing_1 : decode cX10_landing 1 = .ok (.iload_n 1, 1) := by decide +kernel
theorem dX10_landing_2 : decode cX10_landing 2 = .ok (.invokevirtual 167, 3) := by decide +kernel
theorem dX10_landing_5 : decode cX10_landing 5 = .ok (.ifCond .ne 5, 3) := by decide +kernel
theorem dX10_landing_8 : decode cX10_landing 8 = .ok (.iconst (-1), 1) := by decide +kernel
theorem dX10_landing_9 : decode cX10_landing 9 = .ok (.ireturn, 1) := by decide +kernel
theorem dX10_landing_10 : decode cX10_landing 10 = .ok (.iload_n 2, 1) := by decide +kernel
theorem dX10_landing_11 : decode cX10_landing 11 = .ok (.tableswitch 117 0 6 #[41, 51, 61, 71, 81, 91, 104], 41) := by decide +kernel
theorem dX10_landing_52 : decode cX10_landing 52 = .ok (.aload_n 0, 1) := by decide +kernel
theorem dX10_landing_53 : decode cX10_landing 53 = .ok (.getfield 30, 3) := by decide +kernel
theorem dX10_landing_56 : decode cX10_landing 56 = .ok (.getfield 173, 3) := by decide +kernel
theorem dX10_landing_59 : decode cX10_landing 59 = .ok (.iload_n 1, 1) := by decide +kernel
theorem dX10_landing_60 : decode cX10_landing 60 = .ok (.iaload, 1) := by decide +kernel
theorem dX10_landing_61 : decode cX10_landing 61 = .ok (.ireturn, 1) := by decide +kernel
theorem dX10_landing_62 : decode cX10_landing 62 = .ok (.aload_n 0, 1) := by decide +kernel
theorem dX10_landing_63 : decode cX10_landing 63 = .ok (.getfield 30, 3) := by decide +kernel
theorem dX10_landing_66 : decode cX10_landing 66 = .ok (.getfield 170, 3) := by decide +kernel
theorem dX10_landing_69 : decode cX10_landing 69 = .ok (.iload_n 1, 1) := by decide +kernel
theorem dX10_landing_70 : decode cX10_landing 70 = .ok (.iaload, 1) := by decide +kernel
theorem dX10_landing_71 : decode cX10_landing 71 = .ok (.ireturn, 1) := by decide +kernel
theorem dX10_landing_72 : decode cX10_landing 72 = .ok (.aload_n 0, 1) := by decide +kernel
theorem dX10_landing_73 : decode cX10_landing 73 = .ok (.getfield 30, 3) := by decide +kernel
theorem dX10_landing_76 : decode cX10_landing 76 = .ok (.getfield 175, 3) := by decide +kernel
theorem dX10_landing_79 : decode cX10_landing 79 = .ok (.iload_n 1, 1) := by decide +kernel
theorem dX10_landing_80 : decode cX10_landing 80 = .ok (.iaload, 1) := by decide +kernel
theorem dX10_landing_81 : decode cX10_landing 81 = .ok (.ireturn, 1) := by decide +kernel
theorem dX10_landing_82 : decode cX10_landing 82 = .ok (.aload_n 0, 1) := by decide +kernel
theorem dX10_landing_83 : decode cX10_landing 83 = .ok (.getfield 30, 3) := by decide +kernel
theorem dX10_landing_86 : decode cX10_landing 86 = .ok (.getfield 178, 3) := by decide +kernel
theorem dX10_landing_89 : decode cX10_landing 89 = .ok (.iload_n 1, 1) := by decide +kernel
theorem dX10_landing_90 : decode cX10_landing 90 = .ok (.iaload, 1) := by decide +kernel
theorem dX10_landing_91 : decode cX10_landing 91 = .ok (.ireturn, 1) := by decide +kernel
theorem dX10_landing_92 : decode cX10_landing 92 = .ok (.aload_n 0, 1) := by decide +kernel
theorem dX10_landing_93 : decode cX10_landing 93 = .ok (.getfield 30, 3) := by decide +kernel
theorem dX10_landing_96 : decode cX10_landing 96 = .ok (.getfield 181, 3) := by decide +kernel
theorem dX10_landing_99 : decode cX10_landing 99 = .ok (.iload_n 1, 1) := by decide +kernel
theorem dX10_landing_100 : decode cX10_landing 100 = .ok (.iaload, 1) := by decide +kernel
theorem dX10_landing_101 : decode cX10_landing 101 = .ok (.ireturn, 1) := by decide +kernel
theorem dX10_landing_102 : decode cX10_landing 102 = .ok (.aload_n 0, 1) := by decide +kernel
theorem dX10_landing_103 : decode cX10_landing 103 = .ok (.invokevirtual 119, 3) := by decide +kernel
theorem dX10_landing_106 : decode cX10_landing 106 = .ok (.aload_n 0, 1) := by decide +kernel
theorem dX10_landing_107 : decode cX10_landing 107 = .ok (.getfield 30, 3) := by decide +kernel
theorem dX10_landing_110 : decode cX10_landing 110 = .ok (.iload_n 1, 1) := by decide +kernel
theorem dX10_landing_111 : decode cX10_landing 111 = .ok (.invokevirtual 184, 3) := by decide +kernel
theorem dX10_landing_114 : decode cX10_landing 114 = .ok (.ireturn, 1) := by decide +kernel
theorem dX10_landing_115 : decode cX10_landing 115 = .ok (.aload_n 0, 1) := by decide +kernel
theorem dX10_landing_116 : decode cX10_landing 116 = .ok (.invokevirtual 119, 3) := by decide +kernel
theorem dX10_landing_119 : decode cX10_landing 119 = .ok (.aload_n 0, 1) := by decide +kernel
theorem dX10_landing_120 : decode cX10_landing 120 = .ok (.getfield 30, 3) := by decide +kernel
theorem dX10_landing_123 : decode cX10_landing 123 = .ok (.iload_n 1, 1) := by decide +kernel
theorem dX10_landing_124 : decode cX10_landing 124 = .ok (.invokevirtual 187, 3) := by decide +kernel
theorem dX10_landing_127 : decode cX10_landing 127 = .ok (.ireturn, 1) := by decide +kernel
theorem dX10_landing_128 : decode cX10_landing 128 = .ok (.bipush (-2), 2) := by decide +kernel
theorem dX10_landing_130 : decode cX10_landing 130 = .ok (.ireturn, 1) := by decide +kernel
theorem dX10_salt_0 : decode cX10_salt 0 = .ok (.iload_n 1, 1) := by decide +kernel
theorem dX10_salt_1 : decode cX10_salt 1 = .ok (.invokestatic 116, 3) := by decide +kernel
theorem dX10_salt_4 : decode cX10_salt 4 = .ok (.ifCond .ne 5, 3) := by decide +kernel
theorem dX10_salt_7 : decode cX10_salt 7 = .ok (.iconst (-1), 1) := by decide +kernel
theorem dX10_salt_8 : decode cX10_salt 8 = .ok (.ireturn, 1) := by decide +kernel
theorem dX10_salt_9 : decode cX10_salt 9 = .ok (.iload_n 2, 1) := by decide +kernel
theorem dX10_salt_10 : decode cX10_salt 10 = .ok (.invokestatic 157, 3) := by decide +kernel
theorem dX10_salt_13 : decode cX10_salt 13 = .ok (.ifCond .eq 24, 3) := by decide +kernel
theorem dX10_salt_16 : decode cX10_salt 16 = .ok (.iload_n 3, 1) := by decide +kernel
theorem dX10_salt_17 : decode cX10_salt 17 = .ok (.iconst 0, 1) := by decide +kernel
theorem dX10_salt_18 : decode cX10_salt 18 = .ok (.bipush 9, 2) := by decide +kernel
theorem dX10_salt_20 : decode cX10_salt 20 = .ok (.invokestatic 89, 3) := by decide +kernel
theorem dX10_salt_23 : decode cX10_salt 23 = .ok (.ifCond .eq 14, 3) := by decide +kernel
theorem dX10_salt_26 : decode cX10_salt 26 = .ok (.iload 4, 2) := by decide +kernel
theorem dX10_salt_28 : decode cX10_salt 28 = .ok (.iconst 1, 1) := by decide +kernel
theorem dX10_salt_29 : decode cX10_salt 29 = .ok (.bipush 100, 2) := by decide +kernel
theorem dX10_salt_31 : decode cX10_salt 31 = .ok (.invokestatic 89, 3) := by decide +kernel
theorem dX10_salt_34 : decode cX10_salt 34 = .ok (.ifCond .ne 6, 3) := by decide +kernel
theorem dX10_salt_37 : decode cX10_salt 37 = .ok (.bipush (-2), 2) := by decide +kernel
theorem dX10_salt_39 : decode cX10_salt 39 = .ok (.ireturn, 1) := by decide +kernel
theorem dX10_salt_40 : decode cX10_salt 40 = .ok (.aload_n 0, 1) := by decide +kernel
theorem dX10_salt_41 : decode cX10_salt 41 = .ok (.getfield 44, 3) := by decide +kernel
theorem dX10_salt_44 : decode cX10_salt 44 = .ok (.getfield 190, 3) := by decide +kernel
theorem dX10_salt_47 : decode cX10_salt 47 = .ok (.bipush 12, 2) := by decide +kernel
theorem dX10_salt_49 : decode cX10_salt 49 = .ok (.if_icmp .lt 6, 3) := by decide +kernel
theorem dX10_salt_52 : decode cX10_salt 52 = .ok (.bipush (-4), 2) := by decide +kernel
theorem dX10_salt_54 : decode cX10_salt 54 = .ok (.ireturn, 1) := by decide +kernel
theorem dX10_salt_55 : decode cX10_salt 55 = .ok (.aload_n 0, 1) := by decide +kernel
theorem dX10_salt_56 : decode cX10_salt 56 = .ok (.getfield 44, 3) := by decide +kernel
theorem dX10_salt_59 : decode cX10_salt 59 = .ok (.iload_n 1, 1) := by decide +kernel
theorem dX10_salt_60 : decode cX10_salt 60 = .ok (.iload_n 2, 1) := by decide +kernel
theorem dX10_salt_61 : decode cX10_salt 61 = .ok (.iload_n 3, 1) := by decide +kernel
theorem dX10_salt_62 : decode cX10_salt 62 = .ok (.iload 4, 2) := by decide +kernel
theorem dX10_salt_64 : decode cX10_salt 64 = .ok (.invokevirtual 191, 3) := by decide +kernel
theorem dX10_salt_67 : decode cX10_salt 67 = .ok (.ireturn, 1) := by decide +kernel
theorem dX10_barrel_0 : decode cX10_barrel 0 = .ok (.iload_n 1, 1) := by decide +kernel
theorem dX10_barrel_1 : decode cX10_barrel 1 = .ok (.invokestatic 116, 3) := by decide +kernel
theorem dX10_barrel_4 : decode cX10_barrel 4 = .ok (.ifCond .ne 5, 3) := by decide +kernel
theorem dX10_barrel_7 : decode cX10_barrel 7 = .ok (.iconst (-1), 1) := by decide +kernel
theorem dX10_barrel_8 : decode cX10_barrel 8 = .ok (.ireturn, 1) := by decide +kernel
theorem dX10_barrel_9 : decode cX10_barrel 9 = .ok (.aload_n 0, 1) := by decide +kernel
theorem dX10_barrel_10 : decode cX10_barrel 10 = .ok (.invokevirtual 119, 3) := by decide +kernel
theorem dX10_barrel_13 : decode cX10_barrel 13 = .ok (.aload_n 0, 1) := by decide +kernel
theorem dX10_barrel_14 : decode cX10_barrel 14 = .ok (.iload_n 1, 1) := by decide +kernel
theorem dX10_barrel_15 : decode cX10_barrel 15 = .ok (.invokevirtual 122, 3) := by decide +kernel
theorem dX10_barrel_18 : decode cX10_barrel 18 = .ok (.istore 4, 2) := by decide +kernel
theorem dX10_barrel_20 : decode cX10_barrel 20 = .ok (.iload_n 2, 1) := by decide +kernel
theorem dX10_barrel_21 : decode cX10_barrel 21 = .ok (.iconst (-1), 1) := by decide +kernel
theorem dX10_barrel_22 : decode cX10_barrel 22 = .ok (.iload 4, 2) := by decide +kernel
theorem dX10_barrel_24 : decode cX10_barrel 24 = .ok (.iconst 1, 1) := by decide +kernel
theorem dX10_barrel_25 : decode cX10_barrel 25 = .ok (.isub, 1) := by decide +kernel
theorem dX10_barrel_26 : decode cX10_barrel 26 = .ok (.invokestatic 89, 3) := by decide +kernel
theorem dX10_barrel_29 : decode cX10_barrel 29 = .ok (.ifCond .ne 5, 3) := by decide +kernel
theorem dX10_barrel_32 : decode cX10_barrel 32 = .ok (.iconst (-1), 1) := by decide +kernel
theorem dX10_barrel_33 : decode cX10_barrel 33 = .ok (.ireturn, 1) := by decide +kernel
theorem dX10_barrel_34 : decode cX10_barrel 34 = .ok (.iload_n 3, 1) := by decide +kernel
theorem dX10_barrel_35 : decode cX10_barrel 35 = .ok (.iconst 0, 1) := by decide +kernel
theorem dX10_barrel_36 : decode cX10_barrel 36 = .ok (.bipush 6, 2) := by decide +kernel
theorem dX10_barrel_38 : decode cX10_barrel 38 = .ok (.invokestatic 89, 3) := by decide +kernel
theorem dX10_barrel_41 : decode cX10_barrel 41 = .ok (.ifCond .ne 6, 3) := by decide +kernel
theorem dX10_barrel_44 : decode cX10_barrel 44 = .ok (.bipush (-2), 2) := by decide +kernel
theorem dX10_barrel_46 : decode cX10_barrel 46 = .ok (.ireturn, 1) := by decide +kernel
theorem dX10_barrel_47 : decode cX10_barrel 47 = .ok (.iload_n 2, 1) := by decide +kernel
theorem dX10_barrel_48 : decode cX10_barrel 48 = .ok (.iconst (-1), 1) := by decide +kernel
theorem dX10_barrel_49 : decode cX10_barrel 49 = .ok (.if_icmp .ne 6, 3) := by decide +kernel
theorem dX10_barrel_52 : decode cX10_barrel 52 = .ok (.iload 4, 2) := by decide +kernel
theorem dX10_barrel_54 : decode cX10_barrel 54 = .ok (.ireturn, 1) := by decide +kernel
theorem dX10_barrel_55 : decode cX10_barrel 55 = .ok (.aload_n 0, 1) := by decide +kernel
theorem dX10_barrel_56 : decode cX10_barrel 56 = .ok (.iload_n 1, 1) := by decide +kernel
theorem dX10_barrel_57 : decode cX10_barrel 57 = .ok (.iload_n 2, 1) := by decide +kernel
theorem dX10_barrel_58 : decode cX10_barrel 58 = .ok (.invokevirtual 125, 3) := by decide +kernel
theorem dX10_barrel_61 : decode cX10_barrel 61 = .ok (.aload_n 0, 1) := by decide +kernel
theorem dX10_barrel_62 : decode cX10_barrel 62 = .ok (.iload_n 3, 1) := by decide +kernel
theorem dX10_barrel_63 : decode cX10_barrel 63 = .ok (.invokevirtual 194, 3) := by decide +kernel
theorem dX10_barrel_66 : decode cX10_barrel 66 = .ok (.ireturn, 1) := by decide +kernel
theorem dX10_filled_0 : decode cX10_filled 0 = .ok (.iload_n 1, 1) := by decide +kernel
theorem dX10_filled_1 : decode cX10_filled 1 = .ok (.invokestatic 116, 3) := by decide +kernel
theorem dX10_filled_4 : decode cX10_filled 4 = .ok (.ifCond .eq 12, 3) := by decide +kernel
theorem dX10_filled_7 : decode cX10_filled 7 = .ok (.iload_n 2, 1) := by decide +kernel
theorem dX10_filled_8 : decode cX10_filled 8 = .ok (.iconst 0, 1) := by decide +kernel
theorem dX10_filled_9 : decode cX10_filled 9 = .ok (.iconst 5, 1) := by decide +kernel
theorem dX10_filled_10 : decode cX10_filled 10 = .ok (.invokestatic 89, 3) := by decide +kernel
theorem dX10_filled_13 : decode cX10_filled 13 = .ok (.ifCond .ne 5, 3) := by decide +kernel
theorem dX10_filled_16 : decode cX10_filled 16 = .ok (.iconst (-1), 1) := by decide +kernel
theorem dX10_filled_17 : decode cX10_filled 17 = .ok (.ireturn, 1) := by decide +kernel
theorem dX10_filled_18 : decode cX10_filled 18 = .ok (.iload_n 3, 1) := by decide +kernel
theorem dX10_filled_19 : decode cX10_filled 19 = .ok (.invokestatic 157, 3) := by decide +kernel
theorem dX10_filled_22 : decode cX10_filled 22 = .ok (.ifCond .eq 13, 3) := by decide +kernel
theorem dX10_filled_25 : decode cX10_filled 25 = .ok (.iload 4, 2) := by decide +kernel
theorem dX10_filled_27 : decode cX10_filled 27 = .ok (.iconst 0, 1) := by decide +kernel
theorem dX10_filled_28 : decode cX10_filled 28 = .ok (.iconst 1, 1) := by decide +kernel
theorem dX10_filled_29 : decode cX10_filled 29 = .ok (.invokestatic 89, 3) := by decide +kernel
theorem dX10_filled_32 : decode cX10_filled 32 = .ok (.ifCond .ne 6, 3) := by decide +kernel
theorem dX10_filled_35 : decode cX10_filled 35 = .ok (.bipush (-2), 2) := by decide +kernel
theorem dX10_filled_37 : decode cX10_filled 37 = .ok (.ireturn, 1) := by decide +kernel
theorem dX10_filled_38 : decode cX10_filled 38 = .ok (.aload_n 0, 1) := by decide +kernel
theorem dX10_filled_39 : decode cX10_filled 39 = .ok (.invokevirtual 119, 3) := by decide +kernel
theorem dX10_filled_42 : decode cX10_filled 42 = .ok (.aload_n 0, 1) := by decide +kernel
theorem dX10_filled_43 : decode cX10_filled 43 = .ok (.getfield 23, 3) := by decide +kernel
theorem dX10_filled_46 : decode cX10_filled 46 = .ok (.iconst 1, 1) := by decide +kernel
theorem dX10_filled_47 : decode cX10_filled 47 = .ok (.iaload, 1) := by decide +kernel
theorem dX10_filled_48 : decode cX10_filled 48 = .ok (.istore 5, 2) := by decide +kernel
theorem dX10_filled_50 : decode cX10_filled 50 = .ok (.iload 5, 2) := by decide +kernel
theorem dX10_filled_52 : decode cX10_filled 52 = .ok (.iload 5, 2) := by decide +kernel
theorem dX10_filled_54 : decode cX10_filled 54 = .ok (.aload_n 0, 1) := by decide +kernel
theorem dX10_filled_55 : decode cX10_filled 55 = .ok (.getfield 23, 3) := by decide +kernel
theorem dX10_filled_58 : decode cX10_filled 58 = .ok (.iconst 3, 1) := by decide +kernel
theorem dX10_filled_59 : decode cX10_filled 59 = .ok (.iaload, 1) := by decide +kernel
theorem dX10_filled_60 : decode cX10_filled 60 = .ok (.imul, 1) := by decide +kernel
theorem dX10_filled_61 : decode cX10_filled 61 = .ok (.bipush 100, 2) := by decide +kernel
theorem dX10_filled_63 : decode cX10_filled 63 = .ok (.idiv, 1) := by decide +kernel
theorem dX10_filled_64 : decode cX10_filled 64 = .ok (.isub, 1) := by decide +kernel
theorem dX10_filled_65 : decode cX10_filled 65 = .ok (.aload_n 0, 1) := by decide +kernel
theorem dX10_filled_66 : decode cX10_filled 66 = .ok (.iload_n 1, 1) := by decide +kernel
theorem dX10_filled_67 : decode cX10_filled 67 = .ok (.iload_n 2, 1) := by decide +kernel
theorem dX10_filled_68 : decode cX10_filled 68 = .ok (.iload_n 3, 1) := by decide +kernel
theorem dX10_filled_69 : decode cX10_filled 69 = .ok (.sipush 240, 3) := by decide +kernel
theorem dX10_filled_72 : decode cX10_filled 72 = .ok (.isub, 1) := by decide +kernel
theorem dX10_filled_73 : decode cX10_filled 73 = .ok (.invokevirtual 197, 3) := by decide +kernel
theorem dX10_filled_76 : decode cX10_filled 76 = .ok (.imul, 1) := by decide +kernel
theorem dX10_filled_77 : decode cX10_filled 77 = .ok (.istore 6, 2) := by decide +kernel
theorem dX10_filled_79 : decode cX10_filled 79 = .ok (.iload 4, 2) := by decide +kernel
theorem dX10_filled_81 : decode cX10_filled 81 = .ok (.ifCond .ne 11, 3) := by decide +kernel
theorem dX10_filled_84 : decode cX10_filled 84 = .ok (.iload 6, 2) := by decide +kernel
theorem dX10_filled_86 : decode cX10_filled 86 = .ok (.iload 5, 2) := by decide +kernel
theorem dX10_filled_88 : decode cX10_filled 88 = .ok (.idiv, 1) := by decide +kernel
theorem dX10_filled_89 : decode cX10_filled 89 = .ok (.goto 8, 3) := by decide +kernel
theorem dX10_filled_92 : decode cX10_filled 92 = .ok (.iload 6, 2) := by decide +kernel
theorem dX10_filled_94 : decode cX10_filled 94 = .ok (.iload 5, 2) := by decide +kernel
theorem dX10_filled_96 : decode cX10_filled 96 = .ok (.irem, 1) := by decide +kernel
theorem dX10_filled_97 : decode cX10_filled 97 = .ok (.ireturn, 1) := by decide +kernel
theorem dX10_open_0 : decode cX10_open 0 = .ok (.iload_n 1, 1) := by decide +kernel
theorem dX10_open_1 : decode cX10_open 1 = .ok (.iconst 1, 1) := by decide +kernel
theorem dX10_open_2 : decode cX10_open 2 = .ok (.bipush 30, 2) := by decide +kernel
theorem dX10_open_4 : decode cX10_open 4 = .ok (.invokestatic 89, 3) := by decide +kernel
theorem dX10_open_7 : decode cX10_open 7 = .ok (.ifCond .eq 22, 3) := by decide +kernel
theorem dX10_open_10 : decode cX10_open 10 = .ok (.iload_n 2, 1) := by decide +kernel
theorem dX10_open_11 : decode cX10_open 11 = .ok (.iconst 1, 1) := by decide +kernel
theorem dX10_open_12 : decode cX10_open 12 = .ok (.iload_n 1, 1) := by decide +kernel
theorem dX10_open_13 : decode cX10_open 13 = .ok (.invokestatic 89, 3) := by decide +kernel
theorem dX10_open_16 : decode cX10_open 16 = .ok (.ifCond .eq 13, 3) := by decide +kernel
theorem dX10_open_19 : decode cX10_open 19 = .ok (.iload_n 3, 1) := by decide +kernel
theorem dX10_open_20 : decode cX10_open 20 = .ok (.iconst 0, 1) := by decide +kernel
theorem dX10_open_21 : decode cX10_open 21 = .ok (.bipush 99, 2) := by decide +kernel
theorem dX10_open_23 : decode cX10_open 23 = .ok (.invokestatic 89, 3) := by decide +kernel
theorem dX10_open_26 : decode cX10_open 26 = .ok (.ifCond .ne 6, 3) := by decide +kernel
theorem dX10_open_29 : decode cX10_open 29 = .ok (.bipush (-2), 2) := by decide +kernel
theorem dX10_open_31 : decode cX10_open 31 = .ok (.ireturn, 1) := by decide +kernel
theorem dX10_open_32 : decode cX10_open 32 = .ok (.iload_n 1, 1) := by decide +kernel
theorem dX10_open_33 : decode cX10_open 33 = .ok (.iload_n 2, 1) := by decide +kernel
theorem dX10_open_34 : decode cX10_open 34 = .ok (.invokestatic 201, 3) := by decide +kernel
theorem dX10_open_37 : decode cX10_open 37 = .ok (.lstore 4, 2) := by decide +kernel
theorem dX10_open_39 : decode cX10_open 39 = .ok (.iconst 1, 1) := by decide +kernel
theorem dX10_open_40 : decode cX10_open 40 = .ok (.istore 6, 2) := by decide +kernel
theorem dX10_open_42 : decode cX10_open 42 = .ok (.iload 6, 2) := by decide +kernel
theorem dX10_open_44 : decode cX10_open 44 = .ok (.iload_n 1, 1) := by decide +kernel
theorem dX10_open_45 : decode cX10_open 45 = .ok (.if_icmp .ge 33, 3) := by decide +kernel
theorem dX10_open_48 : decode cX10_open 48 = .ok (.ldc2_w 205, 3) := by decide +kernel
theorem dX10_open_51 : decode cX10_open 51 = .ok (.iload_n 1, 1) := by decide +kernel
theorem dX10_open_52 : decode cX10_open 52 = .ok (.iload 6, 2) := by decide +kernel
theorem dX10_open_54 : decode cX10_open 54 = .ok (.isub, 1) := by decide +kernel
theorem dX10_open_55 : decode cX10_open 55 = .ok (.iload_n 2, 1) := by decide +kernel
theorem dX10_open_56 : decode cX10_open 56 = .ok (.invokestatic 201, 3) := by decide +kernel
theorem dX10_open_59 : decode cX10_open 59 = .ok (.lmul, 1) := by decide +kernel
theorem dX10_open_60 : decode cX10_open 60 = .ok (.iload_n 3, 1) := by decide +kernel
theorem dX10_open_61 : decode cX10_open 61 = .ok (.i2l, 1) := by decide +kernel
theorem dX10_open_62 : decode cX10_open 62 = .ok (.lload 4, 2) := by decide +kernel
theorem dX10_open_64 : decode cX10_open 64 = .ok (.lmul, 1) := by decide +kernel
theorem dX10_open_65 : decode cX10_open 65 = .ok (.lcmp, 1) := by decide +kernel
theorem dX10_open_66 : decode cX10_open 66 = .ok (.ifCond .gt 6, 3) := by decide +kernel
theorem dX10_open_69 : decode cX10_open 69 = .ok (.iload 6, 2) := by decide +kernel
theorem dX10_open_71 : decode cX10_open 71 = .ok (.ireturn, 1) := by decide +kernel
theorem dX10_open_72 : decode cX10_open 72 = .ok (.iinc 6 1, 3) := by decide +kernel
theorem dX10_open_75 : decode cX10_open 75 = .ok (.goto (-33), 3) := by decide +kernel
theorem dX10_open_78 : decode cX10_open 78 = .ok (.iload_n 1, 1) := by decide +kernel
theorem dX10_open_79 : decode cX10_open 79 = .ok (.ireturn, 1) := by decide +kernel
theorem dX10_judge_0 : decode cX10_judge 0 = .ok (.iload_n 1, 1) := by decide +kernel
theorem dX10_judge_1 : decode cX10_judge 1 = .ok (.iconst 0, 1) := by decide +kernel
theorem dX10_judge_2 : decode cX10_judge 2 = .ok (.bipush 9, 2) := by decide +kernel
theorem dX10_judge_4 : decode cX10_judge 4 = .ok (.invokestatic 89, 3) := by decide +kernel
theorem dX10_judge_7 : decode cX10_judge 7 = .ok (.ifCond .eq 23, 3) := by decide +kernel
theorem dX10_judge_10 : decode cX10_judge 10 = .ok (.iload_n 2, 1) := by decide +kernel
theorem dX10_judge_11 : decode cX10_judge 11 = .ok (.iconst 0, 1) := by decide +kernel
theorem dX10_judge_12 : decode cX10_judge 12 = .ok (.bipush 9, 2) := by decide +kernel
theorem dX10_judge_14 : decode cX10_judge 14 = .ok (.invokestatic 89, 3) := by decide +kernel
theorem dX10_judge_17 : decode cX10_judge 17 = .ok (.ifCond .eq 13, 3) := by decide +kernel
theorem dX10_judge_20 : decode cX10_judge 20 = .ok (.iload_n 3, 1) := by decide +kernel
theorem dX10_judge_21 : decode cX10_judge 21 = .ok (.iconst 0, 1) := by decide +kernel
theorem dX10_judge_22 : decode cX10_judge 22 = .ok (.bipush 9, 2) := by decide +kernel
theorem dX10_judge_24 : decode cX10_judge 24 = .ok (.invokestatic 89, 3) := by decide +kernel
theorem dX10_judge_27 : decode cX10_judge 27 = .ok (.ifCond .ne 6, 3) := by decide +kernel
theorem dX10_judge_30 : decode cX10_judge 30 = .ok (.bipush (-2), 2) := by decide +kernel
theorem dX10_judge_32 : decode cX10_judge 32 = .ok (.ireturn, 1) := by decide +kernel
theorem dX10_judge_33 : decode cX10_judge 33 = .ok (.aload_n 0, 1) := by decide +kernel
theorem dX10_judge_34 : decode cX10_judge 34 = .ok (.getfield 54, 3) := by decide +kernel
theorem dX10_judge_37 : decode cX10_judge 37 = .ok (.getfield 207, 3) := by decide +kernel
theorem dX10_judge_40 : decode cX10_judge 40 = .ok (.bipush 24, 2) := by decide +kernel
theorem dX10_judge_42 : decode cX10_judge 42 = .ok (.if_icmp .lt 6, 3) := by decide +kernel
theorem dX10_judge_45 : decode cX10_judge 45 = .ok (.bipush (-4), 2) := by decide +kernel
theorem dX10_judge_47 : decode cX10_judge 47 = .ok (.ireturn, 1) := by decide +kernel
theorem dX10_judge_48 : decode cX10_judge 48 = .ok (.aload_n 0, 1) := by decide +kernel
theorem dX10_judge_49 : decode cX10_judge 49 = .ok (.getfield 54, 3) := by decide +kernel
theorem dX10_judge_52 : decode cX10_judge 52 = .ok (.iload_n 1, 1) := by decide +kernel
theorem dX10_judge_53 : decode cX10_judge 53 = .ok (.iload_n 2, 1) := by decide +kernel
theorem dX10_judge_54 : decode cX10_judge 54 = .ok (.iload_n 3, 1) := by decide +kernel
theorem dX10_judge_55 : decode cX10_judge 55 = .ok (.iload 4, 2) := by decide +kernel
theorem dX10_judge_57 : decode cX10_judge 57 = .ok (.invokevirtual 208, 3) := by decide +kernel
theorem dX10_judge_60 : decode cX10_judge 60 = .ok (.ireturn, 1) := by decide +kernel
theorem dX10_absolve_0 : decode cX10_absolve 0 = .ok (.aload_n 0, 1) := by decide +kernel
theorem dX10_absolve_1 : decode cX10_absolve 1 = .ok (.getfield 54, 3) := by decide +kernel
theorem dX10_absolve_4 : decode cX10_absolve 4 = .ok (.invokevirtual 211, 3) := by decide +kernel
theorem dX10_absolve_7 : decode cX10_absolve 7 = .ok (.ireturn, 1) := by decide +kernel
theorem dX10_cause_0 : decode cX10_cause 0 = .ok (.iload_n 1, 1) := by decide +kernel
theorem dX10_cause_1 : decode cX10_cause 1 = .ok (.iconst 0, 1) := by decide +kernel
theorem dX10_cause_2 : decode cX10_cause 2 = .ok (.bipush 29, 2) := by decide +kernel
theorem dX10_cause_4 : decode cX10_cause 4 = .ok (.invokestatic 89, 3) := by decide +kernel
theorem dX10_cause_7 : decode cX10_cause 7 = .ok (.ifCond .ne 6, 3) := by decide +kernel
theorem dX10_cause_10 : decode cX10_cause 10 = .ok (.bipush (-2), 2) := by decide +kernel
theorem dX10_cause_12 : decode cX10_cause 12 = .ok (.ireturn, 1) := by decide +kernel
theorem dX10_cause_13 : decode cX10_cause 13 = .ok (.aload_n 0, 1) := by decide +kernel
theorem dX10_cause_14 : decode cX10_cause 14 = .ok (.getfield 54, 3) := by decide +kernel
theorem dX10_cause_17 : decode cX10_cause 17 = .ok (.iload_n 1, 1) := by decide +kernel
theorem dX10_cause_18 : decode cX10_cause 18 = .ok (.invokevirtual 212, 3) := by decide +kernel
theorem dX10_cause_21 : decode cX10_cause 21 = .ok (.ifCond .eq 7, 3) := by decide +kernel
theorem dX10_cause_24 : decode cX10_cause 24 = .ok (.iconst 1, 1) := by decide +kernel
theorem dX10_cause_25 : decode cX10_cause 25 = .ok (.goto 4, 3) := by decide +kernel
theorem dX10_cause_28 : decode cX10_cause 28 = .ok (.iconst 0, 1) := by decide +kernel
theorem dX10_cause_29 : decode cX10_cause 29 = .ok (.ireturn, 1) := by decide +kernel
theorem dX10_explained_0 : decode cX10_explained 0 = .ok (.aload_n 0, 1) := by decide +kernel
theorem dX10_explained_1 : decode cX10_explained 1 = .ok (.getfield 54, 3) := by decide +kernel
theorem dX10_explained_4 : decode cX10_explained 4 = .ok (.invokevirtual 215, 3) := by decide +kernel
theorem dX10_explained_7 : decode cX10_explained 7 = .ok (.ireturn, 1) := by decide +kernel
theorem dX10_rival_0 : decode cX10_rival 0 = .ok (.aload_n 0, 1) := by decide +kernel
theorem dX10_rival_1 : decode cX10_rival 1 = .ok (.getfield 54, 3) := by decide +kernel
theorem dX10_rival_4 : decode cX10_rival 4 = .ok (.invokevirtual 215, 3) := by decide +kernel
theorem dX10_rival_7 : decode cX10_rival 7 = .ok (.istore_n 3, 1) := by decide +kernel
theorem dX10_rival_8 : decode cX10_rival 8 = .ok (.iload_n 1, 1) := by decide +kernel
theorem dX10_rival_9 : decode cX10_rival 9 = .ok (.iconst (-1), 1) := by decide +kernel
theorem dX10_rival_10 : decode cX10_rival 10 = .ok (.if_icmp .ne 24, 3) := by decide +kernel
theorem dX10_rival_13 : decode cX10_rival 13 = .ok (.iload_n 3, 1) := by decide +kernel
theorem dX10_rival_14 : decode cX10_rival 14 = .ok (.bipush (-6), 2) := by decide +kernel
theorem dX10_rival_16 : decode cX10_rival 16 = .ok (.if_icmp .ne 7, 3) := by decide +kernel
theorem dX10_rival_19 : decode cX10_rival 19 = .ok (.iconst 0, 1) := by decide +kernel
theorem dX10_rival_20 : decode cX10_rival 20 = .ok (.goto 13, 3) := by decide +kernel
theorem dX10_rival_23 : decode cX10_rival 23 = .ok (.aload_n 0, 1) := by decide +kernel
theorem dX10_rival_24 : decode cX10_rival 24 = .ok (.getfield 54, 3) := by decide +kernel
theorem dX10_rival_27 : decode cX10_rival 27 = .ok (.iload_n 3, 1) := by decide +kernel
theorem dX10_rival_28 : decode cX10_rival 28 = .ok (.bipush (-6), 2) := by decide +kernel
theorem dX10_rival_30 : decode cX10_rival 30 = .ok (.invokevirtual 218, 3) := by decide +kernel
theorem dX10_rival_33 : decode cX10_rival 33 = .ok (.ireturn, 1) := by decide +kernel
theorem dX10_rival_34 : decode cX10_rival 34 = .ok (.iload_n 1, 1) := by decide +kernel
theorem dX10_rival_35 : decode cX10_rival 35 = .ok (.ifCond .lt 14, 3) := by decide +kernel
theorem dX10_rival_38 : decode cX10_rival 38 = .ok (.iload_n 2, 1) := by decide +kernel
theorem dX10_rival_39 : decode cX10_rival 39 = .ok (.iconst 0, 1) := by decide +kernel
theorem dX10_rival_40 : decode cX10_rival 40 = .ok (.iload_n 3, 1) := by decide +kernel
theorem dX10_rival_41 : decode cX10_rival 41 = .ok (.iconst 1, 1) := by decide +kernel
theorem dX10_rival_42 : decode cX10_rival 42 = .ok (.isub, 1) := by decide +kernel
theorem dX10_rival_43 : decode cX10_rival 43 = .ok (.invokestatic 89, 3) := by decide +kernel
theorem dX10_rival_46 : decode cX10_rival 46 = .ok (.ifCond .ne 6, 3) := by decide +kernel
theorem dX10_rival_49 : decode cX10_rival 49 = .ok (.bipush (-6), 2) := by decide +kernel
theorem dX10_rival_51 : decode cX10_rival 51 = .ok (.ireturn, 1) := by decide +kernel
theorem dX10_rival_52 : decode cX10_rival 52 = .ok (.aload_n 0, 1) := by decide +kernel
theorem dX10_rival_53 : decode cX10_rival 53 = .ok (.getfield 54, 3) := by decide +kernel
theorem dX10_rival_56 : decode cX10_rival 56 = .ok (.iload_n 3, 1) := by decide +kernel
theorem dX10_rival_57 : decode cX10_rival 57 = .ok (.iload_n 1, 1) := by decide +kernel
theorem dX10_rival_58 : decode cX10_rival 58 = .ok (.invokevirtual 218, 3) := by decide +kernel
theorem dX10_rival_61 : decode cX10_rival 61 = .ok (.iload_n 1, 1) := by decide +kernel
theorem dX10_rival_62 : decode cX10_rival 62 = .ok (.if_icmp .le 14, 3) := by decide +kernel
theorem dX10_rival_65 : decode cX10_rival 65 = .ok (.aload_n 0, 1) := by decide +kernel
theorem dX10_rival_66 : decode cX10_rival 66 = .ok (.getfield 54, 3) := by decide +kernel
theorem dX10_rival_69 : decode cX10_rival 69 = .ok (.iload_n 2, 1) := by decide +kernel
theorem dX10_rival_70 : decode cX10_rival 70 = .ok (.invokevirtual 221, 3) := by decide +kernel
theorem dX10_rival_73 : decode cX10_rival 73 = .ok (.goto 5, 3) := by decide +kernel
theorem dX10_rival_76 : decode cX10_rival 76 = .ok (.bipush (-6), 2) := by decide +kernel
theorem dX10_rival_78 : decode cX10_rival 78 = .ok (.ireturn, 1) := by decide +kernel
theorem dX10_engage_0 : decode cX10_engage 0 = .ok (.iload_n 1, 1) := by decide +kernel
theorem dX10_engage_1 : decode cX10_engage 1 = .ok (.invokestatic 151, 3) := by decide +kernel
theorem dX10_engage_4 : decode cX10_engage 4 = .ok (.ifCond .eq 10, 3) := by decide +kernel
theorem dX10_engage_7 : decode cX10_engage 7 = .ok (.iload_n 2, 1) := by decide +kernel
theorem dX10_engage_8 : decode cX10_engage 8 = .ok (.invokestatic 154, 3) := by decide +kernel
theorem dX10_engage_11 : decode cX10_engage 11 = .ok (.ifCond .ne 5, 3) := by decide +kernel
theorem dX10_engage_14 : decode cX10_engage 14 = .ok (.iconst (-1), 1) := by decide +kernel
theorem dX10_engage_15 : decode cX10_engage 15 = .ok (.ireturn, 1) := by decide +kernel
theorem dX10_engage_16 : decode cX10_engage 16 = .ok (.iload_n 3, 1) := by decide +kernel
theorem dX10_engage_17 : decode cX10_engage 17 = .ok (.iconst 0, 1) := by decide +kernel
theorem dX10_engage_18 : decode cX10_engage 18 = .ok (.bipush 50, 2) := by decide +kernel
theorem dX10_engage_20 : decode cX10_engage 20 = .ok (.invokestatic 89, 3) := by decide +kernel
theorem dX10_engage_23 : decode cX10_engage 23 = .ok (.ifCond .eq 15, 3) := by decide +kernel
theorem dX10_engage_26 : decode cX10_engage 26 = .ok (.iload 4, 2) := by decide +kernel
theorem dX10_engage_28 : decode cX10_engage 28 = .ok (.iconst 1, 1) := by decide +kernel
theorem dX10_engage_29 : decode cX10_engage 29 = .ok (.sipush 1000, 3) := by decide +kernel
theorem dX10_engage_32 : decode cX10_engage 32 = .ok (.invokestatic 89, 3) := by decide +kernel
theorem dX10_engage_35 : decode cX10_engage 35 = .ok (.ifCond .ne 6, 3) := by decide +kernel
theorem dX10_engage_38 : decode cX10_engage 38 = .ok (.bipush (-2), 2) := by decide +kernel
theorem dX10_engage_40 : decode cX10_engage 40 = .ok (.ireturn, 1) := by decide +kernel
theorem dX10_engage_41 : decode cX10_engage 41 = .ok (.aload_n 0, 1) := by decide +kernel
theorem dX10_engage_42 : decode cX10_engage 42 = .ok (.getfield 61, 3) := by decide +kernel
theorem dX10_engage_45 : decode cX10_engage 45 = .ok (.iload_n 1, 1) := by decide +kernel
theorem dX10_engage_46 : decode cX10_engage 46 = .ok (.iload_n 2, 1) := by decide +kernel
theorem dX10_engage_47 : decode cX10_engage 47 = .ok (.iload_n 3, 1) := by decide +kernel
theorem dX10_engage_48 : decode cX10_engage 48 = .ok (.iload 4, 2) := by decide +kernel
theorem dX10_engage_50 : decode cX10_engage 50 = .ok (.invokevirtual 224, 3) := by decide +kernel
theorem dX10_engage_53 : decode cX10_engage 53 = .ok (.iconst 1, 1) := by decide +kernel
theorem dX10_engage_54 : decode cX10_engage 54 = .ok (.ireturn, 1) := by decide +kernel
theorem dX10_free_0 : decode cX10_free 0 = .ok (.iload_n 1, 1) := by decide +kernel
theorem dX10_free_1 : decode cX10_free 1 = .ok (.invokestatic 108, 3) := by decide +kernel
theorem dX10_free_4 : decode cX10_free 4 = .ok (.ifCond .eq 21, 3) := by decide +kernel
theorem dX10_free_7 : decode cX10_free 7 = .ok (.iload_n 2, 1) := by decide +kernel
theorem dX10_free_8 : decode cX10_free 8 = .ok (.iconst 1, 1) := by decide +kernel
theorem dX10_free_9 : decode cX10_free 9 = .ok (.sipush 1000, 3) := by decide +kernel
theorem dX10_free_12 : decode cX10_free 12 = .ok (.invokestatic 89, 3) := by decide +kernel
theorem dX10_free_15 : decode cX10_free 15 = .ok (.ifCond .eq 10, 3) := by decide +kernel
theorem dX10_free_18 : decode cX10_free 18 = .ok (.iload_n 3, 1) := by decide +kernel
theorem dX10_free_19 : decode cX10_free 19 = .ok (.invokestatic 108, 3) := by decide +kernel
theorem dX10_free_22 : decode cX10_free 22 = .ok (.ifCond .ne 6, 3) := by decide +kernel
theorem dX10_free_25 : decode cX10_free 25 = .ok (.bipush (-2), 2) := by decide +kernel
theorem dX10_free_27 : decode cX10_free 27 = .ok (.ireturn, 1) := by decide +kernel
