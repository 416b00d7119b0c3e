theorem d_N_isAlike_1 : decode c_N_isAlike 1 = .ok (.getfield 19, 3) := by decide +kernel
theorem d_N_isAlike_4 : decode c_N_isAlike 4 = .ok (.iload_n 1, 1) := by decide +kernel
theorem d_N_isAlike_5 : decode c_N_isAlike 5 = .ok (.iaload, 1) := by decide +kernel
theorem d_N_isAlike_6 : decode c_N_isAlike 6 = .ok (.istore_n 2, 1) := by decide +kernel
theorem d_N_isAlike_7 : decode c_N_isAlike 7 = .ok (.aload_n 0, 1) := by decide +kernel
theorem d_N_isAlike_8 : decode c_N_isAlike 8 = .ok (.getfield 15, 3) := by decide +kernel
theorem d_N_isAlike_11 : decode c_N_isAlike 11 = .ok (.iload_n 1, 1) := by decide +kernel
theorem d_N_isAlike_12 : decode c_N_isAlike 12 = .ok (.iaload, 1) := by decide +kernel
theorem d_N_isAlike_13 : decode c_N_isAlike 13 = .ok (.tableswitch 111 1 4 #[31, 37, 54, 78], 31) := by decide +kernel
theorem d_N_isAlike_44 : decode c_N_isAlike 44 = .ok (.aload_n 0, 1) := by decide +kernel
theorem d_N_isAlike_45 : decode c_N_isAlike 45 = .ok (.iload_n 2, 1) := by decide +kernel
theorem d_N_isAlike_46 : decode c_N_isAlike 46 = .ok (.invokevirtual 48, 3) := by decide +kernel
theorem d_N_isAlike_49 : decode c_N_isAlike 49 = .ok (.ireturn, 1) := by decide +kernel
theorem d_N_isAlike_50 : decode c_N_isAlike 50 = .ok (.aload_n 0, 1) := by decide +kernel
theorem d_N_isAlike_51 : decode c_N_isAlike 51 = .ok (.getfield 9, 3) := by decide +kernel
theorem d_N_isAlike_54 : decode c_N_isAlike 54 = .ok (.aload_n 0, 1) := by decide +kernel
theorem d_N_isAlike_55 : decode c_N_isAlike 55 = .ok (.getfield 9, 3) := by decide +kernel
theorem d_N_isAlike_58 : decode c_N_isAlike 58 = .ok (.iload_n 2, 1) := by decide +kernel
theorem d_N_isAlike_59 : decode c_N_isAlike 59 = .ok (.invokevirtual 51, 3) := by decide +kernel
theorem d_N_isAlike_62 : decode c_N_isAlike 62 = .ok (.lconst 0, 1) := by decide +kernel
theorem d_N_isAlike_63 : decode c_N_isAlike 63 = .ok (.invokevirtual 57, 3) := by decide +kernel
theorem d_N_isAlike_66 : decode c_N_isAlike 66 = .ok (.ireturn, 1) := by decide +kernel
theorem d_N_isAlike_67 : decode c_N_isAlike 67 = .ok (.aload_n 0, 1) := by decide +kernel
theorem d_N_isAlike_68 : decode c_N_isAlike 68 = .ok (.getfield 9, 3) := by decide +kernel
theorem d_N_isAlike_71 : decode c_N_isAlike 71 = .ok (.aload_n 0, 1) := by decide +kernel
theorem d_N_isAlike_72 : decode c_N_isAlike 72 = .ok (.getfield 9, 3) := by decide +kernel
theorem d_N_isAlike_75 : decode c_N_isAlike 75 = .ok (.iload_n 2, 1) := by decide +kernel
theorem d_N_isAlike_76 : decode c_N_isAlike 76 = .ok (.invokevirtual 51, 3) := by decide +kernel
theorem d_N_isAlike_79 : decode c_N_isAlike 79 = .ok (.aload_n 0, 1) := by decide +kernel
theorem d_N_isAlike_80 : decode c_N_isAlike 80 = .ok (.getfield 9, 3) := by decide +kernel
theorem d_N_isAlike_83 : decode c_N_isAlike 83 = .ok (.iload_n 2, 1) := by decide +kernel
theorem d_N_isAlike_84 : decode c_N_isAlike 84 = .ok (.invokevirtual 61, 3) := by decide +kernel
theorem d_N_isAlike_87 : decode c_N_isAlike 87 = .ok (.invokevirtual 64, 3) := by decide +kernel
theorem d_N_isAlike_90 : decode c_N_isAlike 90 = .ok (.ireturn, 1) := by decide +kernel
theorem d_N_isAlike_91 : decode c_N_isAlike 91 = .ok (.aload_n 0, 1) := by decide +kernel
theorem d_N_isAlike_92 : decode c_N_isAlike 92 = .ok (.getfield 9, 3) := by decide +kernel
theorem d_N_isAlike_95 : decode c_N_isAlike 95 = .ok (.aload_n 0, 1) := by decide +kernel
theorem d_N_isAlike_96 : decode c_N_isAlike 96 = .ok (.getfield 9, 3) := by decide +kernel
theorem d_N_isAlike_99 : decode c_N_isAlike 99 = .ok (.iload_n 2, 1) := by decide +kernel
theorem d_N_isAlike_100 : decode c_N_isAlike 100 = .ok (.invokevirtual 51, 3) := by decide +kernel
theorem d_N_isAlike_103 : decode c_N_isAlike 103 = .ok (.aload_n 0, 1) := by decide +kernel
theorem d_N_isAlike_104 : decode c_N_isAlike 104 = .ok (.getfield 9, 3) := by decide +kernel
theorem d_N_isAlike_107 : decode c_N_isAlike 107 = .ok (.iload_n 2, 1) := by decide +kernel
theorem d_N_isAlike_108 : decode c_N_isAlike 108 = .ok (.invokevirtual 68, 3) := by decide +kernel
theorem d_N_isAlike_111 : decode c_N_isAlike 111 = .ok (.iconst 5, 1) := by decide +kernel
theorem d_N_isAlike_112 : decode c_N_isAlike 112 = .ok (.if_icmp .ne 7, 3) := by decide +kernel
theorem d_N_isAlike_115 : decode c_N_isAlike 115 = .ok (.lconst 1, 1) := by decide +kernel
theorem d_N_isAlike_116 : decode c_N_isAlike 116 = .ok (.goto 4, 3) := by decide +kernel
theorem d_N_isAlike_119 : decode c_N_isAlike 119 = .ok (.lconst 0, 1) := by decide +kernel
theorem d_N_isAlike_120 : decode c_N_isAlike 120 = .ok (.invokevirtual 57, 3) := by decide +kernel
theorem d_N_isAlike_123 : decode c_N_isAlike 123 = .ok (.ireturn, 1) := by decide +kernel
theorem d_N_isAlike_124 : decode c_N_isAlike 124 = .ok (.iconst 0, 1) := by decide +kernel
theorem d_N_isAlike_125 : decode c_N_isAlike 125 = .ok (.ireturn, 1) := by decide +kernel
theorem d_N_isOfDifferentNumbers_0 : decode c_N_isOfDifferentNumbers 0 = .ok (.aload_n 0, 1) := by decide +kernel
theorem d_N_isOfDifferentNumbers_1 : decode c_N_isOfDifferentNumbers 1 = .ok (.getfield 9, 3) := by decide +kernel
theorem d_N_isOfDifferentNumbers_4 : decode c_N_isOfDifferentNumbers 4 = .ok (.iload_n 1, 1) := by decide +kernel
theorem d_N_isOfDifferentNumbers_5 : decode c_N_isOfDifferentNumbers 5 = .ok (.invokevirtual 71, 3) := by decide +kernel
theorem d_N_isOfDifferentNumbers_8 : decode c_N_isOfDifferentNumbers 8 = .ok (.istore_n 2, 1) := by decide +kernel
theorem d_N_isOfDifferentNumbers_9 : decode c_N_isOfDifferentNumbers 9 = .ok (.aload_n 0, 1) := by decide +kernel
theorem d_N_isOfDifferentNumbers_10 : decode c_N_isOfDifferentNumbers 10 = .ok (.getfield 9, 3) := by decide +kernel
theorem d_N_isOfDifferentNumbers_13 : decode c_N_isOfDifferentNumbers 13 = .ok (.iload_n 1, 1) := by decide +kernel
theorem d_N_isOfDifferentNumbers_14 : decode c_N_isOfDifferentNumbers 14 = .ok (.invokevirtual 51, 3) := by decide +kernel
theorem d_N_isOfDifferentNumbers_17 : decode c_N_isOfDifferentNumbers 17 = .ok (.istore_n 3, 1) := by decide +kernel
theorem d_N_isOfDifferentNumbers_18 : decode c_N_isOfDifferentNumbers 18 = .ok (.aload_n 0, 1) := by decide +kernel
theorem d_N_isOfDifferentNumbers_19 : decode c_N_isOfDifferentNumbers 19 = .ok (.getfield 9, 3) := by decide +kernel
theorem d_N_isOfDifferentNumbers_22 : decode c_N_isOfDifferentNumbers 22 = .ok (.iload_n 2, 1) := by decide +kernel
theorem d_N_isOfDifferentNumbers_23 : decode c_N_isOfDifferentNumbers 23 = .ok (.invokevirtual 68, 3) := by decide +kernel
theorem d_N_isOfDifferentNumbers_26 : decode c_N_isOfDifferentNumbers 26 = .ok (.ifCond .ne 38, 3) := by decide +kernel
theorem d_N_isOfDifferentNumbers_29 : decode c_N_isOfDifferentNumbers 29 = .ok (.aload_n 0, 1) := by decide +kernel
theorem d_N_isOfDifferentNumbers_30 : decode c_N_isOfDifferentNumbers 30 = .ok (.getfield 9, 3) := by decide +kernel
theorem d_N_isOfDifferentNumbers_33 : decode c_N_isOfDifferentNumbers 33 = .ok (.iload_n 3, 1) := by decide +kernel
theorem d_N_isOfDifferentNumbers_34 : decode c_N_isOfDifferentNumbers 34 = .ok (.invokevirtual 68, 3) := by decide +kernel
theorem d_N_isOfDifferentNumbers_37 : decode c_N_isOfDifferentNumbers 37 = .ok (.ifCond .ne 27, 3) := by decide +kernel
theorem d_N_isOfDifferentNumbers_40 : decode c_N_isOfDifferentNumbers 40 = .ok (.aload_n 0, 1) := by decide +kernel
theorem d_N_isOfDifferentNumbers_41 : decode c_N_isOfDifferentNumbers 41 = .ok (.getfield 9, 3) := by decide +kernel
theorem d_N_isOfDifferentNumbers_44 : decode c_N_isOfDifferentNumbers 44 = .ok (.iload_n 2, 1) := by decide +kernel
theorem d_N_isOfDifferentNumbers_45 : decode c_N_isOfDifferentNumbers 45 = .ok (.invokevirtual 74, 3) := by decide +kernel
theorem d_N_isOfDifferentNumbers_48 : decode c_N_isOfDifferentNumbers 48 = .ok (.aload_n 0, 1) := by decide +kernel
theorem d_N_isOfDifferentNumbers_49 : decode c_N_isOfDifferentNumbers 49 = .ok (.getfield 9, 3) := by decide +kernel
theorem d_N_isOfDifferentNumbers_52 : decode c_N_isOfDifferentNumbers 52 = .ok (.iload_n 3, 1) := by decide +kernel
theorem d_N_isOfDifferentNumbers_53 : decode c_N_isOfDifferentNumbers 53 = .ok (.invokevirtual 74, 3) := by decide +kernel
theorem d_N_isOfDifferentNumbers_56 : decode c_N_isOfDifferentNumbers 56 = .ok (.lcmp, 1) := by decide +kernel
theorem d_N_isOfDifferentNumbers_57 : decode c_N_isOfDifferentNumbers 57 = .ok (.ifCond .eq 7, 3) := by decide +kernel
theorem d_N_isOfDifferentNumbers_60 : decode c_N_isOfDifferentNumbers 60 = .ok (.iconst 1, 1) := by decide +kernel
theorem d_N_isOfDifferentNumbers_61 : decode c_N_isOfDifferentNumbers 61 = .ok (.goto 4, 3) := by decide +kernel
theorem d_N_isOfDifferentNumbers_64 : decode c_N_isOfDifferentNumbers 64 = .ok (.iconst 0, 1) := by decide +kernel
theorem d_N_isOfDifferentNumbers_65 : decode c_N_isOfDifferentNumbers 65 = .ok (.ireturn, 1) := by decide +kernel
theorem d_T_isNumber_0 : decode c_T_isNumber 0 = .ok (.aload_n 0, 1) := by decide +kernel
theorem d_T_isNumber_1 : decode c_T_isNumber 1 = .ok (.getfield 9, 3) := by decide +kernel
theorem d_T_isNumber_4 : decode c_T_isNumber 4 = .ok (.iload_n 1, 1) := by decide +kernel
theorem d_T_isNumber_5 : decode c_T_isNumber 5 = .ok (.iaload, 1) := by decide +kernel
theorem d_T_isNumber_6 : decode c_T_isNumber 6 = .ok (.ifCond .ne 18, 3) := by decide +kernel
theorem d_T_isNumber_9 : decode c_T_isNumber 9 = .ok (.aload_n 0, 1) := by decide +kernel
theorem d_T_isNumber_10 : decode c_T_isNumber 10 = .ok (.getfield 15, 3) := by decide +kernel
theorem d_T_isNumber_13 : decode c_T_isNumber 13 = .ok (.iload_n 1, 1) := by decide +kernel
theorem d_T_isNumber_14 : decode c_T_isNumber 14 = .ok (.laload, 1) := by decide +kernel
theorem d_T_isNumber_15 : decode c_T_isNumber 15 = .ok (.lload_n 2, 1) := by decide +kernel
theorem d_T_isNumber_16 : decode c_T_isNumber 16 = .ok (.lcmp, 1) := by decide +kernel
theorem d_T_isNumber_17 : decode c_T_isNumber 17 = .ok (.ifCond .ne 7, 3) := by decide +kernel
theorem d_T_isNumber_20 : decode c_T_isNumber 20 = .ok (.iconst 1, 1) := by decide +kernel
theorem d_T_isNumber_21 : decode c_T_isNumber 21 = .ok (.goto 4, 3) := by decide +kernel
theorem d_T_isNumber_24 : decode c_T_isNumber 24 = .ok (.iconst 0, 1) := by decide +kernel
theorem d_T_isNumber_25 : decode c_T_isNumber 25 = .ok (.ireturn, 1) := by decide +kernel
theorem d_M_run_0 : decode c_M_run 0 = .ok (.aload_n 0, 1) := by decide +kernel
theorem d_M_run_1 : decode c_M_run 1 = .ok (.getfield 28, 3) := by decide +kernel
theorem d_M_run_4 : decode c_M_run 4 = .ok (.iload_n 1, 1) := by decide +kernel
theorem d_M_run_5 : decode c_M_run 5 = .ok (.invokevirtual 103, 3) := by decide +kernel
theorem d_M_run_8 : decode c_M_run 8 = .ok (.ifCond .eq 15, 3) := by decide +kernel
theorem d_M_run_11 : decode c_M_run 11 = .ok (.iload_n 2, 1) := by decide +kernel
theorem d_M_run_12 : decode c_M_run 12 = .ok (.iconst 1, 1) := by decide +kernel
theorem d_M_run_13 : decode c_M_run 13 = .ok (.if_icmp .lt 10, 3) := by decide +kernel
theorem d_M_run_16 : decode c_M_run 16 = .ok (.iload_n 2, 1) := by decide +kernel
theorem d_M_run_17 : decode c_M_run 17 = .ok (.sipush 5000, 3) := by decide +kernel
theorem d_M_run_20 : decode c_M_run 20 = .ok (.if_icmp .le 5, 3) := by decide +kernel
theorem d_M_run_23 : decode c_M_run 23 = .ok (.iconst (-1), 1) := by decide +kernel
theorem d_M_run_24 : decode c_M_run 24 = .ok (.ireturn, 1) := by decide +kernel
theorem d_M_run_25 : decode c_M_run 25 = .ok (.aload_n 0, 1) := by decide +kernel
theorem d_M_run_26 : decode c_M_run 26 = .ok (.getfield 28, 3) := by decide +kernel
theorem d_M_run_29 : decode c_M_run 29 = .ok (.iload_n 1, 1) := by decide +kernel
theorem d_M_run_30 : decode c_M_run 30 = .ok (.invokevirtual 104, 3) := by decide +kernel
theorem d_M_run_33 : decode c_M_run 33 = .ok (.istore_n 3, 1) := by decide +kernel
theorem d_M_run_34 : decode c_M_run 34 = .ok (.aload_n 0, 1) := by decide +kernel
theorem d_M_run_35 : decode c_M_run 35 = .ok (.getfield 28, 3) := by decide +kernel
theorem d_M_run_38 : decode c_M_run 38 = .ok (.iload_n 1, 1) := by decide +kernel
theorem d_M_run_39 : decode c_M_run 39 = .ok (.invokevirtual 105, 3) := by decide +kernel
theorem d_M_run_42 : decode c_M_run 42 = .ok (.istore 4, 2) := by decide +kernel
theorem d_M_run_44 : decode c_M_run 44 = .ok (.aload_n 0, 1) := by decide +kernel
theorem d_M_run_45 : decode c_M_run 45 = .ok (.getfield 37, 3) := by decide +kernel
theorem d_M_run_48 : decode c_M_run 48 = .ok (.iload 4, 2) := by decide +kernel
theorem d_M_run_50 : decode c_M_run 50 = .ok (.invokevirtual 117, 3) := by decide +kernel
theorem d_M_run_53 : decode c_M_run 53 = .ok (.iconst 0, 1) := by decide +kernel
theorem d_M_run_54 : decode c_M_run 54 = .ok (.istore 5, 2) := by decide +kernel
theorem d_M_run_56 : decode c_M_run 56 = .ok (.iconst (-1), 1) := by decide +kernel
theorem d_M_run_57 : decode c_M_run 57 = .ok (.istore 6, 2) := by decide +kernel
theorem d_M_run_59 : decode c_M_run 59 = .ok (.iconst 0, 1) := by decide +kernel
theorem d_M_run_60 : decode c_M_run 60 = .ok (.istore 7, 2) := by decide +kernel
theorem d_M_run_62 : decode c_M_run 62 = .ok (.iload 7, 2) := by decide +kernel
theorem d_M_run_64 : decode c_M_run 64 = .ok (.aload_n 0, 1) := by decide +kernel
theorem d_M_run_65 : decode c_M_run 65 = .ok (.getfield 37, 3) := by decide +kernel
theorem d_M_run_68 : decode c_M_run 68 = .ok (.invokevirtual 121, 3) := by decide +kernel
theorem d_M_run_71 : decode c_M_run 71 = .ok (.if_icmp .ge 56, 3) := by decide +kernel
theorem d_M_run_74 : decode c_M_run 74 = .ok (.iload 5, 2) := by decide +kernel
theorem d_M_run_76 : decode c_M_run 76 = .ok (.ifCond .ne 51, 3) := by decide +kernel
theorem d_M_run_79 : decode c_M_run 79 = .ok (.aload_n 0, 1) := by decide +kernel
theorem d_M_run_80 : decode c_M_run 80 = .ok (.getfield 21, 3) := by decide +kernel
theorem d_M_run_83 : decode c_M_run 83 = .ok (.aload_n 0, 1) := by decide +kernel
theorem d_M_run_84 : decode c_M_run 84 = .ok (.getfield 37, 3) := by decide +kernel
theorem d_M_run_87 : decode c_M_run 87 = .ok (.iload 7, 2) := by decide +kernel
theorem d_M_run_89 : decode c_M_run 89 = .ok (.invokevirtual 122, 3) := by decide +kernel
theorem d_M_run_92 : decode c_M_run 92 = .ok (.iload_n 3, 1) := by decide +kernel
theorem d_M_run_93 : decode c_M_run 93 = .ok (.iload 4, 2) := by decide +kernel
theorem d_M_run_95 : decode c_M_run 95 = .ok (.iload_n 2, 1) := by decide +kernel
theorem d_M_run_96 : decode c_M_run 96 = .ok (.invokevirtual 125, 3) := by decide +kernel
theorem d_M_run_99 : decode c_M_run 99 = .ok (.istore 5, 2) := by decide +kernel
theorem d_M_run_101 : decode c_M_run 101 = .ok (.iload 5, 2) := by decide +kernel
theorem d_M_run_103 : decode c_M_run 103 = .ok (.ifCond .ne 7, 3) := by decide +kernel
theorem d_M_run_106 : decode c_M_run 106 = .ok (.iconst (-1), 1) := by decide +kernel
theorem d_M_run_107 : decode c_M_run 107 = .ok (.goto 12, 3) := by decide +kernel
theorem d_M_run_110 : decode c_M_run 110 = .ok (.aload_n 0, 1) := by decide +kernel
theorem d_M_run_111 : decode c_M_run 111 = .ok (.getfield 37, 3) := by decide +kernel
theorem d_M_run_114 : decode c_M_run 114 = .ok (.iload 7, 2) := by decide +kernel
theorem d_M_run_116 : decode c_M_run 116 = .ok (.invokevirtual 122, 3) := by decide +kernel
theorem d_M_run_119 : decode c_M_run 119 = .ok (.istore 6, 2) := by decide +kernel
theorem d_M_run_121 : decode c_M_run 121 = .ok (.iinc 7 1, 3) := by decide +kernel
theorem d_M_run_124 : decode c_M_run 124 = .ok (.goto (-62), 3) := by decide +kernel
theorem d_M_run_127 : decode c_M_run 127 = .ok (.aload_n 0, 1) := by decide +kernel
theorem d_M_run_128 : decode c_M_run 128 = .ok (.getfield 28, 3) := by decide +kernel
theorem d_M_run_131 : decode c_M_run 131 = .ok (.iload_n 1, 1) := by decide +kernel
theorem d_M_run_132 : decode c_M_run 132 = .ok (.iload 5, 2) := by decide +kernel
theorem d_M_run_134 : decode c_M_run 134 = .ok (.iload 6, 2) := by decide +kernel
theorem d_M_run_136 : decode c_M_run 136 = .ok (.invokevirtual 129, 3) := by decide +kernel
theorem d_M_run_139 : decode c_M_run 139 = .ok (.iload 5, 2) := by decide +kernel
theorem d_M_run_141 : decode c_M_run 141 = .ok (.ireturn, 1) := by decide +kernel
theorem d_G_gather_0 : decode c_G_gather 0 = .ok (.aload_n 0, 1) := by decide +kernel
theorem d_G_gather_1 : decode c_G_gather 1 = .ok (.iconst 0, 1) := by decide +kernel
theorem d_G_gather_2 : decode c_G_gather 2 = .ok (.putfield 26, 3) := by decide +kernel
theorem d_G_gather_5 : decode c_G_gather 5 = .ok (.iconst 0, 1) := by decide +kernel
theorem d_G_gather_6 : decode c_G_gather 6 = .ok (.istore_n 2, 1) := by decide +kernel
theorem d_G_gather_7 : decode c_G_gather 7 = .ok (.iload_n 2, 1) := by decide +kernel
theorem d_G_gather_8 : decode c_G_gather 8 = .ok (.aload_n 0, 1) := by decide +kernel
theorem d_G_gather_9 : decode c_G_gather 9 = .ok (.getfield 15, 3) := by decide +kernel
theorem d_G_gather_12 : decode c_G_gather 12 = .ok (.invokevirtual 30, 3) := by decide +kernel
theorem d_G_gather_15 : decode c_G_gather 15 = .ok (.if_icmp .ge 42, 3) := by decide +kernel
theorem d_G_gather_18 : decode c_G_gather 18 = .ok (.aload_n 0, 1) := by decide +kernel
theorem d_G_gather_19 : decode c_G_gather 19 = .ok (.getfield 15, 3) := by decide +kernel
theorem d_G_gather_22 : decode c_G_gather 22 = .ok (.iload_n 2, 1) := by decide +kernel
theorem d_G_gather_23 : decode c_G_gather 23 = .ok (.iload_n 1, 1) := by decide +kernel
theorem d_G_gather_24 : decode c_G_gather 24 = .ok (.invokevirtual 35, 3) := by decide +kernel
theorem d_G_gather_27 : decode c_G_gather 27 = .ok (.ifCond .eq 24, 3) := by decide +kernel
theorem d_G_gather_30 : decode c_G_gather 30 = .ok (.aload_n 0, 1) := by decide +kernel
theorem d_G_gather_31 : decode c_G_gather 31 = .ok (.iload_n 2, 1) := by decide +kernel
theorem d_G_gather_32 : decode c_G_gather 32 = .ok (.aload_n 0, 1) := by decide +kernel
theorem d_G_gather_33 : decode c_G_gather 33 = .ok (.getfield 9, 3) := by decide +kernel
theorem d_G_gather_36 : decode c_G_gather 36 = .ok (.aload_n 0, 1) := by decide +kernel
theorem d_G_gather_37 : decode c_G_gather 37 = .ok (.getfield 15, 3) := by decide +kernel
theorem d_G_gather_40 : decode c_G_gather 40 = .ok (.iload_n 2, 1) := by decide +kernel
theorem d_G_gather_41 : decode c_G_gather 41 = .ok (.invokevirtual 39, 3) := by decide +kernel
theorem d_G_gather_44 : decode c_G_gather 44 = .ok (.iload_n 1, 1) := by decide +kernel
theorem d_G_gather_45 : decode c_G_gather 45 = .ok (.invokevirtual 43, 3) := by decide +kernel
theorem d_G_gather_48 : decode c_G_gather 48 = .ok (.invokevirtual 49, 3) := by decide +kernel
theorem d_G_gather_51 : decode c_G_gather 51 = .ok (.iinc 2 1, 3) := by decide +kernel
theorem d_G_gather_54 : decode c_G_gather 54 = .ok (.goto (-47), 3) := by decide +kernel
theorem d_G_gather_57 : decode c_G_gather 57 = .ok (.return_, 1) := by decide +kernel
theorem d_U_size_0 : decode c_U_size 0 = .ok (.aload_n 0, 1) := by decide +kernel
theorem d_U_size_1 : decode c_U_size 1 = .ok (.getfield 40, 3) := by decide +kernel
theorem d_U_size_4 : decode c_U_size 4 = .ok (.ireturn, 1) := by decide +kernel
theorem d_U_passesAndCovers_0 : decode c_U_passesAndCovers 0 = .ok (.aload_n 0, 1) := by decide +kernel
theorem d_U_passesAndCovers_1 : decode c_U_passesAndCovers 1 = .ok (.getfield 31, 3) := by decide +kernel
theorem d_U_passesAndCovers_4 : decode c_U_passesAndCovers 4 = .ok (.iload_n 1, 1) := by decide +kernel
theorem d_U_passesAndCovers_5 : decode c_U_passesAndCovers 5 = .ok (.iaload, 1) := by decide +kernel
theorem d_U_passesAndCovers_6 : decode c_U_passesAndCovers 6 = .ok (.iconst 1, 1) := by decide +kernel
theorem d_U_passesAndCovers_7 : decode c_U_passesAndCovers 7 = .ok (.if_icmp .ne 23, 3) := by decide +kernel
theorem d_U_passesAndCovers_10 : decode c_U_passesAndCovers 10 = .ok (.aload_n 0, 1) := by decide +kernel
theorem d_U_passesAndCovers_11 : decode c_U_passesAndCovers 11 = .ok (.getfield 37, 3) := by decide +kernel
theorem d_U_passesAndCovers_14 : decode c_U_passesAndCovers 14 = .ok (.iload_n 1, 1) := by decide +kernel
theorem d_U_passesAndCovers_15 : decode c_U_passesAndCovers 15 = .ok (.laload, 1) := by decide +kernel
theorem d_U_passesAndCovers_16 : decode c_U_passesAndCovers 16 = .ok (.iload_n 2, 1) := by decide +kernel
theorem d_U_passesAndCovers_17 : decode c_U_passesAndCovers 17 = .ok (.invokestatic 44, 3) := by decide +kernel
theorem d_U_passesAndCovers_20 : decode c_U_passesAndCovers 20 = .ok (.land, 1) := by decide +kernel
theorem d_U_passesAndCovers_21 : decode c_U_passesAndCovers 21 = .ok (.lconst 0, 1) := by decide +kernel
theorem d_U_passesAndCovers_22 : decode c_U_passesAndCovers 22 = .ok (.lcmp, 1) := by decide +kernel
theorem d_U_passesAndCovers_23 : decode c_U_passesAndCovers 23 = .ok (.ifCond .eq 7, 3) := by decide +kernel
theorem d_U_passesAndCovers_26 : decode c_U_passesAndCovers 26 = .ok (.iconst 1, 1) := by decide +kernel
theorem d_U_passesAndCovers_27 : decode c_U_passesAndCovers 27 = .ok (.goto 4, 3) := by decide +kernel
theorem d_U_passesAndCovers_30 : decode c_U_passesAndCovers 30 = .ok (.iconst 0, 1) := by decide +kernel
theorem d_U_passesAndCovers_31 : decode c_U_passesAndCovers 31 = .ok (.ireturn, 1) := by decide +kernel
theorem d_U_rootOf_0 : decode c_U_rootOf 0 = .ok (.aload_n 0, 1) := by decide +kernel
theorem d_U_rootOf_1 : decode c_U_rootOf 1 = .ok (.getfield 20, 3) := by decide +kernel
theorem d_U_rootOf_4 : decode c_U_rootOf 4 = .ok (.iload_n 1, 1) := by decide +kernel
theorem d_U_rootOf_5 : decode c_U_rootOf 5 = .ok (.iaload, 1) := by decide +kernel
theorem d_U_rootOf_6 : decode c_U_rootOf 6 = .ok (.ireturn, 1) := by decide +kernel
theorem d_T_wayBetween_0 : decode c_T_wayBetween 0 = .ok (.iload_n 2, 1) := by decide +kernel
theorem d_T_wayBetween_1 : decode c_T_wayBetween 1 = .ok (.iload_n 1, 1) := by decide +kernel
theorem d_T_wayBetween_2 : decode c_T_wayBetween 2 = .ok (.if_icmp .le 5, 3) := by decide +kernel
theorem d_T_wayBetween_5 : decode c_T_wayBetween 5 = .ok (.iconst (-1), 1) := by decide +kernel
theorem d_T_wayBetween_6 : decode c_T_wayBetween 6 = .ok (.ireturn, 1) := by decide +kernel
theorem d_T_wayBetween_7 : decode c_T_wayBetween 7 = .ok (.iconst 0, 1) := by decide +kernel
theorem d_T_wayBetween_8 : decode c_T_wayBetween 8 = .ok (.istore_n 3, 1) := by decide +kernel
theorem d_T_wayBetween_9 : decode c_T_wayBetween 9 = .ok (.iload_n 3, 1) := by decide +kernel
theorem d_T_wayBetween_10 : decode c_T_wayBetween 10 = .ok (.iload_n 1, 1) := by decide +kernel
theorem d_T_wayBetween_11 : decode c_T_wayBetween 11 = .ok (.if_icmp .ge 16, 3) := by decide +kernel
theorem d_T_wayBetween_14 : decode c_T_wayBetween 14 = .ok (.aload_n 0, 1) := by decide +kernel
theorem d_T_wayBetween_15 : decode c_T_wayBetween 15 = .ok (.getfield 31, 3) := by decide +kernel
theorem d_T_wayBetween_18 : decode c_T_wayBetween 18 = .ok (.iload_n 3, 1) := by decide +kernel
theorem d_T_wayBetween_19 : decode c_T_wayBetween 19 = .ok (.iconst (-1), 1) := by decide +kernel
theorem d_T_wayBetween_20 : decode c_T_wayBetween 20 = .ok (.iastore, 1) := by decide +kernel
theorem d_T_wayBetween_21 : decode c_T_wayBetween 21 = .ok (.iinc 3 1, 3) := by decide +kernel
theorem d_T_wayBetween_24 : decode c_T_wayBetween 24 = .ok (.goto (-15), 3) := by decide +kernel
theorem d_T_wayBetween_27 : decode c_T_wayBetween 27 = .ok (.aload_n 0, 1) := by decide +kernel
theorem d_T_wayBetween_28 : decode c_T_wayBetween 28 = .ok (.getfield 31, 3) := by decide +kernel
theorem d_T_wayBetween_31 : decode c_T_wayBetween 31 = .ok (.iload_n 1, 1) := by decide +kernel
theorem d_T_wayBetween_32 : decode c_T_wayBetween 32 = .ok (.iconst 0, 1) := by decide +kernel
theorem d_T_wayBetween_33 : decode c_T_wayBetween 33 = .ok (.iastore, 1) := by decide +kernel
theorem d_T_wayBetween_34 : decode c_T_wayBetween 34 = .ok (.iload_n 1, 1) := by decide +kernel
theorem d_T_wayBetween_35 : decode c_T_wayBetween 35 = .ok (.istore_n 3, 1) := by decide +kernel
theorem d_T_wayBetween_36 : decode c_T_wayBetween 36 = .ok (.iload_n 3, 1) := by decide +kernel
theorem d_T_wayBetween_37 : decode c_T_wayBetween 37 = .ok (.iload_n 2, 1) := by decide +kernel
theorem d_T_wayBetween_38 : decode c_T_wayBetween 38 = .ok (.if_icmp .le 24, 3) := by decide +kernel
theorem d_T_wayBetween_41 : decode c_T_wayBetween 41 = .ok (.aload_n 0, 1) := by decide +kernel
theorem d_T_wayBetween_42 : decode c_T_wayBetween 42 = .ok (.getfield 31, 3) := by decide +kernel
theorem d_T_wayBetween_45 : decode c_T_wayBetween 45 = .ok (.iload_n 3, 1) := by decide +kernel
theorem d_T_wayBetween_46 : decode c_T_wayBetween 46 = .ok (.iaload, 1) := by decide +kernel
theorem d_T_wayBetween_47 : decode c_T_wayBetween 47 = .ok (.iconst (-1), 1) := by decide +kernel
theorem d_T_wayBetween_48 : decode c_T_wayBetween 48 = .ok (.if_icmp .eq 8, 3) := by decide +kernel
theorem d_T_wayBetween_51 : decode c_T_wayBetween 51 = .ok (.aload_n 0, 1) := by decide +kernel
theorem d_T_wayBetween_52 : decode c_T_wayBetween 52 = .ok (.iload_n 3, 1) := by decide +kernel
theorem d_T_wayBetween_53 : decode c_T_wayBetween 53 = .ok (.invokevirtual 49, 3) := by decide +kernel
theorem d_T_wayBetween_56 : decode c_T_wayBetween 56 = .ok (.iinc 3 (-1), 3) := by decide +kernel
theorem d_T_wayBetween_59 : decode c_T_wayBetween 59 = .ok (.goto (-23), 3) := by decide +kernel
theorem d_T_wayBetween_62 : decode c_T_wayBetween 62 = .ok (.aload_n 0, 1) := by decide +kernel
theorem d_T_wayBetween_63 : decode c_T_wayBetween 63 = .ok (.getfield 31, 3) := by decide +kernel
theorem d_T_wayBetween_66 : decode c_T_wayBetween 66 = .ok (.iload_n 2, 1) := by decide +kernel
theorem d_T_wayBetween_67 : decode c_T_wayBetween 67 = .ok (.iaload, 1) := by decide +kernel
theorem d_T_wayBetween_68 : decode c_T_wayBetween 68 = .ok (.ireturn, 1) := by decide +kernel
theorem d_T_goOnFrom_0 : decode c_T_goOnFrom 0 = .ok (.aload_n 0, 1) := by decide +kernel
theorem d_T_goOnFrom_1 : decode c_T_goOnFrom 1 = .ok (.getfield 31, 3) := by decide +kernel
theorem d_T_goOnFrom_4 : decode c_T_goOnFrom 4 = .ok (.iload_n 1, 1) := by decide +kernel
theorem d_T_goOnFrom_5 : decode c_T_goOnFrom 5 = .ok (.iaload, 1) := by decide +kernel
theorem d_T_goOnFrom_6 : decode c_T_goOnFrom 6 = .ok (.iconst 1, 1) := by decide +kernel
theorem d_T_goOnFrom_7 : decode c_T_goOnFrom 7 = .ok (.iadd, 1) := by decide +kernel
theorem d_T_goOnFrom_8 : decode c_T_goOnFrom 8 = .ok (.istore_n 2, 1) := by decide +kernel
theorem d_T_goOnFrom_9 : decode c_T_goOnFrom 9 = .ok (.aload_n 0, 1) := by decide +kernel
theorem d_T_goOnFrom_10 : decode c_T_goOnFrom 10 = .ok (.getfield 9, 3) := by decide +kernel
theorem d_T_goOnFrom_13 : decode c_T_goOnFrom 13 = .ok (.iload_n 1, 1) := by decide +kernel
theorem d_T_goOnFrom_14 : decode c_T_goOnFrom 14 = .ok (.iaload, 1) := by decide +kernel
theorem d_T_goOnFrom_15 : decode c_T_goOnFrom 15 = .ok (.invokestatic 38, 3) := by decide +kernel
theorem d_T_goOnFrom_18 : decode c_T_goOnFrom 18 = .ok (.istore_n 3, 1) := by decide +kernel
theorem d_T_goOnFrom_19 : decode c_T_goOnFrom 19 = .ok (.iload_n 3, 1) := by decide +kernel
theorem d_T_goOnFrom_20 : decode c_T_goOnFrom 20 = .ok (.ifCond .le 25, 3) := by decide +kernel
theorem d_T_goOnFrom_23 : decode c_T_goOnFrom 23 = .ok (.aload_n 0, 1) := by decide +kernel
theorem d_T_goOnFrom_24 : decode c_T_goOnFrom 24 = .ok (.aload_n 0, 1) := by decide +kernel
theorem d_T_goOnFrom_25 : decode c_T_goOnFrom 25 = .ok (.getfield 19, 3) := by decide +kernel
theorem d_T_goOnFrom_28 : decode c_T_goOnFrom 28 = .ok (.iload_n 1, 1) := by decide +kernel
theorem d_T_goOnFrom_29 : decode c_T_goOnFrom 29 = .ok (.iaload, 1) := by decide +kernel
theorem d_T_goOnFrom_30 : decode c_T_goOnFrom 30 = .ok (.iload_n 2, 1) := by decide +kernel
theorem d_T_goOnFrom_31 : decode c_T_goOnFrom 31 = .ok (.invokevirtual 53, 3) := by decide +kernel
theorem d_T_goOnFrom_34 : decode c_T_goOnFrom 34 = .ok (.aload_n 0, 1) := by decide +kernel
theorem d_T_goOnFrom_35 : decode c_T_goOnFrom 35 = .ok (.aload_n 0, 1) := by decide +kernel
theorem d_T_goOnFrom_36 : decode c_T_goOnFrom 36 = .ok (.getfield 22, 3) := by decide +kernel
theorem d_T_goOnFrom_39 : decode c_T_goOnFrom 39 = .ok (.iload_n 1, 1) := by decide +kernel
theorem d_T_goOnFrom_40 : decode c_T_goOnFrom 40 = .ok (.iaload, 1) := by decide +kernel
theorem d_T_goOnFrom_41 : decode c_T_goOnFrom 41 = .ok (.iload_n 2, 1) := by decide +kernel
theorem d_T_goOnFrom_42 : decode c_T_goOnFrom 42 = .ok (.invokevirtual 53, 3) := by decide +kernel
theorem d_T_goOnFrom_45 : decode c_T_goOnFrom 45 = .ok (.iload_n 3, 1) := by decide +kernel
theorem d_T_goOnFrom_46 : decode c_T_goOnFrom 46 = .ok (.iconst 2, 1) := by decide +kernel
theorem d_T_goOnFrom_47 : decode c_T_goOnFrom 47 = .ok (.if_icmp .le 14, 3) := by decide +kernel
theorem d_T_goOnFrom_50 : decode c_T_goOnFrom 50 = .ok (.aload_n 0, 1) := by decide +kernel
theorem d_T_goOnFrom_51 : decode c_T_goOnFrom 51 = .ok (.aload_n 0, 1) := by decide +kernel
theorem d_T_goOnFrom_52 : decode c_T_goOnFrom 52 = .ok (.getfield 25, 3) := by decide +kernel
theorem d_T_goOnFrom_55 : decode c_T_goOnFrom 55 = .ok (.iload_n 1, 1) := by decide +kernel
theorem d_T_goOnFrom_56 : decode c_T_goOnFrom 56 = .ok (.iaload, 1) := by decide +kernel
theorem d_T_goOnFrom_57 : decode c_T_goOnFrom 57 = .ok (.iload_n 2, 1) := by decide +kernel
theorem d_T_goOnFrom_58 : decode c_T_goOnFrom 58 = .ok (.invokevirtual 53, 3) := by decide +kernel
theorem d_T_goOnFrom_61 : decode c_T_goOnFrom 61 = .ok (.return_, 1) := by decide +kernel
theorem d_T_shorten_0 : decode c_T_shorten 0 = .ok (.aload_n 0, 1) := by decide +kernel
theorem d_T_shorten_1 : decode c_T_shorten 1 = .ok (.getfield 31, 3) := by decide +kernel
theorem d_T_shorten_4 : decode c_T_shorten 4 = .ok (.iload_n 1, 1) := by decide +kernel
theorem d_T_shorten_5 : decode c_T_shorten 5 = .ok (.iaload, 1) := by decide +kernel
theorem d_T_shorten_6 : decode c_T_shorten 6 = .ok (.iconst (-1), 1) := by decide +kernel
theorem d_T_shorten_7 : decode c_T_shorten 7 = .ok (.if_icmp .eq 13, 3) := by decide +kernel
theorem d_T_shorten_10 : decode c_T_shorten 10 = .ok (.aload_n 0, 1) := by decide +kernel
theorem d_T_shorten_11 : decode c_T_shorten 11 = .ok (.getfield 31, 3) := by decide +kernel
theorem d_T_shorten_14 : decode c_T_shorten 14 = .ok (.iload_n 1, 1) := by decide +kernel
theorem d_T_shorten_15 : decode c_T_shorten 15 = .ok (.iaload, 1) := by decide +kernel
theorem d_T_shorten_16 : decode c_T_shorten 16 = .ok (.iload_n 2, 1) := by decide +kernel
theorem d_T_shorten_17 : decode c_T_shorten 17 = .ok (.if_icmp .le 10, 3) := by decide +kernel
theorem d_T_shorten_20 : decode c_T_shorten 20 = .ok (.aload_n 0, 1) := by decide +kernel
theorem d_T_shorten_21 : decode c_T_shorten 21 = .ok (.getfield 31, 3) := by decide +kernel
theorem d_T_shorten_24 : decode c_T_shorten 24 = .ok (.iload_n 1, 1) := by decide +kernel
theorem d_T_shorten_25 : decode c_T_shorten 25 = .ok (.iload_n 2, 1) := by decide +kernel
theorem d_T_shorten_26 : decode c_T_shorten 26 = .ok (.iastore, 1) := by decide +kernel
theorem d_T_shorten_27 : decode c_T_shorten 27 = .ok (.return_, 1) := by decide +kernel
theorem d_G_insert_0 : decode c_G_insert 0 = .ok (.aload_n 0, 1) := by decide +kernel
theorem d_G_insert_1 : decode c_G_insert 1 = .ok (.getfield 26, 3) := by decide +kernel
theorem d_G_insert_4 : decode c_G_insert 4 = .ok (.istore_n 3, 1) := by decide +kernel
theorem d_G_insert_5 : decode c_G_insert 5 = .ok (.iload_n 3, 1) := by decide +kernel
theorem d_G_insert_6 : decode c_G_insert 6 = .ok (.ifCond .le 49, 3) := by decide +kernel
theorem d_G_insert_9 : decode c_G_insert 9 = .ok (.aload_n 0, 1) := by decide +kernel
theorem d_G_insert_10 : decode c_G_insert 10 = .ok (.getfield 23, 3) := by decide +kernel
theorem d_G_insert_13 : decode c_G_insert 13 = .ok (.iload_n 3, 1) := by decide +kernel
theorem d_G_insert_14 : decode c_G_insert 14 = .ok (.iconst 1, 1) := by decide +kernel
theorem d_G_insert_15 : decode c_G_insert 15 = .ok (.isub, 1) := by decide +kernel
theorem d_G_insert_16 : decode c_G_insert 16 = .ok (.iaload, 1) := by decide +kernel
theorem d_G_insert_17 : decode c_G_insert 17 = .ok (.iload_n 2, 1) := by decide +kernel
theorem d_G_insert_18 : decode c_G_insert 18 = .ok (.if_icmp .le 37, 3) := by decide +kernel
theorem d_G_insert_21 : decode c_G_insert 21 = .ok (.aload_n 0, 1) := by decide +kernel
theorem d_G_insert_22 : decode c_G_insert 22 = .ok (.getfield 19, 3) := by decide +kernel
theorem d_G_insert_25 : decode c_G_insert 25 = .ok (.iload_n 3, 1) := by decide +kernel
theorem d_G_insert_26 : decode c_G_insert 26 = .ok (.aload_n 0, 1) := by decide +kernel
theorem d_G_insert_27 : decode c_G_insert 27 = .ok (.getfield 19, 3) := by decide +kernel
theorem d_G_insert_30 : decode c_G_insert 30 = .ok (.iload_n 3, 1) := by decide +kernel
theorem d_G_insert_31 : decode c_G_insert 31 = .ok (.iconst 1, 1) := by decide +kernel
theorem d_G_insert_32 : decode c_G_insert 32 = .ok (.isub, 1) := by decide +kernel
theorem d_G_insert_33 : decode c_G_insert 33 = .ok (.iaload, 1) := by decide +kernel
theorem d_G_insert_34 : decode c_G_insert 34 = .ok (.iastore, 1) := by decide +kernel
theorem d_G_insert_35 : decode c_G_insert 35 = .ok (.aload_n 0, 1) := by decide +kernel
theorem d_G_insert_36 : decode c_G_insert 36 = .ok (.getfield 23, 3) := by decide +kernel
theorem d_G_insert_39 : decode c_G_insert 39 = .ok (.iload_n 3, 1) := by decide +kernel
theorem d_G_insert_40 : decode c_G_insert 40 = .ok (.aload_n 0, 1) := by decide +kernel
theorem d_G_insert_41 : decode c_G_insert 41 = .ok (.getfield 23, 3) := by decide +kernel
theorem d_G_insert_44 : decode c_G_insert 44 = .ok (.iload_n 3, 1) := by decide +kernel
theorem d_G_insert_45 : decode c_G_insert 45 = .ok (.iconst 1, 1) := by decide +kernel
theorem d_G_insert_46 : decode c_G_insert 46 = .ok (.isub, 1) := by decide +kernel
theorem d_G_insert_47 : decode c_G_insert 47 = .ok (.iaload, 1) := by decide +kernel
theorem d_G_insert_48 : decode c_G_insert 48 = .ok (.iastore, 1) := by decide +kernel
theorem d_G_insert_49 : decode c_G_insert 49 = .ok (.iinc 3 (-1), 3) := by decide +kernel
theorem d_G_insert_52 : decode c_G_insert 52 = .ok (.goto (-47), 3) := by decide +kernel
theorem d_G_insert_55 : decode c_G_insert 55 = .ok (.aload_n 0, 1) := by decide +kernel
theorem d_G_insert_56 : decode c_G_insert 56 = .ok (.getfield 19, 3) := by decide +kernel
theorem d_G_insert_59 : decode c_G_insert 59 = .ok (.iload_n 3, 1) := by decide +kernel
theorem d_G_insert_60 : decode c_G_insert 60 = .ok (.iload_n 1, 1) := by decide +kernel
theorem d_G_insert_61 : decode c_G_insert 61 = .ok (.iastore, 1) := by decide +kernel
theorem d_G_insert_62 : decode c_G_insert 62 = .ok (.aload_n 0, 1) := by decide +kernel
theorem d_G_insert_63 : decode c_G_insert 63 = .ok (.getfield 23, 3) := by decide +kernel
theorem d_G_insert_66 : decode c_G_insert 66 = .ok (.iload_n 3, 1) := by decide +kernel
theorem d_G_insert_67 : decode c_G_insert 67 = .ok (.iload_n 2, 1) := by decide +kernel
theorem d_G_insert_68 : decode c_G_insert 68 = .ok (.iastore, 1) := by decide +kernel
theorem d_G_insert_69 : decode c_G_insert 69 = .ok (.aload_n 0, 1) := by decide +kernel
theorem d_G_insert_70 : decode c_G_insert 70 = .ok (.dup, 1) := by decide +kernel
theorem d_G_insert_71 : decode c_G_insert 71 = .ok (.getfield 26, 3) := by decide +kernel
theorem d_G_insert_74 : decode c_G_insert 74 = .ok (.iconst 1, 1) := by decide +kernel
theorem d_G_insert_75 : decode c_G_insert 75 = .ok (.iadd, 1) := by decide +kernel
theorem d_G_insert_76 : decode c_G_insert 76 = .ok (.putfield 26, 3) := by decide +kernel
theorem d_G_insert_79 : decode c_G_insert 79 = .ok (.return_, 1) := by decide +kernel
theorem d_G_size_0 : decode c_G_size 0 = .ok (.aload_n 0, 1) := by decide +kernel
theorem d_G_size_1 : decode c_G_size 1 = .ok (.getfield 26, 3) := by decide +kernel
theorem d_G_size_4 : decode c_G_size 4 = .ok (.ireturn, 1) := by decide +kernel
theorem d_G_at_0 : decode c_G_at 0 = .ok (.iload_n 1, 1) := by decide +kernel
theorem d_G_at_1 : decode c_G_at 1 = .ok (.ifCond .lt 20, 3) := by decide +kernel
theorem d_G_at_4 : decode c_G_at 4 = .ok (.iload_n 1, 1) := by decide +kernel
theorem d_G_at_5 : decode c_G_at 5 = .ok (.aload_n 0, 1) := by decide +kernel
theorem d_G_at_6 : decode c_G_at 6 = .ok (.getfield 26, 3) := by decide +kernel
theorem d_G_at_9 : decode c_G_at 9 = .ok (.if_icmp .ge 12, 3) := by decide +kernel
theorem d_G_at_12 : decode c_G_at 12 = .ok (.aload_n 0, 1) := by decide +kernel
theorem d_G_at_13 : decode c_G_at 13 = .ok (.getfield 19, 3) := by decide +kernel
theorem d_G_at_16 : decode c_G_at 16 = .ok (.iload_n 1, 1) := by decide +kernel
theorem d_G_at_17 : decode c_G_at 17 = .ok (.iaload, 1) := by decide +kernel
theorem d_G_at_18 : decode c_G_at 18 = .ok (.goto 4, 3) := by decide +kernel
theorem d_G_at_21 : decode c_G_at 21 = .ok (.iconst (-1), 1) := by decide +kernel
theorem d_G_at_22 : decode c_G_at 22 = .ok (.ireturn, 1) := by decide +kernel
theorem d_U_judge_0 : decode c_U_judge 0 = .ok (.aload_n 0, 1) := by decide +kernel
theorem d_U_judge_1 : decode c_U_judge 1 = .ok (.getfield 14, 3) := by decide +kernel
theorem d_U_judge_4 : decode c_U_judge 4 = .ok (.iload_n 2, 1) := by decide +kernel
theorem d_U_judge_5 : decode c_U_judge 5 = .ok (.iload_n 3, 1) := by decide +kernel
theorem d_U_judge_6 : decode c_U_judge 6 = .ok (.invokevirtual 52, 3) := by decide +kernel
theorem d_U_judge_9 : decode c_U_judge 9 = .ok (.aload_n 0, 1) := by decide +kernel
theorem d_U_judge_10 : decode c_U_judge 10 = .ok (.getfield 14, 3) := by decide +kernel
theorem d_U_judge_13 : decode c_U_judge 13 = .ok (.aload_n 0, 1) := by decide +kernel
theorem d_U_judge_14 : decode c_U_judge 14 = .ok (.getfield 20, 3) := by decide +kernel
theorem d_U_judge_17 : decode c_U_judge 17 = .ok (.iload_n 1, 1) := by decide +kernel
theorem d_U_judge_18 : decode c_U_judge 18 = .ok (.iaload, 1) := by decide +kernel
theorem d_U_judge_19 : decode c_U_judge 19 = .ok (.aload_n 0, 1) := by decide +kernel
theorem d_U_judge_20 : decode c_U_judge 20 = .ok (.getfield 24, 3) := by decide +kernel
theorem d_U_judge_23 : decode c_U_judge 23 = .ok (.iload_n 1, 1) := by decide +kernel
theorem d_U_judge_24 : decode c_U_judge 24 = .ok (.laload, 1) := by decide +kernel
theorem d_U_judge_25 : decode c_U_judge 25 = .ok (.iload 4, 2) := by decide +kernel
theorem d_U_judge_27 : decode c_U_judge 27 = .ok (.invokevirtual 56, 3) := by decide +kernel
theorem d_U_judge_30 : decode c_U_judge 30 = .ok (.lstore 5, 2) := by decide +kernel
theorem d_U_judge_32 : decode c_U_judge 32 = .ok (.aload_n 0, 1) := by decide +kernel
theorem d_U_judge_33 : decode c_U_judge 33 = .ok (.getfield 14, 3) := by decide +kernel
theorem d_U_judge_36 : decode c_U_judge 36 = .ok (.invokevirtual 60, 3) := by decide +kernel
theorem d_U_judge_39 : decode c_U_judge 39 = .ok (.aload_n 0, 1) := by decide +kernel
theorem d_U_judge_40 : decode c_U_judge 40 = .ok (.getfield 14, 3) := by decide +kernel
theorem d_U_judge_43 : decode c_U_judge 43 = .ok (.invokevirtual 63, 3) := by decide +kernel
theorem d_U_judge_46 : decode c_U_judge 46 = .ok (.ifCond .eq 5, 3) := by decide +kernel
theorem d_U_judge_49 : decode c_U_judge 49 = .ok (.iconst 2, 1) := by decide +kernel
theorem d_U_judge_50 : decode c_U_judge 50 = .ok (.ireturn, 1) := by decide +kernel
theorem d_U_judge_51 : decode c_U_judge 51 = .ok (.lload 5, 2) := by decide +kernel
theorem d_U_judge_53 : decode c_U_judge 53 = .ok (.aload_n 0, 1) := by decide +kernel
theorem d_U_judge_54 : decode c_U_judge 54 = .ok (.getfield 28, 3) := by decide +kernel
theorem d_U_judge_57 : decode c_U_judge 57 = .ok (.iload_n 1, 1) := by decide +kernel
theorem d_U_judge_58 : decode c_U_judge 58 = .ok (.laload, 1) := by decide +kernel
theorem d_U_judge_59 : decode c_U_judge 59 = .ok (.lcmp, 1) := by decide +kernel
theorem d_U_judge_60 : decode c_U_judge 60 = .ok (.ifCond .ne 7, 3) := by decide +kernel
theorem d_U_judge_63 : decode c_U_judge 63 = .ok (.iconst 0, 1) := by decide +kernel
theorem d_U_judge_64 : decode c_U_judge 64 = .ok (.goto 4, 3) := by decide +kernel
theorem d_U_judge_67 : decode c_U_judge 67 = .ok (.iconst 1, 1) := by decide +kernel
theorem d_U_judge_68 : decode c_U_judge 68 = .ok (.ireturn, 1) := by decide +kernel
theorem d_K_changeAt_0 : decode c_K_changeAt 0 = .ok (.aload_n 0, 1) := by decide +kernel
theorem d_K_changeAt_1 : decode c_K_changeAt 1 = .ok (.iload_n 1, 1) := by decide +kernel
theorem d_K_changeAt_2 : decode c_K_changeAt 2 = .ok (.putfield 15, 3) := by decide +kernel
theorem d_K_changeAt_5 : decode c_K_changeAt 5 = .ok (.aload_n 0, 1) := by decide +kernel
theorem d_K_changeAt_6 : decode c_K_changeAt 6 = .ok (.iload_n 2, 1) := by decide +kernel
theorem d_K_changeAt_7 : decode c_K_changeAt 7 = .ok (.putfield 19, 3) := by decide +kernel
theorem d_K_changeAt_10 : decode c_K_changeAt 10 = .ok (.return_, 1) := by decide +kernel
theorem d_K_unchange_0 : decode c_K_unchange 0 = .ok (.aload_n 0, 1) := by decide +kernel
theorem d_K_unchange_1 : decode c_K_unchange 1 = .ok (.iconst (-1), 1) := by decide +kernel
theorem d_K_unchange_2 : decode c_K_unchange 2 = .ok (.putfield 15, 3) := by decide +kernel
theorem d_K_unchange_5 : decode c_K_unchange 5 = .ok (.aload_n 0, 1) := by decide +kernel
theorem d_K_unchange_6 : decode c_K_unchange 6 = .ok (.iconst (-1), 1) := by decide +kernel
theorem d_K_unchange_7 : decode c_K_unchange 7 = .ok (.putfield 19, 3) := by decide +kernel
theorem d_K_unchange_10 : decode c_K_unchange 10 = .ok (.return_, 1) := by decide +kernel
theorem d_M_order_0 : decode c_M_order 0 = .ok (.aload_n 0, 1) := by decide +kernel
theorem d_M_order_1 : decode c_M_order 1 = .ok (.getfield 28, 3) := by decide +kernel
theorem d_M_order_4 : decode c_M_order 4 = .ok (.iload_n 1, 1) := by decide +kernel
theorem d_M_order_5 : decode c_M_order 5 = .ok (.invokevirtual 103, 3) := by decide +kernel
theorem d_M_order_8 : decode c_M_order 8 = .ok (.ifCond .ne 5, 3) := by decide +kernel
theorem d_M_order_11 : decode c_M_order 11 = .ok (.iconst (-1), 1) := by decide +kernel
theorem d_M_order_12 : decode c_M_order 12 = .ok (.ireturn, 1) := by decide +kernel
theorem d_M_order_13 : decode c_M_order 13 = .ok (.aload_n 0, 1) := by decide +kernel
theorem d_M_order_14 : decode c_M_order 14 = .ok (.getfield 37, 3) := by decide +kernel
theorem d_M_order_17 : decode c_M_order 17 = .ok (.aload_n 0, 1) := by decide +kernel
theorem d_M_order_18 : decode c_M_order 18 = .ok (.getfield 28, 3) := by decide +kernel
theorem d_M_order_21 : decode c_M_order 21 = .ok (.iload_n 1, 1) := by decide +kernel
theorem d_M_order_22 : decode c_M_order 22 = .ok (.invokevirtual 105, 3) := by decide +kernel
theorem d_M_order_25 : decode c_M_order 25 = .ok (.invokevirtual 117, 3) := by decide +kernel
theorem d_M_order_28 : decode c_M_order 28 = .ok (.aload_n 0, 1) := by decide +kernel
theorem d_M_order_29 : decode c_M_order 29 = .ok (.getfield 37, 3) := by decide +kernel
theorem d_M_order_32 : decode c_M_order 32 = .ok (.iload_n 2, 1) := by decide +kernel
theorem d_M_order_33 : decode c_M_order 33 = .ok (.invokevirtual 122, 3) := by decide +kernel
theorem d_M_order_36 : decode c_M_order 36 = .ok (.ireturn, 1) := by decide +kernel
theorem d_M_distance_0 : decode c_M_distance 0 = .ok (.aload_n 0, 1) := by decide +kernel
theorem d_M_distance_1 : decode c_M_distance 1 = .ok (.getfield 21, 3) := by decide +kernel
theorem d_M_distance_4 : decode c_M_distance 4 = .ok (.iload_n 1, 1) := by decide +kernel
theorem d_M_distance_5 : decode c_M_distance 5 = .ok (.invokevirtual 60, 3) := by decide +kernel
theorem d_M_distance_8 : decode c_M_distance 8 = .ok (.ifCond .eq 14, 3) := by decide +kernel
theorem d_M_distance_11 : decode c_M_distance 11 = .ok (.aload_n 0, 1) := by decide +kernel
theorem d_M_distance_12 : decode c_M_distance 12 = .ok (.getfield 10, 3) := by decide +kernel
theorem d_M_distance_15 : decode c_M_distance 15 = .ok (.iload_n 2, 1) := by decide +kernel
theorem d_M_distance_16 : decode c_M_distance 16 = .ok (.invokevirtual 52, 3) := by decide +kernel
theorem d_M_distance_19 : decode c_M_distance 19 = .ok (.ifCond .ne 5, 3) := by decide +kernel
theorem d_M_distance_22 : decode c_M_distance 22 = .ok (.iconst (-1), 1) := by decide +kernel
theorem d_M_distance_23 : decode c_M_distance 23 = .ok (.ireturn, 1) := by decide +kernel
theorem d_M_distance_24 : decode c_M_distance 24 = .ok (.aload_n 0, 1) := by decide +kernel
theorem d_M_distance_25 : decode c_M_distance 25 = .ok (.getfield 10, 3) := by decide +kernel
theorem d_M_distance_28 : decode c_M_distance 28 = .ok (.aload_n 0, 1) := by decide +kernel
theorem d_M_distance_29 : decode c_M_distance 29 = .ok (.getfield 21, 3) := by decide +kernel
theorem d_M_distance_32 : decode c_M_distance 32 = .ok (.iload_n 1, 1) := by decide +kernel
theorem d_M_distance_33 : decode c_M_distance 33 = .ok (.invokevirtual 133, 3) := by decide +kernel
theorem d_M_distance_36 : decode c_M_distance 36 = .ok (.iload_n 2, 1) := by decide +kernel
theorem d_M_distance_37 : decode c_M_distance 37 = .ok (.invokevirtual 136, 3) := by decide +kernel
theorem d_M_distance_40 : decode c_M_distance 40 = .ok (.ireturn, 1) := by decide +kernel
theorem d_M_change_0 : decode c_M_change 0 = .ok (.aload_n 0, 1) := by decide +kernel
theorem d_M_change_1 : decode c_M_change 1 = .ok (.getfield 10, 3) := by decide +kernel
theorem d_M_change_4 : decode c_M_change 4 = .ok (.iload_n 1, 1) := by decide +kernel
theorem d_M_change_5 : decode c_M_change 5 = .ok (.invokevirtual 52, 3) := by decide +kernel
theorem d_M_change_8 : decode c_M_change 8 = .ok (.ifCond .eq 14, 3) := by decide +kernel
theorem d_M_change_11 : decode c_M_change 11 = .ok (.aload_n 0, 1) := by decide +kernel
theorem d_M_change_12 : decode c_M_change 12 = .ok (.getfield 10, 3) := by decide +kernel
theorem d_M_change_15 : decode c_M_change 15 = .ok (.iload_n 1, 1) := by decide +kernel
theorem d_M_change_16 : decode c_M_change 16 = .ok (.invokevirtual 93, 3) := by decide +kernel
theorem d_M_change_19 : decode c_M_change 19 = .ok (.ifCond .eq 5, 3) := by decide +kernel
theorem d_M_change_22 : decode c_M_change 22 = .ok (.iconst (-1), 1) := by decide +kernel
theorem d_M_change_23 : decode c_M_change 23 = .ok (.ireturn, 1) := by decide +kernel
theorem d_M_change_24 : decode c_M_change 24 = .ok (.aload_n 0, 1) := by decide +kernel
theorem d_M_change_25 : decode c_M_change 25 = .ok (.getfield 10, 3) := by decide +kernel
theorem d_M_change_28 : decode c_M_change 28 = .ok (.iload_n 1, 1) := by decide +kernel
theorem d_M_change_29 : decode c_M_change 29 = .ok (.invokevirtual 140, 3) := by decide +kernel
theorem d_M_change_32 : decode c_M_change 32 = .ok (.lload_n 2, 1) := by decide +kernel
theorem d_M_change_33 : decode c_M_change 33 = .ok (.lcmp, 1) := by decide +kernel
theorem d_M_change_34 : decode c_M_change 34 = .ok (.ifCond .eq 27, 3) := by decide +kernel
theorem d_M_change_37 : decode c_M_change 37 = .ok (.aload_n 0, 1) := by decide +kernel
theorem d_M_change_38 : decode c_M_change 38 = .ok (.getfield 10, 3) := by decide +kernel
theorem d_M_change_41 : decode c_M_change 41 = .ok (.iload_n 1, 1) := by decide +kernel
theorem d_M_change_42 : decode c_M_change 42 = .ok (.lload_n 2, 1) := by decide +kernel
theorem d_M_change_43 : decode c_M_change 43 = .ok (.invokevirtual 143, 3) := by decide +kernel
theorem d_M_change_46 : decode c_M_change 46 = .ok (.aload_n 0, 1) := by decide +kernel
theorem d_M_change_47 : decode c_M_change 47 = .ok (.getfield 28, 3) := by decide +kernel
theorem d_M_change_50 : decode c_M_change 50 = .ok (.aload_n 0, 1) := by decide +kernel
theorem d_M_change_51 : decode c_M_change 51 = .ok (.getfield 21, 3) := by decide +kernel
theorem d_M_change_54 : decode c_M_change 54 = .ok (.iload_n 1, 1) := by decide +kernel
theorem d_M_change_55 : decode c_M_change 55 = .ok (.invokevirtual 147, 3) := by decide +kernel
theorem d_M_change_58 : decode c_M_change 58 = .ok (.invokevirtual 150, 3) := by decide +kernel
theorem d_M_change_61 : decode c_M_change 61 = .ok (.aload_n 0, 1) := by decide +kernel
theorem d_M_change_62 : decode c_M_change 62 = .ok (.getfield 21, 3) := by decide +kernel
theorem d_M_change_65 : decode c_M_change 65 = .ok (.invokevirtual 154, 3) := by decide +kernel
theorem d_M_change_68 : decode c_M_change 68 = .ok (.ireturn, 1) := by decide +kernel
theorem d_T_renumber_0 : decode c_T_renumber 0 = .ok (.aload_n 0, 1) := by decide +kernel
theorem d_T_renumber_1 : decode c_T_renumber 1 = .ok (.getfield 15, 3) := by decide +kernel
theorem d_T_renumber_4 : decode c_T_renumber 4 = .ok (.iload_n 1, 1) := by decide +kernel
theorem d_T_renumber_5 : decode c_T_renumber 5 = .ok (.lload_n 2, 1) := by decide +kernel
theorem d_T_renumber_6 : decode c_T_renumber 6 = .ok (.lastore, 1) := by decide +kernel
theorem d_T_renumber_7 : decode c_T_renumber 7 = .ok (.iload_n 1, 1) := by decide +kernel
theorem d_T_renumber_8 : decode c_T_renumber 8 = .ok (.istore 4, 2) := by decide +kernel
theorem d_T_renumber_10 : decode c_T_renumber 10 = .ok (.iload 4, 2) := by decide +kernel
theorem d_T_renumber_12 : decode c_T_renumber 12 = .ok (.aload_n 0, 1) := by decide +kernel
theorem d_T_renumber_13 : decode c_T_renumber 13 = .ok (.getfield 34, 3) := by decide +kernel
theorem d_T_renumber_16 : decode c_T_renumber 16 = .ok (.if_icmp .ge 22, 3) := by decide +kernel
theorem d_T_renumber_19 : decode c_T_renumber 19 = .ok (.aload_n 0, 1) := by decide +kernel
theorem d_T_renumber_20 : decode c_T_renumber 20 = .ok (.getfield 28, 3) := by decide +kernel
theorem d_T_renumber_23 : decode c_T_renumber 23 = .ok (.iload 4, 2) := by decide +kernel
theorem d_T_renumber_25 : decode c_T_renumber 25 = .ok (.aload_n 0, 1) := by decide +kernel
theorem d_T_renumber_26 : decode c_T_renumber 26 = .ok (.iload 4, 2) := by decide +kernel
theorem d_T_renumber_28 : decode c_T_renumber 28 = .ok (.invokevirtual 46, 3) := by decide +kernel
theorem d_T_renumber_31 : decode c_T_renumber 31 = .ok (.iastore, 1) := by decide +kernel
theorem d_T_renumber_32 : decode c_T_renumber 32 = .ok (.iinc 4 1, 3) := by decide +kernel
theorem d_T_renumber_35 : decode c_T_renumber 35 = .ok (.goto (-25), 3) := by decide +kernel
theorem d_T_renumber_38 : decode c_T_renumber 38 = .ok (.return_, 1) := by decide +kernel
theorem d_U_retry_0 : decode c_U_retry 0 = .ok (.lconst 0, 1) := by decide +kernel
theorem d_U_retry_1 : decode c_U_retry 1 = .ok (.lstore_n 2, 1) := by decide +kernel
theorem d_U_retry_2 : decode c_U_retry 2 = .ok (.iconst 0, 1) := by decide +kernel
theorem d_U_retry_3 : decode c_U_retry 3 = .ok (.istore 4, 2) := by decide +kernel
theorem d_U_retry_5 : decode c_U_retry 5 = .ok (.iload 4, 2) := by decide +kernel
theorem d_U_retry_7 : decode c_U_retry 7 = .ok (.aload_n 0, 1) := by decide +kernel
theorem d_U_retry_8 : decode c_U_retry 8 = .ok (.getfield 40, 3) := by decide +kernel
theorem d_U_retry_11 : decode c_U_retry 11 = .ok (.if_icmp .ge 52, 3) := by decide +kernel
theorem d_U_retry_14 : decode c_U_retry 14 = .ok (.aload_n 0, 1) := by decide +kernel
theorem d_U_retry_15 : decode c_U_retry 15 = .ok (.getfield 37, 3) := by decide +kernel
theorem d_U_retry_18 : decode c_U_retry 18 = .ok (.iload 4, 2) := by decide +kernel
theorem d_U_retry_20 : decode c_U_retry 20 = .ok (.laload, 1) := by decide +kernel
theorem d_U_retry_21 : decode c_U_retry 21 = .ok (.iload_n 1, 1) := by decide +kernel
theorem d_U_retry_22 : decode c_U_retry 22 = .ok (.invokestatic 44, 3) := by decide +kernel
theorem d_U_retry_25 : decode c_U_retry 25 = .ok (.land, 1) := by decide +kernel
theorem d_U_retry_26 : decode c_U_retry 26 = .ok (.lconst 0, 1) := by decide +kernel
theorem d_U_retry_27 : decode c_U_retry 27 = .ok (.lcmp, 1) := by decide +kernel
theorem d_U_retry_28 : decode c_U_retry 28 = .ok (.ifCond .eq 29, 3) := by decide +kernel
theorem d_U_retry_31 : decode c_U_retry 31 = .ok (.lload_n 2, 1) := by decide +kernel
theorem d_U_retry_32 : decode c_U_retry 32 = .ok (.aload_n 0, 1) := by decide +kernel
theorem d_U_retry_33 : decode c_U_retry 33 = .ok (.getfield 37, 3) := by decide +kernel
theorem d_U_retry_36 : decode c_U_retry 36 = .ok (.iload 4, 2) := by decide +kernel
theorem d_U_retry_38 : decode c_U_retry 38 = .ok (.laload, 1) := by decide +kernel
theorem d_U_retry_39 : decode c_U_retry 39 = .ok (.lor, 1) := by decide +kernel
theorem d_U_retry_40 : decode c_U_retry 40 = .ok (.lstore_n 2, 1) := by decide +kernel
theorem d_U_retry_41 : decode c_U_retry 41 = .ok (.aload_n 0, 1) := by decide +kernel
theorem d_U_retry_42 : decode c_U_retry 42 = .ok (.iload 4, 2) := by decide +kernel
theorem d_U_retry_44 : decode c_U_retry 44 = .ok (.invokevirtual 48, 3) := by decide +kernel
theorem d_U_retry_47 : decode c_U_retry 47 = .ok (.lload_n 2, 1) := by decide +kernel
theorem d_U_retry_48 : decode c_U_retry 48 = .ok (.aload_n 0, 1) := by decide +kernel
theorem d_U_retry_49 : decode c_U_retry 49 = .ok (.getfield 37, 3) := by decide +kernel
theorem d_U_retry_52 : decode c_U_retry 52 = .ok (.iload 4, 2) := by decide +kernel
theorem d_U_retry_54 : decode c_U_retry 54 = .ok (.laload, 1) := by decide +kernel
theorem d_U_retry_55 : decode c_U_retry 55 = .ok (.lor, 1) := by decide +kernel
theorem d_U_retry_56 : decode c_U_retry 56 = .ok (.lstore_n 2, 1) := by decide +kernel
theorem d_U_retry_57 : decode c_U_retry 57 = .ok (.iinc 4 1, 3) := by decide +kernel
theorem d_U_retry_60 : decode c_U_retry 60 = .ok (.goto (-55), 3) := by decide +kernel
theorem d_U_retry_63 : decode c_U_retry 63 = .ok (.lload_n 2, 1) := by decide +kernel
theorem d_U_retry_64 : decode c_U_retry 64 = .ok (.lreturn, 1) := by decide +kernel
theorem d_N_forget_0 : decode c_N_forget 0 = .ok (.iconst 0, 1) := by decide +kernel
theorem d_N_forget_1 : decode c_N_forget 1 = .ok (.istore_n 3, 1) := by decide +kernel
theorem d_N_forget_2 : decode c_N_forget 2 = .ok (.iload_n 3, 1) := by decide +kernel
theorem d_N_forget_3 : decode c_N_forget 3 = .ok (.aload_n 0, 1) := by decide +kernel
theorem d_N_forget_4 : decode c_N_forget 4 = .ok (.getfield 32, 3) := by decide +kernel
theorem d_N_forget_7 : decode c_N_forget 7 = .ok (.if_icmp .ge 32, 3) := by decide +kernel
theorem d_N_forget_10 : decode c_N_forget 10 = .ok (.lload_n 1, 1) := by decide +kernel
theorem d_N_forget_11 : decode c_N_forget 11 = .ok (.aload_n 0, 1) := by decide +kernel
theorem d_N_forget_12 : decode c_N_forget 12 = .ok (.getfield 19, 3) := by decide +kernel
theorem d_N_forget_15 : decode c_N_forget 15 = .ok (.iload_n 3, 1) := by decide +kernel
theorem d_N_forget_16 : decode c_N_forget 16 = .ok (.iaload, 1) := by decide +kernel
theorem d_N_forget_17 : decode c_N_forget 17 = .ok (.invokestatic 36, 3) := by decide +kernel
theorem d_N_forget_20 : decode c_N_forget 20 = .ok (.land, 1) := by decide +kernel
theorem d_N_forget_21 : decode c_N_forget 21 = .ok (.lconst 0, 1) := by decide +kernel
theorem d_N_forget_22 : decode c_N_forget 22 = .ok (.lcmp, 1) := by decide +kernel
theorem d_N_forget_23 : decode c_N_forget 23 = .ok (.ifCond .eq 10, 3) := by decide +kernel
theorem d_N_forget_26 : decode c_N_forget 26 = .ok (.aload_n 0, 1) := by decide +kernel
theorem d_N_forget_27 : decode c_N_forget 27 = .ok (.iload_n 3, 1) := by decide +kernel
theorem d_N_forget_28 : decode c_N_forget 28 = .ok (.iconst (-1), 1) := by decide +kernel
theorem d_N_forget_29 : decode c_N_forget 29 = .ok (.iconst (-1), 1) := by decide +kernel
theorem d_N_forget_30 : decode c_N_forget 30 = .ok (.invokevirtual 40, 3) := by decide +kernel
theorem d_N_forget_33 : decode c_N_forget 33 = .ok (.iinc 3 1, 3) := by decide +kernel
theorem d_N_forget_36 : decode c_N_forget 36 = .ok (.goto (-34), 3) := by decide +kernel
theorem d_N_forget_39 : decode c_N_forget 39 = .ok (.return_, 1) := by decide +kernel
theorem d_U_countPassing_0 : decode c_U_countPassing 0 = .ok (.iconst 0, 1) := by decide +kernel
theorem d_U_countPassing_1 : decode c_U_countPassing 1 = .ok (.istore_n 1, 1) := by decide +kernel
theorem d_U_countPassing_2 : decode c_U_countPassing 2 = .ok (.iconst 0, 1) := by decide +kernel
theorem d_U_countPassing_3 : decode c_U_countPassing 3 = .ok (.istore_n 2, 1) := by decide +kernel
theorem d_U_countPassing_4 : decode c_U_countPassing 4 = .ok (.iload_n 2, 1) := by decide +kernel
theorem d_U_countPassing_5 : decode c_U_countPassing 5 = .ok (.aload_n 0, 1) := by decide +kernel
theorem d_U_countPassing_6 : decode c_U_countPassing 6 = .ok (.getfield 40, 3) := by decide +kernel
theorem d_U_countPassing_9 : decode c_U_countPassing 9 = .ok (.if_icmp .ge 22, 3) := by decide +kernel
theorem d_U_countPassing_12 : decode c_U_countPassing 12 = .ok (.aload_n 0, 1) := by decide +kernel
theorem d_U_countPassing_13 : decode c_U_countPassing 13 = .ok (.getfield 31, 3) := by decide +kernel
theorem d_U_countPassing_16 : decode c_U_countPassing 16 = .ok (.iload_n 2, 1) := by decide +kernel
theorem d_U_countPassing_17 : decode c_U_countPassing 17 = .ok (.iaload, 1) := by decide +kernel
theorem d_U_countPassing_18 : decode c_U_countPassing 18 = .ok (.iconst 1, 1) := by decide +kernel
theorem d_U_countPassing_19 : decode c_U_countPassing 19 = .ok (.if_icmp .ne 6, 3) := by decide +kernel
theorem d_U_countPassing_22 : decode c_U_countPassing 22 = .ok (.iinc 1 1, 3) := by decide +kernel
theorem d_U_countPassing_25 : decode c_U_countPassing 25 = .ok (.iinc 2 1, 3) := by decide +kernel
theorem d_U_countPassing_28 : decode c_U_countPassing 28 = .ok (.goto (-24), 3) := by decide +kernel
theorem d_U_countPassing_31 : decode c_U_countPassing 31 = .ok (.iload_n 1, 1) := by decide +kernel
theorem d_U_countPassing_32 : decode c_U_countPassing 32 = .ok (.ireturn, 1) := by decide +kernel
theorem d_M_sample_0 : decode c_M_sample 0 = .ok (.iload_n 3, 1) := by decide +kernel
theorem d_M_sample_1 : decode c_M_sample 1 = .ok (.ifCond .lt 14, 3) := by decide +kernel
theorem d_M_sample_4 : decode c_M_sample 4 = .ok (.iload_n 3, 1) := by decide +kernel
theorem d_M_sample_5 : decode c_M_sample 5 = .ok (.aload_n 0, 1) := by decide +kernel
theorem d_M_sample_6 : decode c_M_sample 6 = .ok (.getfield 28, 3) := by decide +kernel
theorem d_M_sample_9 : decode c_M_sample 9 = .ok (.invokevirtual 85, 3) := by decide +kernel
theorem d_M_sample_12 : decode c_M_sample 12 = .ok (.if_icmp .le 5, 3) := by decide +kernel
theorem d_M_sample_15 : decode c_M_sample 15 = .ok (.iconst 0, 1) := by decide +kernel
theorem d_M_sample_16 : decode c_M_sample 16 = .ok (.ireturn, 1) := by decide +kernel
theorem d_M_sample_17 : decode c_M_sample 17 = .ok (.aload_n 0, 1) := by decide +kernel
theorem d_M_sample_18 : decode c_M_sample 18 = .ok (.getfield 44, 3) := by decide +kernel
theorem d_M_sample_21 : decode c_M_sample 21 = .ok (.lload_n 1, 1) := by decide +kernel
theorem d_M_sample_22 : decode c_M_sample 22 = .ok (.iload_n 3, 1) := by decide +kernel
theorem d_M_sample_23 : decode c_M_sample 23 = .ok (.aload_n 0, 1) := by decide +kernel
theorem d_M_sample_24 : decode c_M_sample 24 = .ok (.getfield 28, 3) := by decide +kernel
theorem d_M_sample_27 : decode c_M_sample 27 = .ok (.invokevirtual 85, 3) := by decide +kernel
theorem d_M_sample_30 : decode c_M_sample 30 = .ok (.invokevirtual 157, 3) := by decide +kernel
theorem d_M_sample_33 : decode c_M_sample 33 = .ok (.iconst 1, 1) := by decide +kernel
theorem d_M_sample_34 : decode c_M_sample 34 = .ok (.ireturn, 1) := by decide +kernel
theorem d_D_shuffle_0 : decode c_D_shuffle 0 = .ok (.iconst 0, 1) := by decide +kernel
theorem d_D_shuffle_1 : decode c_D_shuffle 1 = .ok (.istore 5, 2) := by decide +kernel
theorem d_D_shuffle_3 : decode c_D_shuffle 3 = .ok (.iload 5, 2) := by decide +kernel
theorem d_D_shuffle_5 : decode c_D_shuffle 5 = .ok (.iload 4, 2) := by decide +kernel
theorem d_D_shuffle_7 : decode c_D_shuffle 7 = .ok (.if_icmp .ge 18, 3) := by decide +kernel
theorem d_D_shuffle_10 : decode c_D_shuffle 10 = .ok (.aload_n 0, 1) := by decide +kernel
theorem d_D_shuffle_11 : decode c_D_shuffle 11 = .ok (.getfield 9, 3) := by decide +kernel
theorem d_D_shuffle_14 : decode c_D_shuffle 14 = .ok (.iload 5, 2) := by decide +kernel
theorem d_D_shuffle_16 : decode c_D_shuffle 16 = .ok (.iload 5, 2) := by decide +kernel
theorem d_D_shuffle_18 : decode c_D_shuffle 18 = .ok (.iastore, 1) := by decide +kernel
theorem d_D_shuffle_19 : decode c_D_shuffle 19 = .ok (.iinc 5 1, 3) := by decide +kernel
theorem d_D_shuffle_22 : decode c_D_shuffle 22 = .ok (.goto (-19), 3) := by decide +kernel
theorem d_D_shuffle_25 : decode c_D_shuffle 25 = .ok (.lload_n 1, 1) := by decide +kernel
theorem d_D_shuffle_26 : decode c_D_shuffle 26 = .ok (.lstore 5, 2) := by decide +kernel
theorem d_D_shuffle_28 : decode c_D_shuffle 28 = .ok (.iconst 0, 1) := by decide +kernel
theorem d_D_shuffle_29 : decode c_D_shuffle 29 = .ok (.istore 7, 2) := by decide +kernel
theorem d_D_shuffle_31 : decode c_D_shuffle 31 = .ok (.iload 7, 2) := by decide +kernel
theorem d_D_shuffle_33 : decode c_D_shuffle 33 = .ok (.iload_n 3, 1) := by decide +kernel
theorem d_D_shuffle_34 : decode c_D_shuffle 34 = .ok (.if_icmp .ge 78, 3) := by decide +kernel
theorem d_D_shuffle_37 : decode c_D_shuffle 37 = .ok (.iload 7, 2) := by decide +kernel
theorem d_D_shuffle_39 : decode c_D_shuffle 39 = .ok (.iload 4, 2) := by decide +kernel
theorem d_D_shuffle_41 : decode c_D_shuffle 41 = .ok (.if_icmp .ge 71, 3) := by decide +kernel
theorem d_D_shuffle_44 : decode c_D_shuffle 44 = .ok (.lload 5, 2) := by decide +kernel
theorem d_D_shuffle_46 : decode c_D_shuffle 46 = .ok (.ldc2_w 19, 3) := by decide +kernel
theorem d_D_shuffle_49 : decode c_D_shuffle 49 = .ok (.lmul, 1) := by decide +kernel
theorem d_D_shuffle_50 : decode c_D_shuffle 50 = .ok (.ldc2_w 21, 3) := by decide +kernel
theorem d_D_shuffle_53 : decode c_D_shuffle 53 = .ok (.ladd, 1) := by decide +kernel
theorem d_D_shuffle_54 : decode c_D_shuffle 54 = .ok (.lstore 5, 2) := by decide +kernel
theorem d_D_shuffle_56 : decode c_D_shuffle 56 = .ok (.iload 7, 2) := by decide +kernel
theorem d_D_shuffle_58 : decode c_D_shuffle 58 = .ok (.lload 5, 2) := by decide +kernel
theorem d_D_shuffle_60 : decode c_D_shuffle 60 = .ok (.bipush 33, 2) := by decide +kernel
theorem d_D_shuffle_62 : decode c_D_shuffle 62 = .ok (.lushr, 1) := by decide +kernel
theorem d_D_shuffle_63 : decode c_D_shuffle 63 = .ok (.iload 4, 2) := by decide +kernel
theorem d_D_shuffle_65 : decode c_D_shuffle 65 = .ok (.iload 7, 2) := by decide +kernel
theorem d_D_shuffle_67 : decode c_D_shuffle 67 = .ok (.isub, 1) := by decide +kernel
theorem d_D_shuffle_68 : decode c_D_shuffle 68 = .ok (.i2l, 1) := by decide +kernel
theorem d_D_shuffle_69 : decode c_D_shuffle 69 = .ok (.lrem, 1) := by decide +kernel
theorem d_D_shuffle_70 : decode c_D_shuffle 70 = .ok (.l2i, 1) := by decide +kernel
theorem d_D_shuffle_71 : decode c_D_shuffle 71 = .ok (.iadd, 1) := by decide +kernel
theorem d_D_shuffle_72 : decode c_D_shuffle 72 = .ok (.istore 8, 2) := by decide +kernel
theorem d_D_shuffle_74 : decode c_D_shuffle 74 = .ok (.aload_n 0, 1) := by decide +kernel
theorem d_D_shuffle_75 : decode c_D_shuffle 75 = .ok (.getfield 9, 3) := by decide +kernel
theorem d_D_shuffle_78 : decode c_D_shuffle 78 = .ok (.iload 7, 2) := by decide +kernel
theorem d_D_shuffle_80 : decode c_D_shuffle 80 = .ok (.iaload, 1) := by decide +kernel
theorem d_D_shuffle_81 : decode c_D_shuffle 81 = .ok (.istore 9, 2) := by decide +kernel
theorem d_D_shuffle_83 : decode c_D_shuffle 83 = .ok (.aload_n 0, 1) := by decide +kernel
theorem d_D_shuffle_84 : decode c_D_shuffle 84 = .ok (.getfield 9, 3) := by decide +kernel
theorem d_D_shuffle_87 : decode c_D_shuffle 87 = .ok (.iload 7, 2) := by decide +kernel
theorem d_D_shuffle_89 : decode c_D_shuffle 89 = .ok (.aload_n 0, 1) := by decide +kernel
theorem d_D_shuffle_90 : decode c_D_shuffle 90 = .ok (.getfield 9, 3) := by decide +kernel
theorem d_D_shuffle_93 : decode c_D_shuffle 93 = .ok (.iload 8, 2) := by decide +kernel
theorem d_D_shuffle_95 : decode c_D_shuffle 95 = .ok (.iaload, 1) := by decide +kernel
theorem d_D_shuffle_96 : decode c_D_shuffle 96 = .ok (.iastore, 1) := by decide +kernel
theorem d_D_shuffle_97 : decode c_D_shuffle 97 = .ok (.aload_n 0, 1) := by decide +kernel
theorem d_D_shuffle_98 : decode c_D_shuffle 98 = .ok (.getfield 9, 3) := by decide +kernel
theorem d_D_shuffle_101 : decode c_D_shuffle 101 = .ok (.iload 8, 2) := by decide +kernel
theorem d_D_shuffle_103 : decode c_D_shuffle 103 = .ok (.iload 9, 2) := by decide +kernel
theorem d_D_shuffle_105 : decode c_D_shuffle 105 = .ok (.iastore, 1) := by decide +kernel
theorem d_D_shuffle_106 : decode c_D_shuffle 106 = .ok (.iinc 7 1, 3) := by decide +kernel
theorem d_D_shuffle_109 : decode c_D_shuffle 109 = .ok (.goto (-78), 3) := by decide +kernel
theorem d_D_shuffle_112 : decode c_D_shuffle 112 = .ok (.aload_n 0, 1) := by decide +kernel
theorem d_D_shuffle_113 : decode c_D_shuffle 113 = .ok (.iload_n 3, 1) := by decide +kernel
theorem d_D_shuffle_114 : decode c_D_shuffle 114 = .ok (.putfield 15, 3) := by decide +kernel
theorem d_D_shuffle_117 : decode c_D_shuffle 117 = .ok (.return_, 1) := by decide +kernel
theorem d_M_sampled_0 : decode c_M_sampled 0 = .ok (.aload_n 0, 1) := by decide +kernel
theorem d_M_sampled_1 : decode c_M_sampled 1 = .ok (.getfield 44, 3) := by decide +kernel
theorem d_M_sampled_4 : decode c_M_sampled 4 = .ok (.iload_n 1, 1) := by decide +kernel
theorem d_M_sampled_5 : decode c_M_sampled 5 = .ok (.invokevirtual 161, 3) := by decide +kernel
theorem d_M_sampled_8 : decode c_M_sampled 8 = .ok (.ireturn, 1) := by decide +kernel
theorem d_D_at_0 : decode c_D_at 0 = .ok (.iload_n 1, 1) := by decide +kernel
theorem d_D_at_1 : decode c_D_at 1 = .ok (.ifCond .lt 20, 3) := by decide +kernel
theorem d_D_at_4 : decode c_D_at 4 = .ok (.iload_n 1, 1) := by decide +kernel
theorem d_D_at_5 : decode c_D_at 5 = .ok (.aload_n 0, 1) := by decide +kernel
theorem d_D_at_6 : decode c_D_at 6 = .ok (.getfield 15, 3) := by decide +kernel
theorem d_D_at_9 : decode c_D_at 9 = .ok (.if_icmp .ge 12, 3) := by decide +kernel
theorem d_D_at_12 : decode c_D_at 12 = .ok (.aload_n 0, 1) := by decide +kernel
theorem d_D_at_13 : decode c_D_at 13 = .ok (.getfield 9, 3) := by decide +kernel
theorem d_D_at_16 : decode c_D_at 16 = .ok (.iload_n 1, 1) := by decide +kernel
theorem d_D_at_17 : decode c_D_at 17 = .ok (.iaload, 1) := by decide +kernel
theorem d_D_at_18 : decode c_D_at 18 = .ok (.goto 4, 3) := by decide +kernel
theorem d_D_at_21 : decode c_D_at 21 = .ok (.iconst (-1), 1) := by decide +kernel
theorem d_D_at_22 : decode c_D_at 22 = .ok (.ireturn, 1) := by decide +kernel
theorem d_M_score_0 : decode c_M_score 0 = .ok (.iload_n 1, 1) := by decide +kernel
theorem d_M_score_1 : decode c_M_score 1 = .ok (.iconst (-1), 1) := by decide +kernel
theorem d_M_score_2 : decode c_M_score 2 = .ok (.if_icmp .eq 10, 3) := by decide +kernel
theorem d_M_score_5 : decode c_M_score 5 = .ok (.iload_n 1, 1) := by decide +kernel
theorem d_M_score_6 : decode c_M_score 6 = .ok (.invokestatic 78, 3) := by decide +kernel
theorem d_M_score_9 : decode c_M_score 9 = .ok (.ifCond .eq 12, 3) := by decide +kernel
theorem d_M_score_12 : decode c_M_score 12 = .ok (.iload_n 2, 1) := by decide +kernel
theorem d_M_score_13 : decode c_M_score 13 = .ok (.ifCond .lt 8, 3) := by decide +kernel
theorem d_M_score_16 : decode c_M_score 16 = .ok (.iload_n 2, 1) := by decide +kernel
theorem d_M_score_17 : decode c_M_score 17 = .ok (.iconst 2, 1) := by decide +kernel
theorem d_M_score_18 : decode c_M_score 18 = .ok (.if_icmp .le 5, 3) := by decide +kernel
theorem d_M_score_21 : decode c_M_score 21 = .ok (.iconst (-1), 1) := by decide +kernel
theorem d_M_score_22 : decode c_M_score 22 = .ok (.ireturn, 1) := by decide +kernel
theorem d_M_score_23 : decode c_M_score 23 = .ok (.iconst 0, 1) := by decide +kernel
theorem d_M_score_24 : decode c_M_score 24 = .ok (.istore_n 3, 1) := by decide +kernel
theorem d_M_score_25 : decode c_M_score 25 = .ok (.iconst 0, 1) := by decide +kernel
theorem d_M_score_26 : decode c_M_score 26 = .ok (.istore 4, 2) := by decide +kernel
theorem d_M_score_28 : decode c_M_score 28 = .ok (.iload 4, 2) := by decide +kernel
theorem d_M_score_30 : decode c_M_score 30 = .ok (.aload_n 0, 1) := by decide +kernel
theorem d_M_score_31 : decode c_M_score 31 = .ok (.getfield 28, 3) := by decide +kernel
theorem d_M_score_34 : decode c_M_score 34 = .ok (.invokevirtual 85, 3) := by decide +kernel
theorem d_M_score_37 : decode c_M_score 37 = .ok (.if_icmp .ge 43, 3) := by decide +kernel
theorem d_M_score_40 : decode c_M_score 40 = .ok (.iload_n 1, 1) := by decide +kernel
theorem d_M_score_41 : decode c_M_score 41 = .ok (.iconst (-1), 1) := by decide +kernel
theorem d_M_score_42 : decode c_M_score 42 = .ok (.if_icmp .eq 16, 3) := by decide +kernel
theorem d_M_score_45 : decode c_M_score 45 = .ok (.iload_n 1, 1) := by decide +kernel
theorem d_M_score_46 : decode c_M_score 46 = .ok (.aload_n 0, 1) := by decide +kernel
theorem d_M_score_47 : decode c_M_score 47 = .ok (.getfield 28, 3) := by decide +kernel
theorem d_M_score_50 : decode c_M_score 50 = .ok (.iload 4, 2) := by decide +kernel
theorem d_M_score_52 : decode c_M_score 52 = .ok (.invokevirtual 104, 3) := by decide +kernel
theorem d_M_score_55 : decode c_M_score 55 = .ok (.if_icmp .ne 19, 3) := by decide +kernel
theorem d_M_score_58 : decode c_M_score 58 = .ok (.aload_n 0, 1) := by decide +kernel
theorem d_M_score_59 : decode c_M_score 59 = .ok (.getfield 28, 3) := by decide +kernel
theorem d_M_score_62 : decode c_M_score 62 = .ok (.iload 4, 2) := by decide +kernel
theorem d_M_score_64 : decode c_M_score 64 = .ok (.iload_n 2, 1) := by decide +kernel
theorem d_M_score_65 : decode c_M_score 65 = .ok (.invokevirtual 162, 3) := by decide +kernel
theorem d_M_score_68 : decode c_M_score 68 = .ok (.ifCond .eq 6, 3) := by decide +kernel
theorem d_M_score_71 : decode c_M_score 71 = .ok (.iinc 3 1, 3) := by decide +kernel
theorem d_M_score_74 : decode c_M_score 74 = .ok (.iinc 4 1, 3) := by decide +kernel
theorem d_M_score_77 : decode c_M_score 77 = .ok (.goto (-49), 3) := by decide +kernel
theorem d_M_score_80 : decode c_M_score 80 = .ok (.iload_n 3, 1) := by decide +kernel
theorem d_M_score_81 : decode c_M_score 81 = .ok (.ireturn, 1) := by decide +kernel
theorem d_N_isOnSide_0 : decode c_N_isOnSide 0 = .ok (.aload_n 0, 1) := by decide +kernel
theorem d_N_isOnSide_1 : decode c_N_isOnSide 1 = .ok (.getfield 22, 3) := by decide +kernel
theorem d_N_isOnSide_4 : decode c_N_isOnSide 4 = .ok (.iload_n 1, 1) := by decide +kernel
theorem d_N_isOnSide_5 : decode c_N_isOnSide 5 = .ok (.iaload, 1) := by decide +kernel
theorem d_N_isOnSide_6 : decode c_N_isOnSide 6 = .ok (.istore_n 3, 1) := by decide +kernel
theorem d_N_isOnSide_7 : decode c_N_isOnSide 7 = .ok (.iload_n 2, 1) := by decide +kernel
theorem d_N_isOnSide_8 : decode c_N_isOnSide 8 = .ok (.lookupswitch 55 #[(0, 28), (1, 44)], 28) := by decide +kernel
theorem d_N_isOnSide_36 : decode c_N_isOnSide 36 = .ok (.iload_n 3, 1) := by decide +kernel
theorem d_N_isOnSide_37 : decode c_N_isOnSide 37 = .ok (.iconst 1, 1) := by decide +kernel
theorem d_N_isOnSide_38 : decode c_N_isOnSide 38 = .ok (.if_icmp .eq 8, 3) := by decide +kernel
theorem d_N_isOnSide_41 : decode c_N_isOnSide 41 = .ok (.iload_n 3, 1) := by decide +kernel
theorem d_N_isOnSide_42 : decode c_N_isOnSide 42 = .ok (.iconst 2, 1) := by decide +kernel
theorem d_N_isOnSide_43 : decode c_N_isOnSide 43 = .ok (.if_icmp .ne 7, 3) := by decide +kernel
theorem d_N_isOnSide_46 : decode c_N_isOnSide 46 = .ok (.iconst 1, 1) := by decide +kernel
theorem d_N_isOnSide_47 : decode c_N_isOnSide 47 = .ok (.goto 4, 3) := by decide +kernel
theorem d_N_isOnSide_50 : decode c_N_isOnSide 50 = .ok (.iconst 0, 1) := by decide +kernel
theorem d_N_isOnSide_51 : decode c_N_isOnSide 51 = .ok (.ireturn, 1) := by decide +kernel
theorem d_N_isOnSide_52 : decode c_N_isOnSide 52 = .ok (.iload_n 3, 1) := by decide +kernel
theorem d_N_isOnSide_53 : decode c_N_isOnSide 53 = .ok (.iconst (-1), 1) := by decide +kernel
theorem d_N_isOnSide_54 : decode c_N_isOnSide 54 = .ok (.if_icmp .eq 7, 3) := by decide +kernel
theorem d_N_isOnSide_57 : decode c_N_isOnSide 57 = .ok (.iconst 1, 1) := by decide +kernel
theorem d_N_isOnSide_58 : decode c_N_isOnSide 58 = .ok (.goto 4, 3) := by decide +kernel
theorem d_N_isOnSide_61 : decode c_N_isOnSide 61 = .ok (.iconst 0, 1) := by decide +kernel
theorem d_N_isOnSide_62 : decode c_N_isOnSide 62 = .ok (.ireturn, 1) := by decide +kernel
theorem d_N_isOnSide_63 : decode c_N_isOnSide 63 = .ok (.iload_n 3, 1) := by decide +kernel
theorem d_N_isOnSide_64 : decode c_N_isOnSide 64 = .ok (.ifCond .ne 15, 3) := by decide +kernel
theorem d_N_isOnSide_67 : decode c_N_isOnSide 67 = .ok (.aload_n 0, 1) := by decide +kernel
theorem d_N_isOnSide_68 : decode c_N_isOnSide 68 = .ok (.iload_n 1, 1) := by decide +kernel
theorem d_N_isOnSide_69 : decode c_N_isOnSide 69 = .ok (.invokevirtual 44, 3) := by decide +kernel
theorem d_N_isOnSide_72 : decode c_N_isOnSide 72 = .ok (.ifCond .ne 7, 3) := by decide +kernel
theorem d_N_isOnSide_75 : decode c_N_isOnSide 75 = .ok (.iconst 1, 1) := by decide +kernel
theorem d_N_isOnSide_76 : decode c_N_isOnSide 76 = .ok (.goto 4, 3) := by decide +kernel
theorem d_N_isOnSide_79 : decode c_N_isOnSide 79 = .ok (.iconst 0, 1) := by decide +kernel
theorem d_N_isOnSide_80 : decode c_N_isOnSide 80 = .ok (.ireturn, 1) := by decide +kernel
theorem d_M_miss_0 : decode c_M_miss 0 = .ok (.iconst 0, 1) := by decide +kernel
theorem d_M_miss_1 : decode c_M_miss 1 = .ok (.istore_n 2, 1) := by decide +kernel
theorem d_M_miss_2 : decode c_M_miss 2 = .ok (.iconst 0, 1) := by decide +kernel
theorem d_M_miss_3 : decode c_M_miss 3 = .ok (.istore_n 3, 1) := by decide +kernel
theorem d_M_miss_4 : decode c_M_miss 4 = .ok (.iload_n 3, 1) := by decide +kernel
theorem d_M_miss_5 : decode c_M_miss 5 = .ok (.aload_n 0, 1) := by decide +kernel
theorem d_M_miss_6 : decode c_M_miss 6 = .ok (.getfield 28, 3) := by decide +kernel
theorem d_M_miss_9 : decode c_M_miss 9 = .ok (.invokevirtual 85, 3) := by decide +kernel
theorem d_M_miss_12 : decode c_M_miss 12 = .ok (.if_icmp .ge 31, 3) := by decide +kernel
theorem d_M_miss_15 : decode c_M_miss 15 = .ok (.aload_n 0, 1) := by decide +kernel
theorem d_M_miss_16 : decode c_M_miss 16 = .ok (.getfield 28, 3) := by decide +kernel
theorem d_M_miss_19 : decode c_M_miss 19 = .ok (.iload_n 3, 1) := by decide +kernel
theorem d_M_miss_20 : decode c_M_miss 20 = .ok (.iconst 2, 1) := by decide +kernel
theorem d_M_miss_21 : decode c_M_miss 21 = .ok (.invokevirtual 162, 3) := by decide +kernel
theorem d_M_miss_24 : decode c_M_miss 24 = .ok (.ifCond .eq 13, 3) := by decide +kernel
theorem d_M_miss_27 : decode c_M_miss 27 = .ok (.iload_n 2, 1) := by decide +kernel
theorem d_M_miss_28 : decode c_M_miss 28 = .ok (.iload_n 1, 1) := by decide +kernel
theorem d_M_miss_29 : decode c_M_miss 29 = .ok (.if_icmp .ne 5, 3) := by decide +kernel
theorem d_M_miss_32 : decode c_M_miss 32 = .ok (.iload_n 3, 1) := by decide +kernel
theorem d_M_miss_33 : decode c_M_miss 33 = .ok (.ireturn, 1) := by decide +kernel
theorem d_M_miss_34 : decode c_M_miss 34 = .ok (.iinc 2 1, 3) := by decide +kernel
theorem d_M_miss_37 : decode c_M_miss 37 = .ok (.iinc 3 1, 3) := by decide +kernel
theorem d_M_miss_40 : decode c_M_miss 40 = .ok (.goto (-36), 3) := by decide +kernel
theorem d_M_miss_43 : decode c_M_miss 43 = .ok (.iconst (-1), 1) := by decide +kernel
theorem d_M_miss_44 : decode c_M_miss 44 = .ok (.ireturn, 1) := by decide +kernel
theorem d_R_init_0 : decode c_R_init 0 = .ok (.aload_n 0, 1) := by decide +kernel
theorem d_R_init_1 : decode c_R_init 1 = .ok (.invokespecial 1, 3) := by decide +kernel
theorem d_R_init_4 : decode c_R_init 4 = .ok (.aload_n 0, 1) := by decide +kernel
theorem d_R_init_5 : decode c_R_init 5 = .ok (.bipush 64, 2) := by decide +kernel
theorem d_R_init_7 : decode c_R_init 7 = .ok (.newarray .int, 2) := by decide +kernel
theorem d_R_init_9 : decode c_R_init 9 = .ok (.putfield 7, 3) := by decide +kernel
theorem d_R_init_12 : decode c_R_init 12 = .ok (.aload_n 0, 1) := by decide +kernel
theorem d_R_init_13 : decode c_R_init 13 = .ok (.bipush 64, 2) := by decide +kernel
theorem d_R_init_15 : decode c_R_init 15 = .ok (.newarray .long, 2) := by decide +kernel
theorem d_R_init_17 : decode c_R_init 17 = .ok (.putfield 13, 3) := by decide +kernel
theorem d_R_init_20 : decode c_R_init 20 = .ok (.aload_n 0, 1) := by decide +kernel
theorem d_R_init_21 : decode c_R_init 21 = .ok (.bipush 64, 2) := by decide +kernel
theorem d_R_init_23 : decode c_R_init 23 = .ok (.newarray .int, 2) := by decide +kernel
theorem d_R_init_25 : decode c_R_init 25 = .ok (.putfield 17, 3) := by decide +kernel
theorem d_R_init_28 : decode c_R_init 28 = .ok (.aload_n 0, 1) := by decide +kernel
theorem d_R_init_29 : decode c_R_init 29 = .ok (.bipush 64, 2) := by decide +kernel
theorem d_R_init_31 : decode c_R_init 31 = .ok (.newarray .int, 2) := by decide +kernel
theorem d_R_init_33 : decode c_R_init 33 = .ok (.putfield 20, 3) := by decide +kernel
theorem d_R_init_36 : decode c_R_init 36 = .ok (.aload_n 0, 1) := by decide +kernel
theorem d_R_init_37 : decode c_R_init 37 = .ok (.bipush 64, 2) := by decide +kernel
theorem d_R_init_39 : decode c_R_init 39 = .ok (.newarray .int, 2) := by decide +kernel
theorem d_R_init_41 : decode c_R_init 41 = .ok (.putfield 23, 3) := by decide +kernel
theorem d_R_init_44 : decode c_R_init 44 = .ok (.aload_n 0, 1) := by decide +kernel
theorem d_R_init_45 : decode c_R_init 45 = .ok (.bipush 24, 2) := by decide +kernel
theorem d_R_init_47 : decode c_R_init 47 = .ok (.newarray .int, 2) := by decide +kernel
theorem d_R_init_49 : decode c_R_init 49 = .ok (.putfield 26, 3) := by decide +kernel
theorem d_R_init_52 : decode c_R_init 52 = .ok (.aload_n 0, 1) := by decide +kernel
theorem d_R_init_53 : decode c_R_init 53 = .ok (.bipush 24, 2) := by decide +kernel
theorem d_R_init_55 : decode c_R_init 55 = .ok (.newarray .long, 2) := by decide +kernel
theorem d_R_init_57 : decode c_R_init 57 = .ok (.putfield 29, 3) := by decide +kernel
theorem d_R_init_60 : decode c_R_init 60 = .ok (.aload_n 0, 1) := by decide +kernel
theorem d_R_init_61 : decode c_R_init 61 = .ok (.bipush 24, 2) := by decide +kernel
theorem d_R_init_63 : decode c_R_init 63 = .ok (.newarray .long, 2) := by decide +kernel
theorem d_R_init_65 : decode c_R_init 65 = .ok (.putfield 32, 3) := by decide +kernel
theorem d_R_init_68 : decode c_R_init 68 = .ok (.aload_n 0, 1) := by decide +kernel
theorem d_R_init_69 : decode c_R_init 69 = .ok (.bipush 24, 2) := by decide +kernel
theorem d_R_init_71 : decode c_R_init 71 = .ok (.newarray .int, 2) := by decide +kernel
theorem d_R_init_73 : decode c_R_init 73 = .ok (.putfield 35, 3) := by decide +kernel
theorem d_R_init_76 : decode c_R_init 76 = .ok (.aload_n 0, 1) := by decide +kernel
theorem d_R_init_77 : decode c_R_init 77 = .ok (.bipush 24, 2) := by decide +kernel
theorem d_R_init_79 : decode c_R_init 79 = .ok (.newarray .int, 2) := by decide +kernel
theorem d_R_init_81 : decode c_R_init 81 = .ok (.putfield 38, 3) := by decide +kernel
theorem d_R_init_84 : decode c_R_init 84 = .ok (.aload_n 0, 1) := by decide +kernel
theorem d_R_init_85 : decode c_R_init 85 = .ok (.sipush 1536, 3) := by decide +kernel
theorem d_R_init_88 : decode c_R_init 88 = .ok (.newarray .boolean, 2) := by decide +kernel
theorem d_R_init_90 : decode c_R_init 90 = .ok (.putfield 41, 3) := by decide +kernel
theorem d_R_init_93 : decode c_R_init 93 = .ok (.aload_n 0, 1) := by decide +kernel
theorem d_R_init_94 : decode c_R_init 94 = .ok (.sipush 1536, 3) := by decide +kernel
theorem d_R_init_97 : decode c_R_init 97 = .ok (.newarray .boolean, 2) := by decide +kernel
theorem d_R_init_99 : decode c_R_init 99 = .ok (.putfield 45, 3) := by decide +kernel
theorem d_R_init_102 : decode c_R_init 102 = .ok (.aload_n 0, 1) := by decide +kernel
theorem d_R_init_103 : decode c_R_init 103 = .ok (.bipush 100, 2) := by decide +kernel
theorem d_R_init_105 : decode c_R_init 105 = .ok (.newarray .int, 2) := by decide +kernel
theorem d_R_init_107 : decode c_R_init 107 = .ok (.putfield 48, 3) := by decide +kernel
theorem d_R_init_110 : decode c_R_init 110 = .ok (.aload_n 0, 1) := by decide +kernel
theorem d_R_init_111 : decode c_R_init 111 = .ok (.bipush 100, 2) := by decide +kernel
theorem d_R_init_113 : decode c_R_init 113 = .ok (.newarray .int, 2) := by decide +kernel
theorem d_R_init_115 : decode c_R_init 115 = .ok (.putfield 51, 3) := by decide +kernel
theorem d_R_init_118 : decode c_R_init 118 = .ok (.aload_n 0, 1) := by decide +kernel
theorem d_R_init_119 : decode c_R_init 119 = .ok (.bipush 100, 2) := by decide +kernel
theorem d_R_init_121 : decode c_R_init 121 = .ok (.newarray .int, 2) := by decide +kernel
theorem d_R_init_123 : decode c_R_init 123 = .ok (.putfield 54, 3) := by decide +kernel
theorem d_R_init_126 : decode c_R_init 126 = .ok (.aload_n 0, 1) := by decide +kernel
theorem d_R_init_127 : decode c_R_init 127 = .ok (.bipush 100, 2) := by decide +kernel
theorem d_R_init_129 : decode c_R_init 129 = .ok (.newarray .int, 2) := by decide +kernel
theorem d_R_init_131 : decode c_R_init 131 = .ok (.putfield 57, 3) := by decide +kernel
theorem d_R_init_134 : decode c_R_init 134 = .ok (.aload_n 0, 1) := by decide +kernel
theorem d_R_init_135 : decode c_R_init 135 = .ok (.bipush 100, 2) := by decide +kernel
theorem d_R_init_137 : decode c_R_init 137 = .ok (.newarray .int, 2) := by decide +kernel
theorem d_R_init_139 : decode c_R_init 139 = .ok (.putfield 60, 3) := by decide +kernel
theorem d_R_init_142 : decode c_R_init 142 = .ok (.aload_n 0, 1) := by decide +kernel
theorem d_R_init_143 : decode c_R_init 143 = .ok (.iconst (-1), 1) := by decide +kernel
theorem d_R_init_144 : decode c_R_init 144 = .ok (.putfield 63, 3) := by decide +kernel
theorem d_R_init_147 : decode c_R_init 147 = .ok (.aload_n 0, 1) := by decide +kernel
theorem d_R_init_148 : decode c_R_init 148 = .ok (.iconst (-1), 1) := by decide +kernel
theorem d_R_init_149 : decode c_R_init 149 = .ok (.putfield 67, 3) := by decide +kernel
theorem d_R_init_152 : decode c_R_init 152 = .ok (.aload_n 0, 1) := by decide +kernel
theorem d_R_init_153 : decode c_R_init 153 = .ok (.bipush 64, 2) := by decide +kernel
theorem d_R_init_155 : decode c_R_init 155 = .ok (.newarray .boolean, 2) := by decide +kernel
theorem d_R_init_157 : decode c_R_init 157 = .ok (.putfield 70, 3) := by decide +kernel
theorem d_R_init_160 : decode c_R_init 160 = .ok (.aload_n 0, 1) := by decide +kernel
theorem d_R_init_161 : decode c_R_init 161 = .ok (.bipush 65, 2) := by decide +kernel
theorem d_R_init_163 : decode c_R_init 163 = .ok (.newarray .int, 2) := by decide +kernel
theorem d_R_init_165 : decode c_R_init 165 = .ok (.putfield 73, 3) := by decide +kernel
theorem d_R_init_168 : decode c_R_init 168 = .ok (.aload_n 0, 1) := by decide +kernel
theorem d_R_init_169 : decode c_R_init 169 = .ok (.bipush 65, 2) := by decide +kernel
theorem d_R_init_171 : decode c_R_init 171 = .ok (.newarray .int, 2) := by decide +kernel
theorem d_R_init_173 : decode c_R_init 173 = .ok (.putfield 76, 3) := by decide +kernel
theorem d_R_init_176 : decode c_R_init 176 = .ok (.aload_n 0, 1) := by decide +kernel
theorem d_R_init_177 : decode c_R_init 177 = .ok (.bipush 65, 2) := by decide +kernel
theorem d_R_init_179 : decode c_R_init 179 = .ok (.newarray .long, 2) := by decide +kernel
theorem d_R_init_181 : decode c_R_init 181 = .ok (.putfield 79, 3) := by decide +kernel
theorem d_R_init_184 : decode c_R_init 184 = .ok (.aload_n 0, 1) := by decide +kernel
theorem d_R_init_185 : decode c_R_init 185 = .ok (.bipush 64, 2) := by decide +kernel
theorem d_R_init_187 : decode c_R_init 187 = .ok (.newarray .int, 2) := by decide +kernel
theorem d_R_init_189 : decode c_R_init 189 = .ok (.putfield 82, 3) := by decide +kernel
theorem d_R_init_192 : decode c_R_init 192 = .ok (.aload_n 0, 1) := by decide +kernel
theorem d_R_init_193 : decode c_R_init 193 = .ok (.bipush 24, 2) := by decide +kernel
theorem d_R_init_195 : decode c_R_init 195 = .ok (.newarray .int, 2) := by decide +kernel
theorem d_R_init_197 : decode c_R_init 197 = .ok (.putfield 85, 3) := by decide +kernel
theorem d_R_init_200 : decode c_R_init 200 = .ok (.aload_n 0, 1) := by decide +kernel
theorem d_R_init_201 : decode c_R_init 201 = .ok (.sipush 4096, 3) := by decide +kernel
theorem d_R_init_204 : decode c_R_init 204 = .ok (.newarray .boolean, 2) := by decide +kernel
theorem d_R_init_206 : decode c_R_init 206 = .ok (.putfield 88, 3) := by decide +kernel
theorem d_R_init_209 : decode c_R_init 209 = .ok (.return_, 1) := by decide +kernel
theorem d_R_node_0 : decode c_R_node 0 = .ok (.aload_n 0, 1) := by decide +kernel
theorem d_R_node_1 : decode c_R_node 1 = .ok (.getfield 91, 3) := by decide +kernel
theorem d_R_node_4 : decode c_R_node 4 = .ok (.bipush 64, 2) := by decide +kernel
theorem d_R_node_6 : decode c_R_node 6 = .ok (.if_icmp .eq 15, 3) := by decide +kernel
theorem d_R_node_9 : decode c_R_node 9 = .ok (.iload_n 1, 1) := by decide +kernel
theorem d_R_node_10 : decode c_R_node 10 = .ok (.i2l, 1) := by decide +kernel
theorem d_R_node_11 : decode c_R_node 11 = .ok (.lconst 0, 1) := by decide +kernel
theorem d_R_node_12 : decode c_R_node 12 = .ok (.ldc2_w 104, 3) := by decide +kernel
theorem d_R_node_15 : decode c_R_node 15 = .ok (.invokestatic 94, 3) := by decide +kernel
theorem d_R_node_18 : decode c_R_node 18 = .ok (.ifCond .ne 5, 3) := by decide +kernel
theorem d_R_node_21 : decode c_R_node 21 = .ok (.iconst (-1), 1) := by decide +kernel
theorem d_R_node_22 : decode c_R_node 22 = .ok (.ireturn, 1) := by decide +kernel
theorem d_R_node_23 : decode c_R_node 23 = .ok (.iload_n 1, 1) := by decide +kernel
theorem d_R_node_24 : decode c_R_node 24 = .ok (.invokestatic 106, 3) := by decide +kernel
theorem d_R_node_27 : decode c_R_node 27 = .ok (.istore 6, 2) := by decide +kernel
theorem d_R_node_29 : decode c_R_node 29 = .ok (.iload 6, 2) := by decide +kernel
theorem d_R_node_31 : decode c_R_node 31 = .ok (.ifCond .le 11, 3) := by decide +kernel
theorem d_R_node_34 : decode c_R_node 34 = .ok (.aload_n 0, 1) := by decide +kernel
theorem d_R_node_35 : decode c_R_node 35 = .ok (.lload_n 2, 1) := by decide +kernel
theorem d_R_node_36 : decode c_R_node 36 = .ok (.invokevirtual 110, 3) := by decide +kernel
theorem d_R_node_39 : decode c_R_node 39 = .ok (.ifCond .eq 35, 3) := by decide +kernel
theorem d_R_node_42 : decode c_R_node 42 = .ok (.iload 6, 2) := by decide +kernel
theorem d_R_node_44 : decode c_R_node 44 = .ok (.iconst 1, 1) := by decide +kernel
theorem d_R_node_45 : decode c_R_node 45 = .ok (.if_icmp .le 13, 3) := by decide +kernel
theorem d_R_node_48 : decode c_R_node 48 = .ok (.aload_n 0, 1) := by decide +kernel
theorem d_R_node_49 : decode c_R_node 49 = .ok (.iload 4, 2) := by decide +kernel
theorem d_R_node_51 : decode c_R_node 51 = .ok (.i2l, 1) := by decide +kernel
theorem d_R_node_52 : decode c_R_node 52 = .ok (.invokevirtual 110, 3) := by decide +kernel
theorem d_R_node_55 : decode c_R_node 55 = .ok (.ifCond .eq 19, 3) := by decide +kernel
theorem d_R_node_58 : decode c_R_node 58 = .ok (.iload 6, 2) := by decide +kernel
theorem d_R_node_60 : decode c_R_node 60 = .ok (.iconst 2, 1) := by decide +kernel
theorem d_R_node_61 : decode c_R_node 61 = .ok (.if_icmp .le 15, 3) := by decide +kernel
theorem d_R_node_64 : decode c_R_node 64 = .ok (.aload_n 0, 1) := by decide +kernel
theorem d_R_node_65 : decode c_R_node 65 = .ok (.iload 5, 2) := by decide +kernel
theorem d_R_node_67 : decode c_R_node 67 = .ok (.i2l, 1) := by decide +kernel
theorem d_R_node_68 : decode c_R_node 68 = .ok (.invokevirtual 110, 3) := by decide +kernel
theorem d_R_node_71 : decode c_R_node 71 = .ok (.ifCond .ne 5, 3) := by decide +kernel
theorem d_R_node_74 : decode c_R_node 74 = .ok (.iconst (-1), 1) := by decide +kernel
theorem d_R_node_75 : decode c_R_node 75 = .ok (.ireturn, 1) := by decide +kernel
theorem d_R_node_76 : decode c_R_node 76 = .ok (.aload_n 0, 1) := by decide +kernel
theorem d_R_node_77 : decode c_R_node 77 = .ok (.getfield 7, 3) := by decide +kernel
theorem d_R_node_80 : decode c_R_node 80 = .ok (.aload_n 0, 1) := by decide +kernel
theorem d_R_node_81 : decode c_R_node 81 = .ok (.getfield 91, 3) := by decide +kernel
theorem d_R_node_84 : decode c_R_node 84 = .ok (.iload_n 1, 1) := by decide +kernel
theorem d_R_node_85 : decode c_R_node 85 = .ok (.iastore, 1) := by decide +kernel
theorem d_R_node_86 : decode c_R_node 86 = .ok (.aload_n 0, 1) := by decide +kernel
theorem d_R_node_87 : decode c_R_node 87 = .ok (.getfield 13, 3) := by decide +kernel
theorem d_R_node_90 : decode c_R_node 90 = .ok (.aload_n 0, 1) := by decide +kernel
theorem d_R_node_91 : decode c_R_node 91 = .ok (.getfield 91, 3) := by decide +kernel
theorem d_R_node_94 : decode c_R_node 94 = .ok (.iload_n 1, 1) := by decide +kernel
theorem d_R_node_95 : decode c_R_node 95 = .ok (.ifCond .ne 7, 3) := by decide +kernel
theorem d_R_node_98 : decode c_R_node 98 = .ok (.lload_n 2, 1) := by decide +kernel
theorem d_R_node_99 : decode c_R_node 99 = .ok (.goto 4, 3) := by decide +kernel
theorem d_R_node_102 : decode c_R_node 102 = .ok (.lconst 0, 1) := by decide +kernel
theorem d_R_node_103 : decode c_R_node 103 = .ok (.lastore, 1) := by decide +kernel
theorem d_R_node_104 : decode c_R_node 104 = .ok (.aload_n 0, 1) := by decide +kernel
theorem d_R_node_105 : decode c_R_node 105 = .ok (.getfield 17, 3) := by decide +kernel
theorem d_R_node_108 : decode c_R_node 108 = .ok (.aload_n 0, 1) := by decide +kernel
theorem d_R_node_109 : decode c_R_node 109 = .ok (.getfield 91, 3) := by decide +kernel
theorem d_R_node_112 : decode c_R_node 112 = .ok (.iload 6, 2) := by decide +kernel
theorem d_R_node_114 : decode c_R_node 114 = .ok (.ifCond .le 8, 3) := by decide +kernel
theorem d_R_node_117 : decode c_R_node 117 = .ok (.lload_n 2, 1) := by decide +kernel
theorem d_R_node_118 : decode c_R_node 118 = .ok (.l2i, 1) := by decide +kernel
theorem d_R_node_119 : decode c_R_node 119 = .ok (.goto 4, 3) := by decide +kernel
theorem d_R_node_122 : decode c_R_node 122 = .ok (.iconst (-1), 1) := by decide +kernel
theorem d_R_node_123 : decode c_R_node 123 = .ok (.iastore, 1) := by decide +kernel
theorem d_R_node_124 : decode c_R_node 124 = .ok (.aload_n 0, 1) := by decide +kernel
theorem d_R_node_125 : decode c_R_node 125 = .ok (.getfield 20, 3) := by decide +kernel
theorem d_R_node_128 : decode c_R_node 128 = .ok (.aload_n 0, 1) := by decide +kernel
theorem d_R_node_129 : decode c_R_node 129 = .ok (.getfield 91, 3) := by decide +kernel
theorem d_R_node_132 : decode c_R_node 132 = .ok (.iload 6, 2) := by decide +kernel
theorem d_R_node_134 : decode c_R_node 134 = .ok (.iconst 1, 1) := by decide +kernel
theorem d_R_node_135 : decode c_R_node 135 = .ok (.if_icmp .le 8, 3) := by decide +kernel
theorem d_R_node_138 : decode c_R_node 138 = .ok (.iload 4, 2) := by decide +kernel
theorem d_R_node_140 : decode c_R_node 140 = .ok (.goto 4, 3) := by decide +kernel
theorem d_R_node_143 : decode c_R_node 143 = .ok (.iconst (-1), 1) := by decide +kernel
theorem d_R_node_144 : decode c_R_node 144 = .ok (.iastore, 1) := by decide +kernel
theorem d_R_node_145 : decode c_R_node 145 = .ok (.aload_n 0, 1) := by decide +kernel
theorem d_R_node_146 : decode c_R_node 146 = .ok (.getfield 23, 3) := by decide +kernel
theorem d_R_node_149 : decode c_R_node 149 = .ok (.aload_n 0, 1) := by decide +kernel
theorem d_R_node_150 : decode c_R_node 150 = .ok (.getfield 91, 3) := by decide +kernel
theorem d_R_node_153 : decode c_R_node 153 = .ok (.iload 6, 2) := by decide +kernel
theorem d_R_node_155 : decode c_R_node 155 = .ok (.iconst 2, 1) := by decide +kernel
theorem d_R_node_156 : decode c_R_node 156 = .ok (.if_icmp .le 8, 3) := by decide +kernel
theorem d_R_node_159 : decode c_R_node 159 = .ok (.iload 5, 2) := by decide +kernel
theorem d_R_node_161 : decode c_R_node 161 = .ok (.goto 4, 3) := by decide +kernel
theorem d_R_node_164 : decode c_R_node 164 = .ok (.iconst (-1), 1) := by decide +kernel
theorem d_R_node_165 : decode c_R_node 165 = .ok (.iastore, 1) := by decide +kernel
theorem d_R_node_166 : decode c_R_node 166 = .ok (.aload_n 0, 1) := by decide +kernel
theorem d_R_node_167 : decode c_R_node 167 = .ok (.dup, 1) := by decide +kernel
theorem d_R_node_168 : decode c_R_node 168 = .ok (.getfield 91, 3) := by decide +kernel
theorem d_R_node_171 : decode c_R_node 171 = .ok (.iconst 1, 1) := by decide +kernel
theorem d_R_node_172 : decode c_R_node 172 = .ok (.iadd, 1) := by decide +kernel
theorem d_R_node_173 : decode c_R_node 173 = .ok (.putfield 91, 3) := by decide +kernel
theorem d_R_node_176 : decode c_R_node 176 = .ok (.aload_n 0, 1) := by decide +kernel
theorem d_R_node_177 : decode c_R_node 177 = .ok (.getfield 91, 3) := by decide +kernel
theorem d_R_node_180 : decode c_R_node 180 = .ok (.iconst 1, 1) := by decide +kernel
theorem d_R_node_181 : decode c_R_node 181 = .ok (.isub, 1) := by decide +kernel
theorem d_R_node_182 : decode c_R_node 182 = .ok (.ireturn, 1) := by decide +kernel
theorem d_R_in_0 : decode c_R_in 0 = .ok (.lload_n 0, 1) := by decide +kernel
theorem d_R_in_1 : decode c_R_in 1 = .ok (.lload_n 2, 1) := by decide +kernel
theorem d_R_in_2 : decode c_R_in 2 = .ok (.lcmp, 1) := by decide +kernel
theorem d_R_in_3 : decode c_R_in 3 = .ok (.ifCond .lt 14, 3) := by decide +kernel
theorem d_R_in_6 : decode c_R_in 6 = .ok (.lload_n 0, 1) := by decide +kernel
theorem d_R_in_7 : decode c_R_in 7 = .ok (.lload 4, 2) := by decide +kernel
theorem d_R_in_9 : decode c_R_in 9 = .ok (.lcmp, 1) := by decide +kernel
theorem d_R_in_10 : decode c_R_in 10 = .ok (.ifCond .gt 7, 3) := by decide +kernel
theorem d_R_in_13 : decode c_R_in 13 = .ok (.iconst 1, 1) := by decide +kernel
theorem d_R_in_14 : decode c_R_in 14 = .ok (.goto 4, 3) := by decide +kernel
theorem d_R_in_17 : decode c_R_in 17 = .ok (.iconst 0, 1) := by decide +kernel
theorem d_R_in_18 : decode c_R_in 18 = .ok (.ireturn, 1) := by decide +kernel
theorem d_R_parts_0 : decode c_R_parts 0 = .ok (.iload_n 0, 1) := by decide +kernel
theorem d_R_parts_1 : decode c_R_parts 1 = .ok (.iconst 3, 1) := by decide +kernel
theorem d_R_parts_2 : decode c_R_parts 2 = .ok (.if_icmp .ge 7, 3) := by decide +kernel
theorem d_R_parts_5 : decode c_R_parts 5 = .ok (.iconst 0, 1) := by decide +kernel
theorem d_R_parts_6 : decode c_R_parts 6 = .ok (.goto 14, 3) := by decide +kernel
theorem d_R_parts_9 : decode c_R_parts 9 = .ok (.iload_n 0, 1) := by decide +kernel
theorem d_R_parts_10 : decode c_R_parts 10 = .ok (.bipush 8, 2) := by decide +kernel
theorem d_R_parts_12 : decode c_R_parts 12 = .ok (.if_icmp .ne 7, 3) := by decide +kernel
theorem d_R_parts_15 : decode c_R_parts 15 = .ok (.iconst 3, 1) := by decide +kernel
theorem d_R_parts_16 : decode c_R_parts 16 = .ok (.goto 4, 3) := by decide +kernel
theorem d_R_parts_19 : decode c_R_parts 19 = .ok (.iconst 2, 1) := by decide +kernel
theorem d_R_parts_20 : decode c_R_parts 20 = .ok (.ireturn, 1) := by decide +kernel
theorem d_R_isNode_0 : decode c_R_isNode 0 = .ok (.lload_n 1, 1) := by decide +kernel
theorem d_R_isNode_1 : decode c_R_isNode 1 = .ok (.lconst 0, 1) := by decide +kernel
theorem d_R_isNode_2 : decode c_R_isNode 2 = .ok (.aload_n 0, 1) := by decide +kernel
theorem d_R_isNode_3 : decode c_R_isNode 3 = .ok (.getfield 91, 3) := by decide +kernel
theorem d_R_isNode_6 : decode c_R_isNode 6 = .ok (.iconst 1, 1) := by decide +kernel
theorem d_R_isNode_7 : decode c_R_isNode 7 = .ok (.isub, 1) := by decide +kernel
theorem d_R_isNode_8 : decode c_R_isNode 8 = .ok (.i2l, 1) := by decide +kernel
theorem d_R_isNode_9 : decode c_R_isNode 9 = .ok (.invokestatic 94, 3) := by decide +kernel
theorem d_R_isNode_12 : decode c_R_isNode 12 = .ok (.ireturn, 1) := by decide +kernel
theorem d_R_test_0 : decode c_R_test 0 = .ok (.aload_n 0, 1) := by decide +kernel
theorem d_R_test_1 : decode c_R_test 1 = .ok (.getfield 98, 3) := by decide +kernel
theorem d_R_test_4 : decode c_R_test 4 = .ok (.bipush 24, 2) := by decide +kernel
theorem d_R_test_6 : decode c_R_test 6 = .ok (.if_icmp .eq 12, 3) := by decide +kernel
theorem d_R_test_9 : decode c_R_test 9 = .ok (.aload_n 0, 1) := by decide +kernel
theorem d_R_test_10 : decode c_R_test 10 = .ok (.iload_n 1, 1) := by decide +kernel
theorem d_R_test_11 : decode c_R_test 11 = .ok (.i2l, 1) := by decide +kernel
theorem d_R_test_12 : decode c_R_test 12 = .ok (.invokevirtual 110, 3) := by decide +kernel
theorem d_R_test_15 : decode c_R_test 15 = .ok (.ifCond .ne 5, 3) := by decide +kernel
theorem d_R_test_18 : decode c_R_test 18 = .ok (.iconst (-1), 1) := by decide +kernel
theorem d_R_test_19 : decode c_R_test 19 = .ok (.ireturn, 1) := by decide +kernel
theorem d_R_test_20 : decode c_R_test 20 = .ok (.aload_n 0, 1) := by decide +kernel
theorem d_R_test_21 : decode c_R_test 21 = .ok (.getfield 26, 3) := by decide +kernel
theorem d_R_test_24 : decode c_R_test 24 = .ok (.aload_n 0, 1) := by decide +kernel
theorem d_R_test_25 : decode c_R_test 25 = .ok (.getfield 98, 3) := by decide +kernel
theorem d_R_test_28 : decode c_R_test 28 = .ok (.iload_n 1, 1) := by decide +kernel
theorem d_R_test_29 : decode c_R_test 29 = .ok (.iastore, 1) := by decide +kernel
theorem d_R_test_30 : decode c_R_test 30 = .ok (.aload_n 0, 1) := by decide +kernel
theorem d_R_test_31 : decode c_R_test 31 = .ok (.getfield 29, 3) := by decide +kernel
theorem d_R_test_34 : decode c_R_test 34 = .ok (.aload_n 0, 1) := by decide +kernel
theorem d_R_test_35 : decode c_R_test 35 = .ok (.getfield 98, 3) := by decide +kernel
theorem d_R_test_38 : decode c_R_test 38 = .ok (.lload_n 2, 1) := by decide +kernel
theorem d_R_test_39 : decode c_R_test 39 = .ok (.lastore, 1) := by decide +kernel
theorem d_R_test_40 : decode c_R_test 40 = .ok (.aload_n 0, 1) := by decide +kernel
theorem d_R_test_41 : decode c_R_test 41 = .ok (.getfield 32, 3) := by decide +kernel
theorem d_R_test_44 : decode c_R_test 44 = .ok (.aload_n 0, 1) := by decide +kernel
theorem d_R_test_45 : decode c_R_test 45 = .ok (.getfield 98, 3) := by decide +kernel
theorem d_R_test_48 : decode c_R_test 48 = .ok (.lload 4, 2) := by decide +kernel
theorem d_R_test_50 : decode c_R_test 50 = .ok (.lastore, 1) := by decide +kernel
theorem d_R_test_51 : decode c_R_test 51 = .ok (.aload_n 0, 1) := by decide +kernel
theorem d_R_test_52 : decode c_R_test 52 = .ok (.aload_n 0, 1) := by decide +kernel
theorem d_R_test_53 : decode c_R_test 53 = .ok (.getfield 98, 3) := by decide +kernel
theorem d_R_test_56 : decode c_R_test 56 = .ok (.invokevirtual 165, 3) := by decide +kernel
theorem d_R_test_59 : decode c_R_test 59 = .ok (.aload_n 0, 1) := by decide +kernel
theorem d_R_test_60 : decode c_R_test 60 = .ok (.dup, 1) := by decide +kernel
theorem d_R_test_61 : decode c_R_test 61 = .ok (.getfield 98, 3) := by decide +kernel
theorem d_R_test_64 : decode c_R_test 64 = .ok (.iconst 1, 1) := by decide +kernel
theorem d_R_test_65 : decode c_R_test 65 = .ok (.iadd, 1) := by decide +kernel
theorem d_R_test_66 : decode c_R_test 66 = .ok (.putfield 98, 3) := by decide +kernel
theorem d_R_test_69 : decode c_R_test 69 = .ok (.aload_n 0, 1) := by decide +kernel
theorem d_R_test_70 : decode c_R_test 70 = .ok (.getfield 98, 3) := by decide +kernel
theorem d_R_test_73 : decode c_R_test 73 = .ok (.iconst 1, 1) := by decide +kernel
theorem d_R_test_74 : decode c_R_test 74 = .ok (.isub, 1) := by decide +kernel
theorem d_R_test_75 : decode c_R_test 75 = .ok (.ireturn, 1) := by decide +kernel
theorem d_R_tryOut_0 : decode c_R_tryOut 0 = .ok (.aload_n 0, 1) := by decide +kernel
theorem d_R_tryOut_1 : decode c_R_tryOut 1 = .ok (.iconst (-1), 1) := by decide +kernel
theorem d_R_tryOut_2 : decode c_R_tryOut 2 = .ok (.putfield 63, 3) := by decide +kernel
theorem d_R_tryOut_5 : decode c_R_tryOut 5 = .ok (.aload_n 0, 1) := by decide +kernel
theorem d_R_tryOut_6 : decode c_R_tryOut 6 = .ok (.iconst (-1), 1) := by decide +kernel
theorem d_R_tryOut_7 : decode c_R_tryOut 7 = .ok (.putfield 67, 3) := by decide +kernel
theorem d_R_tryOut_10 : decode c_R_tryOut 10 = .ok (.aload_n 0, 1) := by decide +kernel
theorem d_R_tryOut_11 : decode c_R_tryOut 11 = .ok (.aload_n 0, 1) := by decide +kernel
theorem d_R_tryOut_12 : decode c_R_tryOut 12 = .ok (.getfield 26, 3) := by decide +kernel
theorem d_R_tryOut_15 : decode c_R_tryOut 15 = .ok (.iload_n 1, 1) := by decide +kernel
theorem d_R_tryOut_16 : decode c_R_tryOut 16 = .ok (.iaload, 1) := by decide +kernel
theorem d_R_tryOut_17 : decode c_R_tryOut 17 = .ok (.aload_n 0, 1) := by decide +kernel
theorem d_R_tryOut_18 : decode c_R_tryOut 18 = .ok (.getfield 29, 3) := by decide +kernel
theorem d_R_tryOut_21 : decode c_R_tryOut 21 = .ok (.iload_n 1, 1) := by decide +kernel
theorem d_R_tryOut_22 : decode c_R_tryOut 22 = .ok (.laload, 1) := by decide +kernel
theorem d_R_tryOut_23 : decode c_R_tryOut 23 = .ok (.sipush 3000, 3) := by decide +kernel
theorem d_R_tryOut_26 : decode c_R_tryOut 26 = .ok (.invokevirtual 161, 3) := by decide +kernel
theorem d_R_tryOut_29 : decode c_R_tryOut 29 = .ok (.aload_n 0, 1) := by decide +kernel
theorem d_R_tryOut_30 : decode c_R_tryOut 30 = .ok (.getfield 35, 3) := by decide +kernel
theorem d_R_tryOut_33 : decode c_R_tryOut 33 = .ok (.iload_n 1, 1) := by decide +kernel
theorem d_R_tryOut_34 : decode c_R_tryOut 34 = .ok (.aload_n 0, 1) := by decide +kernel
theorem d_R_tryOut_35 : decode c_R_tryOut 35 = .ok (.getfield 117, 3) := by decide +kernel
theorem d_R_tryOut_38 : decode c_R_tryOut 38 = .ok (.ifCond .eq 8, 3) := by decide +kernel
theorem d_R_tryOut_41 : decode c_R_tryOut 41 = .ok (.bipush (-2), 2) := by decide +kernel
theorem d_R_tryOut_43 : decode c_R_tryOut 43 = .ok (.goto 22, 3) := by decide +kernel
theorem d_R_tryOut_46 : decode c_R_tryOut 46 = .ok (.aload_n 0, 1) := by decide +kernel
theorem d_R_tryOut_47 : decode c_R_tryOut 47 = .ok (.getfield 124, 3) := by decide +kernel
theorem d_R_tryOut_50 : decode c_R_tryOut 50 = .ok (.aload_n 0, 1) := by decide +kernel
theorem d_R_tryOut_51 : decode c_R_tryOut 51 = .ok (.getfield 32, 3) := by decide +kernel
theorem d_R_tryOut_54 : decode c_R_tryOut 54 = .ok (.iload_n 1, 1) := by decide +kernel
theorem d_R_tryOut_55 : decode c_R_tryOut 55 = .ok (.laload, 1) := by decide +kernel
theorem d_R_tryOut_56 : decode c_R_tryOut 56 = .ok (.lcmp, 1) := by decide +kernel
theorem d_R_tryOut_57 : decode c_R_tryOut 57 = .ok (.ifCond .ne 7, 3) := by decide +kernel
theorem d_R_tryOut_60 : decode c_R_tryOut 60 = .ok (.iconst 1, 1) := by decide +kernel
theorem d_R_tryOut_61 : decode c_R_tryOut 61 = .ok (.goto 4, 3) := by decide +kernel
theorem d_R_tryOut_64 : decode c_R_tryOut 64 = .ok (.iconst 0, 1) := by decide +kernel
theorem d_R_tryOut_65 : decode c_R_tryOut 65 = .ok (.iastore, 1) := by decide +kernel
theorem d_R_tryOut_66 : decode c_R_tryOut 66 = .ok (.aload_n 0, 1) := by decide +kernel
theorem d_R_tryOut_67 : decode c_R_tryOut 67 = .ok (.getfield 38, 3) := by decide +kernel
theorem d_R_tryOut_70 : decode c_R_tryOut 70 = .ok (.iload_n 1, 1) := by decide +kernel
theorem d_R_tryOut_71 : decode c_R_tryOut 71 = .ok (.aload_n 0, 1) := by decide +kernel
theorem d_R_tryOut_72 : decode c_R_tryOut 72 = .ok (.getfield 114, 3) := by decide +kernel
theorem d_R_tryOut_75 : decode c_R_tryOut 75 = .ok (.iastore, 1) := by decide +kernel
theorem d_R_tryOut_76 : decode c_R_tryOut 76 = .ok (.iconst 0, 1) := by decide +kernel
theorem d_R_tryOut_77 : decode c_R_tryOut 77 = .ok (.istore_n 2, 1) := by decide +kernel
theorem d_R_tryOut_78 : decode c_R_tryOut 78 = .ok (.iload_n 2, 1) := by decide +kernel
theorem d_R_tryOut_79 : decode c_R_tryOut 79 = .ok (.bipush 64, 2) := by decide +kernel
theorem d_R_tryOut_81 : decode c_R_tryOut 81 = .ok (.if_icmp .ge 26, 3) := by decide +kernel
theorem d_R_tryOut_84 : decode c_R_tryOut 84 = .ok (.aload_n 0, 1) := by decide +kernel
theorem d_R_tryOut_85 : decode c_R_tryOut 85 = .ok (.getfield 41, 3) := by decide +kernel
theorem d_R_tryOut_88 : decode c_R_tryOut 88 = .ok (.bipush 64, 2) := by decide +kernel
theorem d_R_tryOut_90 : decode c_R_tryOut 90 = .ok (.iload_n 1, 1) := by decide +kernel
theorem d_R_tryOut_91 : decode c_R_tryOut 91 = .ok (.imul, 1) := by decide +kernel
theorem d_R_tryOut_92 : decode c_R_tryOut 92 = .ok (.iload_n 2, 1) := by decide +kernel
theorem d_R_tryOut_93 : decode c_R_tryOut 93 = .ok (.iadd, 1) := by decide +kernel
theorem d_R_tryOut_94 : decode c_R_tryOut 94 = .ok (.aload_n 0, 1) := by decide +kernel
theorem d_R_tryOut_95 : decode c_R_tryOut 95 = .ok (.getfield 70, 3) := by decide +kernel
theorem d_R_tryOut_98 : decode c_R_tryOut 98 = .ok (.iload_n 2, 1) := by decide +kernel
theorem d_R_tryOut_99 : decode c_R_tryOut 99 = .ok (.baload, 1) := by decide +kernel
theorem d_R_tryOut_100 : decode c_R_tryOut 100 = .ok (.bastore, 1) := by decide +kernel
theorem d_R_tryOut_101 : decode c_R_tryOut 101 = .ok (.iinc 2 1, 3) := by decide +kernel
theorem d_R_tryOut_104 : decode c_R_tryOut 104 = .ok (.goto (-26), 3) := by decide +kernel
theorem d_R_tryOut_107 : decode c_R_tryOut 107 = .ok (.return_, 1) := by decide +kernel
theorem d_R_workOut_0 : decode c_R_workOut 0 = .ok (.aload_n 0, 1) := by decide +kernel
theorem d_R_workOut_1 : decode c_R_workOut 1 = .ok (.iconst 0, 1) := by decide +kernel
theorem d_R_workOut_2 : decode c_R_workOut 2 = .ok (.putfield 114, 3) := by decide +kernel
theorem d_R_workOut_5 : decode c_R_workOut 5 = .ok (.aload_n 0, 1) := by decide +kernel
theorem d_R_workOut_6 : decode c_R_workOut 6 = .ok (.iconst 0, 1) := by decide +kernel
theorem d_R_workOut_7 : decode c_R_workOut 7 = .ok (.putfield 117, 3) := by decide +kernel
theorem d_R_workOut_10 : decode c_R_workOut 10 = .ok (.aload_n 0, 1) := by decide +kernel
theorem d_R_workOut_11 : decode c_R_workOut 11 = .ok (.iconst 0, 1) := by decide +kernel
theorem d_R_workOut_12 : decode c_R_workOut 12 = .ok (.putfield 121, 3) := by decide +kernel
theorem d_R_workOut_15 : decode c_R_workOut 15 = .ok (.aload_n 0, 1) := by decide +kernel
theorem d_R_workOut_16 : decode c_R_workOut 16 = .ok (.lconst 0, 1) := by decide +kernel
theorem d_R_workOut_17 : decode c_R_workOut 17 = .ok (.putfield 128, 3) := by decide +kernel
theorem d_R_workOut_20 : decode c_R_workOut 20 = .ok (.iconst 0, 1) := by decide +kernel
theorem d_R_workOut_21 : decode c_R_workOut 21 = .ok (.istore 5, 2) := by decide +kernel
theorem d_R_workOut_23 : decode c_R_workOut 23 = .ok (.iload 5, 2) := by decide +kernel
theorem d_R_workOut_25 : decode c_R_workOut 25 = .ok (.bipush 64, 2) := by decide +kernel
theorem d_R_workOut_27 : decode c_R_workOut 27 = .ok (.if_icmp .ge 17, 3) := by decide +kernel
theorem d_R_workOut_30 : decode c_R_workOut 30 = .ok (.aload_n 0, 1) := by decide +kernel
theorem d_R_workOut_31 : decode c_R_workOut 31 = .ok (.getfield 70, 3) := by decide +kernel
theorem d_R_workOut_34 : decode c_R_workOut 34 = .ok (.iload 5, 2) := by decide +kernel
theorem d_R_workOut_36 : decode c_R_workOut 36 = .ok (.iconst 0, 1) := by decide +kernel
theorem d_R_workOut_37 : decode c_R_workOut 37 = .ok (.bastore, 1) := by decide +kernel
theorem d_R_workOut_38 : decode c_R_workOut 38 = .ok (.iinc 5 1, 3) := by decide +kernel
theorem d_R_workOut_41 : decode c_R_workOut 41 = .ok (.goto (-18), 3) := by decide +kernel
