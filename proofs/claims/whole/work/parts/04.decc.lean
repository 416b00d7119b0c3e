theorem d_R_workOut_44 : decode c_R_workOut 44 = .ok (.aload_n 0, 1) := by decide +kernel
theorem d_R_workOut_45 : decode c_R_workOut 45 = .ok (.iload_n 1, 1) := by decide +kernel
theorem d_R_workOut_46 : decode c_R_workOut 46 = .ok (.iload 4, 2) := by decide +kernel
theorem d_R_workOut_48 : decode c_R_workOut 48 = .ok (.invokevirtual 131, 3) := by decide +kernel
theorem d_R_workOut_51 : decode c_R_workOut 51 = .ok (.aload_n 0, 1) := by decide +kernel
theorem d_R_workOut_52 : decode c_R_workOut 52 = .ok (.getfield 121, 3) := by decide +kernel
theorem d_R_workOut_55 : decode c_R_workOut 55 = .ok (.ifCond .le 20, 3) := by decide +kernel
theorem d_R_workOut_58 : decode c_R_workOut 58 = .ok (.aload_n 0, 1) := by decide +kernel
theorem d_R_workOut_59 : decode c_R_workOut 59 = .ok (.getfield 117, 3) := by decide +kernel
theorem d_R_workOut_62 : decode c_R_workOut 62 = .ok (.ifCond .ne 13, 3) := by decide +kernel
theorem d_R_workOut_65 : decode c_R_workOut 65 = .ok (.aload_n 0, 1) := by decide +kernel
theorem d_R_workOut_66 : decode c_R_workOut 66 = .ok (.lload_n 2, 1) := by decide +kernel
theorem d_R_workOut_67 : decode c_R_workOut 67 = .ok (.iload 4, 2) := by decide +kernel
theorem d_R_workOut_69 : decode c_R_workOut 69 = .ok (.invokevirtual 135, 3) := by decide +kernel
theorem d_R_workOut_72 : decode c_R_workOut 72 = .ok (.goto (-21), 3) := by decide +kernel
theorem d_R_workOut_75 : decode c_R_workOut 75 = .ok (.return_, 1) := by decide +kernel
theorem d_R_enter_0 : decode c_R_enter 0 = .ok (.aload_n 0, 1) := by decide +kernel
theorem d_R_enter_1 : decode c_R_enter 1 = .ok (.getfield 114, 3) := by decide +kernel
theorem d_R_enter_4 : decode c_R_enter 4 = .ok (.iload_n 2, 1) := by decide +kernel
theorem d_R_enter_5 : decode c_R_enter 5 = .ok (.if_icmp .ne 9, 3) := by decide +kernel
theorem d_R_enter_8 : decode c_R_enter 8 = .ok (.aload_n 0, 1) := by decide +kernel
theorem d_R_enter_9 : decode c_R_enter 9 = .ok (.iconst 1, 1) := by decide +kernel
theorem d_R_enter_10 : decode c_R_enter 10 = .ok (.putfield 117, 3) := by decide +kernel
theorem d_R_enter_13 : decode c_R_enter 13 = .ok (.return_, 1) := by decide +kernel
theorem d_R_enter_14 : decode c_R_enter 14 = .ok (.aload_n 0, 1) := by decide +kernel
theorem d_R_enter_15 : decode c_R_enter 15 = .ok (.dup, 1) := by decide +kernel
theorem d_R_enter_16 : decode c_R_enter 16 = .ok (.getfield 114, 3) := by decide +kernel
theorem d_R_enter_19 : decode c_R_enter 19 = .ok (.iconst 1, 1) := by decide +kernel
theorem d_R_enter_20 : decode c_R_enter 20 = .ok (.iadd, 1) := by decide +kernel
theorem d_R_enter_21 : decode c_R_enter 21 = .ok (.putfield 114, 3) := by decide +kernel
theorem d_R_enter_24 : decode c_R_enter 24 = .ok (.aload_n 0, 1) := by decide +kernel
theorem d_R_enter_25 : decode c_R_enter 25 = .ok (.getfield 70, 3) := by decide +kernel
theorem d_R_enter_28 : decode c_R_enter 28 = .ok (.iload_n 1, 1) := by decide +kernel
theorem d_R_enter_29 : decode c_R_enter 29 = .ok (.iconst 1, 1) := by decide +kernel
theorem d_R_enter_30 : decode c_R_enter 30 = .ok (.bastore, 1) := by decide +kernel
theorem d_R_enter_31 : decode c_R_enter 31 = .ok (.aload_n 0, 1) := by decide +kernel
theorem d_R_enter_32 : decode c_R_enter 32 = .ok (.getfield 73, 3) := by decide +kernel
theorem d_R_enter_35 : decode c_R_enter 35 = .ok (.aload_n 0, 1) := by decide +kernel
theorem d_R_enter_36 : decode c_R_enter 36 = .ok (.getfield 121, 3) := by decide +kernel
theorem d_R_enter_39 : decode c_R_enter 39 = .ok (.iload_n 1, 1) := by decide +kernel
theorem d_R_enter_40 : decode c_R_enter 40 = .ok (.iastore, 1) := by decide +kernel
theorem d_R_enter_41 : decode c_R_enter 41 = .ok (.aload_n 0, 1) := by decide +kernel
theorem d_R_enter_42 : decode c_R_enter 42 = .ok (.getfield 76, 3) := by decide +kernel
theorem d_R_enter_45 : decode c_R_enter 45 = .ok (.aload_n 0, 1) := by decide +kernel
theorem d_R_enter_46 : decode c_R_enter 46 = .ok (.getfield 121, 3) := by decide +kernel
theorem d_R_enter_49 : decode c_R_enter 49 = .ok (.iconst 0, 1) := by decide +kernel
theorem d_R_enter_50 : decode c_R_enter 50 = .ok (.iastore, 1) := by decide +kernel
theorem d_R_enter_51 : decode c_R_enter 51 = .ok (.aload_n 0, 1) := by decide +kernel
theorem d_R_enter_52 : decode c_R_enter 52 = .ok (.dup, 1) := by decide +kernel
theorem d_R_enter_53 : decode c_R_enter 53 = .ok (.getfield 121, 3) := by decide +kernel
theorem d_R_enter_56 : decode c_R_enter 56 = .ok (.iconst 1, 1) := by decide +kernel
theorem d_R_enter_57 : decode c_R_enter 57 = .ok (.iadd, 1) := by decide +kernel
theorem d_R_enter_58 : decode c_R_enter 58 = .ok (.putfield 121, 3) := by decide +kernel
theorem d_R_enter_61 : decode c_R_enter 61 = .ok (.return_, 1) := by decide +kernel
theorem d_R_goOn_0 : decode c_R_goOn 0 = .ok (.aload_n 0, 1) := by decide +kernel
theorem d_R_goOn_1 : decode c_R_goOn 1 = .ok (.getfield 121, 3) := by decide +kernel
theorem d_R_goOn_4 : decode c_R_goOn 4 = .ok (.iconst 1, 1) := by decide +kernel
theorem d_R_goOn_5 : decode c_R_goOn 5 = .ok (.isub, 1) := by decide +kernel
theorem d_R_goOn_6 : decode c_R_goOn 6 = .ok (.istore 4, 2) := by decide +kernel
theorem d_R_goOn_8 : decode c_R_goOn 8 = .ok (.aload_n 0, 1) := by decide +kernel
theorem d_R_goOn_9 : decode c_R_goOn 9 = .ok (.getfield 73, 3) := by decide +kernel
theorem d_R_goOn_12 : decode c_R_goOn 12 = .ok (.iload 4, 2) := by decide +kernel
theorem d_R_goOn_14 : decode c_R_goOn 14 = .ok (.iaload, 1) := by decide +kernel
theorem d_R_goOn_15 : decode c_R_goOn 15 = .ok (.istore 5, 2) := by decide +kernel
theorem d_R_goOn_17 : decode c_R_goOn 17 = .ok (.aload_n 0, 1) := by decide +kernel
theorem d_R_goOn_18 : decode c_R_goOn 18 = .ok (.getfield 7, 3) := by decide +kernel
theorem d_R_goOn_21 : decode c_R_goOn 21 = .ok (.iload 5, 2) := by decide +kernel
theorem d_R_goOn_23 : decode c_R_goOn 23 = .ok (.iaload, 1) := by decide +kernel
theorem d_R_goOn_24 : decode c_R_goOn 24 = .ok (.tableswitch 125 0 9 #[56, 90, 96, 125, 125, 125, 125, 125, 105, 115], 56) := by decide +kernel
theorem d_R_goOn_80 : decode c_R_goOn 80 = .ok (.aload_n 0, 1) := by decide +kernel
theorem d_R_goOn_81 : decode c_R_goOn 81 = .ok (.aload_n 0, 1) := by decide +kernel
theorem d_R_goOn_82 : decode c_R_goOn 82 = .ok (.iconst 0, 1) := by decide +kernel
theorem d_R_goOn_83 : decode c_R_goOn 83 = .ok (.iload 5, 2) := by decide +kernel
theorem d_R_goOn_85 : decode c_R_goOn 85 = .ok (.invokevirtual 139, 3) := by decide +kernel
theorem d_R_goOn_88 : decode c_R_goOn 88 = .ok (.ifCond .eq 15, 3) := by decide +kernel
theorem d_R_goOn_91 : decode c_R_goOn 91 = .ok (.aload_n 0, 1) := by decide +kernel
theorem d_R_goOn_92 : decode c_R_goOn 92 = .ok (.getfield 13, 3) := by decide +kernel
theorem d_R_goOn_95 : decode c_R_goOn 95 = .ok (.iload 5, 2) := by decide +kernel
theorem d_R_goOn_97 : decode c_R_goOn 97 = .ok (.laload, 1) := by decide +kernel
theorem d_R_goOn_98 : decode c_R_goOn 98 = .ok (.lconst 1, 1) := by decide +kernel
theorem d_R_goOn_99 : decode c_R_goOn 99 = .ok (.ladd, 1) := by decide +kernel
theorem d_R_goOn_100 : decode c_R_goOn 100 = .ok (.goto 10, 3) := by decide +kernel
theorem d_R_goOn_103 : decode c_R_goOn 103 = .ok (.aload_n 0, 1) := by decide +kernel
theorem d_R_goOn_104 : decode c_R_goOn 104 = .ok (.getfield 13, 3) := by decide +kernel
theorem d_R_goOn_107 : decode c_R_goOn 107 = .ok (.iload 5, 2) := by decide +kernel
theorem d_R_goOn_109 : decode c_R_goOn 109 = .ok (.laload, 1) := by decide +kernel
theorem d_R_goOn_110 : decode c_R_goOn 110 = .ok (.invokevirtual 143, 3) := by decide +kernel
theorem d_R_goOn_113 : decode c_R_goOn 113 = .ok (.return_, 1) := by decide +kernel
theorem d_R_goOn_114 : decode c_R_goOn 114 = .ok (.aload_n 0, 1) := by decide +kernel
theorem d_R_goOn_115 : decode c_R_goOn 115 = .ok (.lload_n 1, 1) := by decide +kernel
theorem d_R_goOn_116 : decode c_R_goOn 116 = .ok (.invokevirtual 143, 3) := by decide +kernel
theorem d_R_goOn_119 : decode c_R_goOn 119 = .ok (.return_, 1) := by decide +kernel
theorem d_R_goOn_120 : decode c_R_goOn 120 = .ok (.aload_n 0, 1) := by decide +kernel
theorem d_R_goOn_121 : decode c_R_goOn 121 = .ok (.aload_n 0, 1) := by decide +kernel
theorem d_R_goOn_122 : decode c_R_goOn 122 = .ok (.getfield 128, 3) := by decide +kernel
theorem d_R_goOn_125 : decode c_R_goOn 125 = .ok (.invokevirtual 143, 3) := by decide +kernel
theorem d_R_goOn_128 : decode c_R_goOn 128 = .ok (.return_, 1) := by decide +kernel
theorem d_R_goOn_129 : decode c_R_goOn 129 = .ok (.aload_n 0, 1) := by decide +kernel
theorem d_R_goOn_130 : decode c_R_goOn 130 = .ok (.iload 4, 2) := by decide +kernel
theorem d_R_goOn_132 : decode c_R_goOn 132 = .ok (.iload 5, 2) := by decide +kernel
theorem d_R_goOn_134 : decode c_R_goOn 134 = .ok (.iload_n 3, 1) := by decide +kernel
theorem d_R_goOn_135 : decode c_R_goOn 135 = .ok (.invokevirtual 147, 3) := by decide +kernel
theorem d_R_goOn_138 : decode c_R_goOn 138 = .ok (.return_, 1) := by decide +kernel
theorem d_R_goOn_139 : decode c_R_goOn 139 = .ok (.aload_n 0, 1) := by decide +kernel
theorem d_R_goOn_140 : decode c_R_goOn 140 = .ok (.iload 4, 2) := by decide +kernel
theorem d_R_goOn_142 : decode c_R_goOn 142 = .ok (.iload 5, 2) := by decide +kernel
theorem d_R_goOn_144 : decode c_R_goOn 144 = .ok (.iload_n 3, 1) := by decide +kernel
theorem d_R_goOn_145 : decode c_R_goOn 145 = .ok (.invokevirtual 151, 3) := by decide +kernel
theorem d_R_goOn_148 : decode c_R_goOn 148 = .ok (.return_, 1) := by decide +kernel
theorem d_R_goOn_149 : decode c_R_goOn 149 = .ok (.aload_n 0, 1) := by decide +kernel
theorem d_R_goOn_150 : decode c_R_goOn 150 = .ok (.iload 4, 2) := by decide +kernel
theorem d_R_goOn_152 : decode c_R_goOn 152 = .ok (.iload 5, 2) := by decide +kernel
theorem d_R_goOn_154 : decode c_R_goOn 154 = .ok (.iload_n 3, 1) := by decide +kernel
theorem d_R_goOn_155 : decode c_R_goOn 155 = .ok (.invokevirtual 154, 3) := by decide +kernel
theorem d_R_goOn_158 : decode c_R_goOn 158 = .ok (.return_, 1) := by decide +kernel
theorem d_R_is_0 : decode c_R_is 0 = .ok (.aload_n 0, 1) := by decide +kernel
theorem d_R_is_1 : decode c_R_is 1 = .ok (.getfield 63, 3) := by decide +kernel
theorem d_R_is_4 : decode c_R_is 4 = .ok (.iload_n 1, 1) := by decide +kernel
theorem d_R_is_5 : decode c_R_is 5 = .ok (.if_icmp .ne 15, 3) := by decide +kernel
theorem d_R_is_8 : decode c_R_is 8 = .ok (.aload_n 0, 1) := by decide +kernel
theorem d_R_is_9 : decode c_R_is 9 = .ok (.getfield 67, 3) := by decide +kernel
theorem d_R_is_12 : decode c_R_is 12 = .ok (.iload_n 2, 1) := by decide +kernel
theorem d_R_is_13 : decode c_R_is 13 = .ok (.if_icmp .ne 7, 3) := by decide +kernel
theorem d_R_is_16 : decode c_R_is 16 = .ok (.iconst 1, 1) := by decide +kernel
theorem d_R_is_17 : decode c_R_is 17 = .ok (.goto 4, 3) := by decide +kernel
theorem d_R_is_20 : decode c_R_is 20 = .ok (.iconst 0, 1) := by decide +kernel
theorem d_R_is_21 : decode c_R_is 21 = .ok (.ireturn, 1) := by decide +kernel
theorem d_R_leave_0 : decode c_R_leave 0 = .ok (.aload_n 0, 1) := by decide +kernel
theorem d_R_leave_1 : decode c_R_leave 1 = .ok (.dup, 1) := by decide +kernel
theorem d_R_leave_2 : decode c_R_leave 2 = .ok (.getfield 121, 3) := by decide +kernel
theorem d_R_leave_5 : decode c_R_leave 5 = .ok (.iconst 1, 1) := by decide +kernel
theorem d_R_leave_6 : decode c_R_leave 6 = .ok (.isub, 1) := by decide +kernel
theorem d_R_leave_7 : decode c_R_leave 7 = .ok (.putfield 121, 3) := by decide +kernel
theorem d_R_leave_10 : decode c_R_leave 10 = .ok (.aload_n 0, 1) := by decide +kernel
theorem d_R_leave_11 : decode c_R_leave 11 = .ok (.lload_n 1, 1) := by decide +kernel
theorem d_R_leave_12 : decode c_R_leave 12 = .ok (.putfield 124, 3) := by decide +kernel
theorem d_R_leave_15 : decode c_R_leave 15 = .ok (.return_, 1) := by decide +kernel
theorem d_R_choose_0 : decode c_R_choose 0 = .ok (.aload_n 0, 1) := by decide +kernel
theorem d_R_choose_1 : decode c_R_choose 1 = .ok (.getfield 76, 3) := by decide +kernel
theorem d_R_choose_4 : decode c_R_choose 4 = .ok (.iload_n 1, 1) := by decide +kernel
theorem d_R_choose_5 : decode c_R_choose 5 = .ok (.dup2, 1) := by decide +kernel
theorem d_R_choose_6 : decode c_R_choose 6 = .ok (.iaload, 1) := by decide +kernel
theorem d_R_choose_7 : decode c_R_choose 7 = .ok (.iconst 1, 1) := by decide +kernel
theorem d_R_choose_8 : decode c_R_choose 8 = .ok (.iadd, 1) := by decide +kernel
theorem d_R_choose_9 : decode c_R_choose 9 = .ok (.iastore, 1) := by decide +kernel
theorem d_R_choose_10 : decode c_R_choose 10 = .ok (.aload_n 0, 1) := by decide +kernel
theorem d_R_choose_11 : decode c_R_choose 11 = .ok (.getfield 76, 3) := by decide +kernel
theorem d_R_choose_14 : decode c_R_choose 14 = .ok (.iload_n 1, 1) := by decide +kernel
theorem d_R_choose_15 : decode c_R_choose 15 = .ok (.iaload, 1) := by decide +kernel
theorem d_R_choose_16 : decode c_R_choose 16 = .ok (.iconst 1, 1) := by decide +kernel
theorem d_R_choose_17 : decode c_R_choose 17 = .ok (.if_icmp .ne 17, 3) := by decide +kernel
theorem d_R_choose_20 : decode c_R_choose 20 = .ok (.aload_n 0, 1) := by decide +kernel
theorem d_R_choose_21 : decode c_R_choose 21 = .ok (.aload_n 0, 1) := by decide +kernel
theorem d_R_choose_22 : decode c_R_choose 22 = .ok (.getfield 17, 3) := by decide +kernel
theorem d_R_choose_25 : decode c_R_choose 25 = .ok (.iload_n 2, 1) := by decide +kernel
theorem d_R_choose_26 : decode c_R_choose 26 = .ok (.iaload, 1) := by decide +kernel
theorem d_R_choose_27 : decode c_R_choose 27 = .ok (.iload_n 3, 1) := by decide +kernel
theorem d_R_choose_28 : decode c_R_choose 28 = .ok (.invokevirtual 131, 3) := by decide +kernel
theorem d_R_choose_31 : decode c_R_choose 31 = .ok (.goto 67, 3) := by decide +kernel
theorem d_R_choose_34 : decode c_R_choose 34 = .ok (.aload_n 0, 1) := by decide +kernel
theorem d_R_choose_35 : decode c_R_choose 35 = .ok (.getfield 76, 3) := by decide +kernel
theorem d_R_choose_38 : decode c_R_choose 38 = .ok (.iload_n 1, 1) := by decide +kernel
theorem d_R_choose_39 : decode c_R_choose 39 = .ok (.iaload, 1) := by decide +kernel
theorem d_R_choose_40 : decode c_R_choose 40 = .ok (.iconst 2, 1) := by decide +kernel
theorem d_R_choose_41 : decode c_R_choose 41 = .ok (.if_icmp .ne 49, 3) := by decide +kernel
theorem d_R_choose_44 : decode c_R_choose 44 = .ok (.aload_n 0, 1) := by decide +kernel
theorem d_R_choose_45 : decode c_R_choose 45 = .ok (.aload_n 0, 1) := by decide +kernel
theorem d_R_choose_46 : decode c_R_choose 46 = .ok (.getfield 124, 3) := by decide +kernel
theorem d_R_choose_49 : decode c_R_choose 49 = .ok (.lconst 0, 1) := by decide +kernel
theorem d_R_choose_50 : decode c_R_choose 50 = .ok (.lcmp, 1) := by decide +kernel
theorem d_R_choose_51 : decode c_R_choose 51 = .ok (.ifCond .eq 7, 3) := by decide +kernel
theorem d_R_choose_54 : decode c_R_choose 54 = .ok (.iconst 1, 1) := by decide +kernel
theorem d_R_choose_55 : decode c_R_choose 55 = .ok (.goto 4, 3) := by decide +kernel
theorem d_R_choose_58 : decode c_R_choose 58 = .ok (.iconst 0, 1) := by decide +kernel
theorem d_R_choose_59 : decode c_R_choose 59 = .ok (.aload_n 0, 1) := by decide +kernel
theorem d_R_choose_60 : decode c_R_choose 60 = .ok (.iconst 3, 1) := by decide +kernel
theorem d_R_choose_61 : decode c_R_choose 61 = .ok (.iload_n 2, 1) := by decide +kernel
theorem d_R_choose_62 : decode c_R_choose 62 = .ok (.invokevirtual 139, 3) := by decide +kernel
theorem d_R_choose_65 : decode c_R_choose 65 = .ok (.if_icmp .eq 12, 3) := by decide +kernel
theorem d_R_choose_68 : decode c_R_choose 68 = .ok (.aload_n 0, 1) := by decide +kernel
theorem d_R_choose_69 : decode c_R_choose 69 = .ok (.getfield 20, 3) := by decide +kernel
theorem d_R_choose_72 : decode c_R_choose 72 = .ok (.iload_n 2, 1) := by decide +kernel
theorem d_R_choose_73 : decode c_R_choose 73 = .ok (.iaload, 1) := by decide +kernel
theorem d_R_choose_74 : decode c_R_choose 74 = .ok (.goto 9, 3) := by decide +kernel
theorem d_R_choose_77 : decode c_R_choose 77 = .ok (.aload_n 0, 1) := by decide +kernel
theorem d_R_choose_78 : decode c_R_choose 78 = .ok (.getfield 23, 3) := by decide +kernel
theorem d_R_choose_81 : decode c_R_choose 81 = .ok (.iload_n 2, 1) := by decide +kernel
theorem d_R_choose_82 : decode c_R_choose 82 = .ok (.iaload, 1) := by decide +kernel
theorem d_R_choose_83 : decode c_R_choose 83 = .ok (.iload_n 3, 1) := by decide +kernel
theorem d_R_choose_84 : decode c_R_choose 84 = .ok (.invokevirtual 131, 3) := by decide +kernel
theorem d_R_choose_87 : decode c_R_choose 87 = .ok (.goto 11, 3) := by decide +kernel
theorem d_R_choose_90 : decode c_R_choose 90 = .ok (.aload_n 0, 1) := by decide +kernel
theorem d_R_choose_91 : decode c_R_choose 91 = .ok (.aload_n 0, 1) := by decide +kernel
theorem d_R_choose_92 : decode c_R_choose 92 = .ok (.getfield 124, 3) := by decide +kernel
theorem d_R_choose_95 : decode c_R_choose 95 = .ok (.invokevirtual 143, 3) := by decide +kernel
theorem d_R_choose_98 : decode c_R_choose 98 = .ok (.return_, 1) := by decide +kernel
theorem d_R_loop_0 : decode c_R_loop 0 = .ok (.aload_n 0, 1) := by decide +kernel
theorem d_R_loop_1 : decode c_R_loop 1 = .ok (.getfield 76, 3) := by decide +kernel
theorem d_R_loop_4 : decode c_R_loop 4 = .ok (.iload_n 1, 1) := by decide +kernel
theorem d_R_loop_5 : decode c_R_loop 5 = .ok (.iaload, 1) := by decide +kernel
theorem d_R_loop_6 : decode c_R_loop 6 = .ok (.ifCond .ne 39, 3) := by decide +kernel
theorem d_R_loop_9 : decode c_R_loop 9 = .ok (.aload_n 0, 1) := by decide +kernel
theorem d_R_loop_10 : decode c_R_loop 10 = .ok (.getfield 79, 3) := by decide +kernel
theorem d_R_loop_13 : decode c_R_loop 13 = .ok (.iload_n 1, 1) := by decide +kernel
theorem d_R_loop_14 : decode c_R_loop 14 = .ok (.aload_n 0, 1) := by decide +kernel
theorem d_R_loop_15 : decode c_R_loop 15 = .ok (.getfield 128, 3) := by decide +kernel
theorem d_R_loop_18 : decode c_R_loop 18 = .ok (.lastore, 1) := by decide +kernel
theorem d_R_loop_19 : decode c_R_loop 19 = .ok (.aload_n 0, 1) := by decide +kernel
theorem d_R_loop_20 : decode c_R_loop 20 = .ok (.lconst 0, 1) := by decide +kernel
theorem d_R_loop_21 : decode c_R_loop 21 = .ok (.putfield 128, 3) := by decide +kernel
theorem d_R_loop_24 : decode c_R_loop 24 = .ok (.aload_n 0, 1) := by decide +kernel
theorem d_R_loop_25 : decode c_R_loop 25 = .ok (.getfield 76, 3) := by decide +kernel
theorem d_R_loop_28 : decode c_R_loop 28 = .ok (.iload_n 1, 1) := by decide +kernel
theorem d_R_loop_29 : decode c_R_loop 29 = .ok (.iconst 1, 1) := by decide +kernel
theorem d_R_loop_30 : decode c_R_loop 30 = .ok (.iastore, 1) := by decide +kernel
theorem d_R_loop_31 : decode c_R_loop 31 = .ok (.aload_n 0, 1) := by decide +kernel
theorem d_R_loop_32 : decode c_R_loop 32 = .ok (.aload_n 0, 1) := by decide +kernel
theorem d_R_loop_33 : decode c_R_loop 33 = .ok (.getfield 17, 3) := by decide +kernel
theorem d_R_loop_36 : decode c_R_loop 36 = .ok (.iload_n 2, 1) := by decide +kernel
theorem d_R_loop_37 : decode c_R_loop 37 = .ok (.iaload, 1) := by decide +kernel
theorem d_R_loop_38 : decode c_R_loop 38 = .ok (.iload_n 3, 1) := by decide +kernel
theorem d_R_loop_39 : decode c_R_loop 39 = .ok (.invokevirtual 131, 3) := by decide +kernel
theorem d_R_loop_42 : decode c_R_loop 42 = .ok (.goto 97, 3) := by decide +kernel
theorem d_R_loop_45 : decode c_R_loop 45 = .ok (.aload_n 0, 1) := by decide +kernel
theorem d_R_loop_46 : decode c_R_loop 46 = .ok (.getfield 76, 3) := by decide +kernel
theorem d_R_loop_49 : decode c_R_loop 49 = .ok (.iload_n 1, 1) := by decide +kernel
theorem d_R_loop_50 : decode c_R_loop 50 = .ok (.iaload, 1) := by decide +kernel
theorem d_R_loop_51 : decode c_R_loop 51 = .ok (.iconst 2, 1) := by decide +kernel
theorem d_R_loop_52 : decode c_R_loop 52 = .ok (.if_icmp .ne 32, 3) := by decide +kernel
theorem d_R_loop_55 : decode c_R_loop 55 = .ok (.aload_n 0, 1) := by decide +kernel
theorem d_R_loop_56 : decode c_R_loop 56 = .ok (.aload_n 0, 1) := by decide +kernel
theorem d_R_loop_57 : decode c_R_loop 57 = .ok (.getfield 124, 3) := by decide +kernel
theorem d_R_loop_60 : decode c_R_loop 60 = .ok (.putfield 128, 3) := by decide +kernel
theorem d_R_loop_63 : decode c_R_loop 63 = .ok (.aload_n 0, 1) := by decide +kernel
theorem d_R_loop_64 : decode c_R_loop 64 = .ok (.getfield 76, 3) := by decide +kernel
theorem d_R_loop_67 : decode c_R_loop 67 = .ok (.iload_n 1, 1) := by decide +kernel
theorem d_R_loop_68 : decode c_R_loop 68 = .ok (.iconst 1, 1) := by decide +kernel
theorem d_R_loop_69 : decode c_R_loop 69 = .ok (.iastore, 1) := by decide +kernel
theorem d_R_loop_70 : decode c_R_loop 70 = .ok (.aload_n 0, 1) := by decide +kernel
theorem d_R_loop_71 : decode c_R_loop 71 = .ok (.aload_n 0, 1) := by decide +kernel
theorem d_R_loop_72 : decode c_R_loop 72 = .ok (.getfield 17, 3) := by decide +kernel
theorem d_R_loop_75 : decode c_R_loop 75 = .ok (.iload_n 2, 1) := by decide +kernel
theorem d_R_loop_76 : decode c_R_loop 76 = .ok (.iaload, 1) := by decide +kernel
theorem d_R_loop_77 : decode c_R_loop 77 = .ok (.iload_n 3, 1) := by decide +kernel
theorem d_R_loop_78 : decode c_R_loop 78 = .ok (.invokevirtual 131, 3) := by decide +kernel
theorem d_R_loop_81 : decode c_R_loop 81 = .ok (.goto 58, 3) := by decide +kernel
theorem d_R_loop_84 : decode c_R_loop 84 = .ok (.aload_n 0, 1) := by decide +kernel
theorem d_R_loop_85 : decode c_R_loop 85 = .ok (.getfield 128, 3) := by decide +kernel
theorem d_R_loop_88 : decode c_R_loop 88 = .ok (.aload_n 0, 1) := by decide +kernel
theorem d_R_loop_89 : decode c_R_loop 89 = .ok (.getfield 124, 3) := by decide +kernel
theorem d_R_loop_92 : decode c_R_loop 92 = .ok (.lcmp, 1) := by decide +kernel
theorem d_R_loop_93 : decode c_R_loop 93 = .ok (.ifCond .ge 24, 3) := by decide +kernel
theorem d_R_loop_96 : decode c_R_loop 96 = .ok (.aload_n 0, 1) := by decide +kernel
theorem d_R_loop_97 : decode c_R_loop 97 = .ok (.getfield 76, 3) := by decide +kernel
theorem d_R_loop_100 : decode c_R_loop 100 = .ok (.iload_n 1, 1) := by decide +kernel
theorem d_R_loop_101 : decode c_R_loop 101 = .ok (.iconst 2, 1) := by decide +kernel
theorem d_R_loop_102 : decode c_R_loop 102 = .ok (.iastore, 1) := by decide +kernel
theorem d_R_loop_103 : decode c_R_loop 103 = .ok (.aload_n 0, 1) := by decide +kernel
theorem d_R_loop_104 : decode c_R_loop 104 = .ok (.aload_n 0, 1) := by decide +kernel
theorem d_R_loop_105 : decode c_R_loop 105 = .ok (.getfield 20, 3) := by decide +kernel
theorem d_R_loop_108 : decode c_R_loop 108 = .ok (.iload_n 2, 1) := by decide +kernel
theorem d_R_loop_109 : decode c_R_loop 109 = .ok (.iaload, 1) := by decide +kernel
theorem d_R_loop_110 : decode c_R_loop 110 = .ok (.iload_n 3, 1) := by decide +kernel
theorem d_R_loop_111 : decode c_R_loop 111 = .ok (.invokevirtual 131, 3) := by decide +kernel
theorem d_R_loop_114 : decode c_R_loop 114 = .ok (.goto 25, 3) := by decide +kernel
theorem d_R_loop_117 : decode c_R_loop 117 = .ok (.aload_n 0, 1) := by decide +kernel
theorem d_R_loop_118 : decode c_R_loop 118 = .ok (.getfield 128, 3) := by decide +kernel
theorem d_R_loop_121 : decode c_R_loop 121 = .ok (.lstore 4, 2) := by decide +kernel
theorem d_R_loop_123 : decode c_R_loop 123 = .ok (.aload_n 0, 1) := by decide +kernel
theorem d_R_loop_124 : decode c_R_loop 124 = .ok (.aload_n 0, 1) := by decide +kernel
theorem d_R_loop_125 : decode c_R_loop 125 = .ok (.getfield 79, 3) := by decide +kernel
theorem d_R_loop_128 : decode c_R_loop 128 = .ok (.iload_n 1, 1) := by decide +kernel
theorem d_R_loop_129 : decode c_R_loop 129 = .ok (.laload, 1) := by decide +kernel
theorem d_R_loop_130 : decode c_R_loop 130 = .ok (.putfield 128, 3) := by decide +kernel
theorem d_R_loop_133 : decode c_R_loop 133 = .ok (.aload_n 0, 1) := by decide +kernel
theorem d_R_loop_134 : decode c_R_loop 134 = .ok (.lload 4, 2) := by decide +kernel
theorem d_R_loop_136 : decode c_R_loop 136 = .ok (.invokevirtual 143, 3) := by decide +kernel
theorem d_R_loop_139 : decode c_R_loop 139 = .ok (.return_, 1) := by decide +kernel
theorem d_R_both_0 : decode c_R_both 0 = .ok (.aload_n 0, 1) := by decide +kernel
theorem d_R_both_1 : decode c_R_both 1 = .ok (.getfield 76, 3) := by decide +kernel
theorem d_R_both_4 : decode c_R_both 4 = .ok (.iload_n 1, 1) := by decide +kernel
theorem d_R_both_5 : decode c_R_both 5 = .ok (.dup2, 1) := by decide +kernel
theorem d_R_both_6 : decode c_R_both 6 = .ok (.iaload, 1) := by decide +kernel
theorem d_R_both_7 : decode c_R_both 7 = .ok (.iconst 1, 1) := by decide +kernel
theorem d_R_both_8 : decode c_R_both 8 = .ok (.iadd, 1) := by decide +kernel
theorem d_R_both_9 : decode c_R_both 9 = .ok (.iastore, 1) := by decide +kernel
theorem d_R_both_10 : decode c_R_both 10 = .ok (.aload_n 0, 1) := by decide +kernel
theorem d_R_both_11 : decode c_R_both 11 = .ok (.getfield 76, 3) := by decide +kernel
theorem d_R_both_14 : decode c_R_both 14 = .ok (.iload_n 1, 1) := by decide +kernel
theorem d_R_both_15 : decode c_R_both 15 = .ok (.iaload, 1) := by decide +kernel
theorem d_R_both_16 : decode c_R_both 16 = .ok (.iconst 1, 1) := by decide +kernel
theorem d_R_both_17 : decode c_R_both 17 = .ok (.if_icmp .ne 17, 3) := by decide +kernel
theorem d_R_both_20 : decode c_R_both 20 = .ok (.aload_n 0, 1) := by decide +kernel
theorem d_R_both_21 : decode c_R_both 21 = .ok (.aload_n 0, 1) := by decide +kernel
theorem d_R_both_22 : decode c_R_both 22 = .ok (.getfield 17, 3) := by decide +kernel
theorem d_R_both_25 : decode c_R_both 25 = .ok (.iload_n 2, 1) := by decide +kernel
theorem d_R_both_26 : decode c_R_both 26 = .ok (.iaload, 1) := by decide +kernel
theorem d_R_both_27 : decode c_R_both 27 = .ok (.iload_n 3, 1) := by decide +kernel
theorem d_R_both_28 : decode c_R_both 28 = .ok (.invokevirtual 131, 3) := by decide +kernel
theorem d_R_both_31 : decode c_R_both 31 = .ok (.goto 76, 3) := by decide +kernel
theorem d_R_both_34 : decode c_R_both 34 = .ok (.aload_n 0, 1) := by decide +kernel
theorem d_R_both_35 : decode c_R_both 35 = .ok (.getfield 76, 3) := by decide +kernel
theorem d_R_both_38 : decode c_R_both 38 = .ok (.iload_n 1, 1) := by decide +kernel
theorem d_R_both_39 : decode c_R_both 39 = .ok (.iaload, 1) := by decide +kernel
theorem d_R_both_40 : decode c_R_both 40 = .ok (.iconst 2, 1) := by decide +kernel
theorem d_R_both_41 : decode c_R_both 41 = .ok (.if_icmp .ne 47, 3) := by decide +kernel
theorem d_R_both_44 : decode c_R_both 44 = .ok (.aload_n 0, 1) := by decide +kernel
theorem d_R_both_45 : decode c_R_both 45 = .ok (.getfield 79, 3) := by decide +kernel
theorem d_R_both_48 : decode c_R_both 48 = .ok (.iload_n 1, 1) := by decide +kernel
theorem d_R_both_49 : decode c_R_both 49 = .ok (.aload_n 0, 1) := by decide +kernel
theorem d_R_both_50 : decode c_R_both 50 = .ok (.getfield 124, 3) := by decide +kernel
theorem d_R_both_53 : decode c_R_both 53 = .ok (.lastore, 1) := by decide +kernel
theorem d_R_both_54 : decode c_R_both 54 = .ok (.aload_n 0, 1) := by decide +kernel
theorem d_R_both_55 : decode c_R_both 55 = .ok (.iconst 4, 1) := by decide +kernel
theorem d_R_both_56 : decode c_R_both 56 = .ok (.iload_n 2, 1) := by decide +kernel
theorem d_R_both_57 : decode c_R_both 57 = .ok (.invokevirtual 139, 3) := by decide +kernel
theorem d_R_both_60 : decode c_R_both 60 = .ok (.ifCond .eq 14, 3) := by decide +kernel
theorem d_R_both_63 : decode c_R_both 63 = .ok (.aload_n 0, 1) := by decide +kernel
theorem d_R_both_64 : decode c_R_both 64 = .ok (.aload_n 0, 1) := by decide +kernel
theorem d_R_both_65 : decode c_R_both 65 = .ok (.getfield 124, 3) := by decide +kernel
theorem d_R_both_68 : decode c_R_both 68 = .ok (.invokevirtual 143, 3) := by decide +kernel
theorem d_R_both_71 : decode c_R_both 71 = .ok (.goto 36, 3) := by decide +kernel
theorem d_R_both_74 : decode c_R_both 74 = .ok (.aload_n 0, 1) := by decide +kernel
theorem d_R_both_75 : decode c_R_both 75 = .ok (.aload_n 0, 1) := by decide +kernel
theorem d_R_both_76 : decode c_R_both 76 = .ok (.getfield 20, 3) := by decide +kernel
theorem d_R_both_79 : decode c_R_both 79 = .ok (.iload_n 2, 1) := by decide +kernel
theorem d_R_both_80 : decode c_R_both 80 = .ok (.iaload, 1) := by decide +kernel
theorem d_R_both_81 : decode c_R_both 81 = .ok (.iload_n 3, 1) := by decide +kernel
theorem d_R_both_82 : decode c_R_both 82 = .ok (.invokevirtual 131, 3) := by decide +kernel
theorem d_R_both_85 : decode c_R_both 85 = .ok (.goto 22, 3) := by decide +kernel
theorem d_R_both_88 : decode c_R_both 88 = .ok (.aload_n 0, 1) := by decide +kernel
theorem d_R_both_89 : decode c_R_both 89 = .ok (.aload_n 0, 1) := by decide +kernel
theorem d_R_both_90 : decode c_R_both 90 = .ok (.iload_n 2, 1) := by decide +kernel
theorem d_R_both_91 : decode c_R_both 91 = .ok (.aload_n 0, 1) := by decide +kernel
theorem d_R_both_92 : decode c_R_both 92 = .ok (.getfield 79, 3) := by decide +kernel
theorem d_R_both_95 : decode c_R_both 95 = .ok (.iload_n 1, 1) := by decide +kernel
theorem d_R_both_96 : decode c_R_both 96 = .ok (.laload, 1) := by decide +kernel
theorem d_R_both_97 : decode c_R_both 97 = .ok (.aload_n 0, 1) := by decide +kernel
theorem d_R_both_98 : decode c_R_both 98 = .ok (.getfield 124, 3) := by decide +kernel
theorem d_R_both_101 : decode c_R_both 101 = .ok (.invokevirtual 157, 3) := by decide +kernel
theorem d_R_both_104 : decode c_R_both 104 = .ok (.invokevirtual 143, 3) := by decide +kernel
theorem d_R_both_107 : decode c_R_both 107 = .ok (.return_, 1) := by decide +kernel
theorem d_R_made_0 : decode c_R_made 0 = .ok (.aload_n 0, 1) := by decide +kernel
theorem d_R_made_1 : decode c_R_made 1 = .ok (.getfield 7, 3) := by decide +kernel
theorem d_R_made_4 : decode c_R_made 4 = .ok (.iload_n 1, 1) := by decide +kernel
theorem d_R_made_5 : decode c_R_made 5 = .ok (.iaload, 1) := by decide +kernel
theorem d_R_made_6 : decode c_R_made 6 = .ok (.tableswitch 106 3 6 #[30, 51, 72, 77], 30) := by decide +kernel
theorem d_R_made_36 : decode c_R_made 36 = .ok (.aload_n 0, 1) := by decide +kernel
theorem d_R_made_37 : decode c_R_made 37 = .ok (.iconst 2, 1) := by decide +kernel
theorem d_R_made_38 : decode c_R_made 38 = .ok (.iload_n 1, 1) := by decide +kernel
theorem d_R_made_39 : decode c_R_made 39 = .ok (.invokevirtual 139, 3) := by decide +kernel
theorem d_R_made_42 : decode c_R_made 42 = .ok (.ifCond .eq 10, 3) := by decide +kernel
theorem d_R_made_45 : decode c_R_made 45 = .ok (.lload_n 2, 1) := by decide +kernel
theorem d_R_made_46 : decode c_R_made 46 = .ok (.lload 4, 2) := by decide +kernel
theorem d_R_made_48 : decode c_R_made 48 = .ok (.lsub, 1) := by decide +kernel
theorem d_R_made_49 : decode c_R_made 49 = .ok (.goto 7, 3) := by decide +kernel
theorem d_R_made_52 : decode c_R_made 52 = .ok (.lload_n 2, 1) := by decide +kernel
theorem d_R_made_53 : decode c_R_made 53 = .ok (.lload 4, 2) := by decide +kernel
theorem d_R_made_55 : decode c_R_made 55 = .ok (.ladd, 1) := by decide +kernel
theorem d_R_made_56 : decode c_R_made 56 = .ok (.lreturn, 1) := by decide +kernel
theorem d_R_made_57 : decode c_R_made 57 = .ok (.aload_n 0, 1) := by decide +kernel
theorem d_R_made_58 : decode c_R_made 58 = .ok (.iconst 2, 1) := by decide +kernel
theorem d_R_made_59 : decode c_R_made 59 = .ok (.iload_n 1, 1) := by decide +kernel
theorem d_R_made_60 : decode c_R_made 60 = .ok (.invokevirtual 139, 3) := by decide +kernel
theorem d_R_made_63 : decode c_R_made 63 = .ok (.ifCond .eq 10, 3) := by decide +kernel
theorem d_R_made_66 : decode c_R_made 66 = .ok (.lload_n 2, 1) := by decide +kernel
theorem d_R_made_67 : decode c_R_made 67 = .ok (.lload 4, 2) := by decide +kernel
theorem d_R_made_69 : decode c_R_made 69 = .ok (.ladd, 1) := by decide +kernel
theorem d_R_made_70 : decode c_R_made 70 = .ok (.goto 7, 3) := by decide +kernel
theorem d_R_made_73 : decode c_R_made 73 = .ok (.lload_n 2, 1) := by decide +kernel
theorem d_R_made_74 : decode c_R_made 74 = .ok (.lload 4, 2) := by decide +kernel
theorem d_R_made_76 : decode c_R_made 76 = .ok (.lsub, 1) := by decide +kernel
theorem d_R_made_77 : decode c_R_made 77 = .ok (.lreturn, 1) := by decide +kernel
theorem d_R_made_78 : decode c_R_made 78 = .ok (.lload_n 2, 1) := by decide +kernel
theorem d_R_made_79 : decode c_R_made 79 = .ok (.lload 4, 2) := by decide +kernel
theorem d_R_made_81 : decode c_R_made 81 = .ok (.lmul, 1) := by decide +kernel
theorem d_R_made_82 : decode c_R_made 82 = .ok (.lreturn, 1) := by decide +kernel
theorem d_R_made_83 : decode c_R_made 83 = .ok (.lload_n 2, 1) := by decide +kernel
theorem d_R_made_84 : decode c_R_made 84 = .ok (.lload 4, 2) := by decide +kernel
theorem d_R_made_86 : decode c_R_made 86 = .ok (.lcmp, 1) := by decide +kernel
theorem d_R_made_87 : decode c_R_made 87 = .ok (.ifCond .lt 19, 3) := by decide +kernel
theorem d_R_made_90 : decode c_R_made 90 = .ok (.lload_n 2, 1) := by decide +kernel
theorem d_R_made_91 : decode c_R_made 91 = .ok (.lload 4, 2) := by decide +kernel
theorem d_R_made_93 : decode c_R_made 93 = .ok (.lcmp, 1) := by decide +kernel
theorem d_R_made_94 : decode c_R_made 94 = .ok (.ifCond .ne 16, 3) := by decide +kernel
theorem d_R_made_97 : decode c_R_made 97 = .ok (.aload_n 0, 1) := by decide +kernel
theorem d_R_made_98 : decode c_R_made 98 = .ok (.iconst 1, 1) := by decide +kernel
theorem d_R_made_99 : decode c_R_made 99 = .ok (.iload_n 1, 1) := by decide +kernel
theorem d_R_made_100 : decode c_R_made 100 = .ok (.invokevirtual 139, 3) := by decide +kernel
theorem d_R_made_103 : decode c_R_made 103 = .ok (.ifCond .eq 7, 3) := by decide +kernel
theorem d_R_made_106 : decode c_R_made 106 = .ok (.lconst 1, 1) := by decide +kernel
theorem d_R_made_107 : decode c_R_made 107 = .ok (.goto 4, 3) := by decide +kernel
theorem d_R_made_110 : decode c_R_made 110 = .ok (.lconst 0, 1) := by decide +kernel
theorem d_R_made_111 : decode c_R_made 111 = .ok (.lreturn, 1) := by decide +kernel
theorem d_R_made_112 : decode c_R_made 112 = .ok (.lload_n 2, 1) := by decide +kernel
theorem d_R_made_113 : decode c_R_made 113 = .ok (.lload 4, 2) := by decide +kernel
theorem d_R_made_115 : decode c_R_made 115 = .ok (.lcmp, 1) := by decide +kernel
theorem d_R_made_116 : decode c_R_made 116 = .ok (.ifCond .ne 7, 3) := by decide +kernel
theorem d_R_made_119 : decode c_R_made 119 = .ok (.iconst 1, 1) := by decide +kernel
theorem d_R_made_120 : decode c_R_made 120 = .ok (.goto 4, 3) := by decide +kernel
theorem d_R_made_123 : decode c_R_made 123 = .ok (.iconst 0, 1) := by decide +kernel
theorem d_R_made_124 : decode c_R_made 124 = .ok (.aload_n 0, 1) := by decide +kernel
theorem d_R_made_125 : decode c_R_made 125 = .ok (.iconst 5, 1) := by decide +kernel
theorem d_R_made_126 : decode c_R_made 126 = .ok (.iload_n 1, 1) := by decide +kernel
theorem d_R_made_127 : decode c_R_made 127 = .ok (.invokevirtual 139, 3) := by decide +kernel
theorem d_R_made_130 : decode c_R_made 130 = .ok (.if_icmp .eq 7, 3) := by decide +kernel
theorem d_R_made_133 : decode c_R_made 133 = .ok (.lconst 1, 1) := by decide +kernel
theorem d_R_made_134 : decode c_R_made 134 = .ok (.goto 4, 3) := by decide +kernel
theorem d_R_made_137 : decode c_R_made 137 = .ok (.lconst 0, 1) := by decide +kernel
theorem d_R_made_138 : decode c_R_made 138 = .ok (.lreturn, 1) := by decide +kernel
theorem d_R_about_0 : decode c_R_about 0 = .ok (.aload_n 0, 1) := by decide +kernel
theorem d_R_about_1 : decode c_R_about 1 = .ok (.iload_n 1, 1) := by decide +kernel
theorem d_R_about_2 : decode c_R_about 2 = .ok (.invokevirtual 169, 3) := by decide +kernel
theorem d_R_about_5 : decode c_R_about 5 = .ok (.ifCond .ne 5, 3) := by decide +kernel
theorem d_R_about_8 : decode c_R_about 8 = .ok (.iconst (-1), 1) := by decide +kernel
theorem d_R_about_9 : decode c_R_about 9 = .ok (.ireturn, 1) := by decide +kernel
theorem d_R_about_10 : decode c_R_about 10 = .ok (.iload_n 2, 1) := by decide +kernel
theorem d_R_about_11 : decode c_R_about 11 = .ok (.ifCond .ne 10, 3) := by decide +kernel
theorem d_R_about_14 : decode c_R_about 14 = .ok (.aload_n 0, 1) := by decide +kernel
theorem d_R_about_15 : decode c_R_about 15 = .ok (.getfield 35, 3) := by decide +kernel
theorem d_R_about_18 : decode c_R_about 18 = .ok (.iload_n 1, 1) := by decide +kernel
theorem d_R_about_19 : decode c_R_about 19 = .ok (.iaload, 1) := by decide +kernel
theorem d_R_about_20 : decode c_R_about 20 = .ok (.ireturn, 1) := by decide +kernel
theorem d_R_about_21 : decode c_R_about 21 = .ok (.iload_n 2, 1) := by decide +kernel
theorem d_R_about_22 : decode c_R_about 22 = .ok (.iconst 1, 1) := by decide +kernel
theorem d_R_about_23 : decode c_R_about 23 = .ok (.if_icmp .ne 10, 3) := by decide +kernel
theorem d_R_about_26 : decode c_R_about 26 = .ok (.aload_n 0, 1) := by decide +kernel
theorem d_R_about_27 : decode c_R_about 27 = .ok (.getfield 38, 3) := by decide +kernel
theorem d_R_about_30 : decode c_R_about 30 = .ok (.iload_n 1, 1) := by decide +kernel
theorem d_R_about_31 : decode c_R_about 31 = .ok (.iaload, 1) := by decide +kernel
theorem d_R_about_32 : decode c_R_about 32 = .ok (.ireturn, 1) := by decide +kernel
theorem d_R_about_33 : decode c_R_about 33 = .ok (.iload_n 2, 1) := by decide +kernel
theorem d_R_about_34 : decode c_R_about 34 = .ok (.iconst 2, 1) := by decide +kernel
theorem d_R_about_35 : decode c_R_about 35 = .ok (.if_icmp .eq 5, 3) := by decide +kernel
theorem d_R_about_38 : decode c_R_about 38 = .ok (.iconst (-1), 1) := by decide +kernel
theorem d_R_about_39 : decode c_R_about 39 = .ok (.ireturn, 1) := by decide +kernel
theorem d_R_about_40 : decode c_R_about 40 = .ok (.iconst 0, 1) := by decide +kernel
theorem d_R_about_41 : decode c_R_about 41 = .ok (.istore_n 3, 1) := by decide +kernel
theorem d_R_about_42 : decode c_R_about 42 = .ok (.iconst 0, 1) := by decide +kernel
theorem d_R_about_43 : decode c_R_about 43 = .ok (.istore 4, 2) := by decide +kernel
theorem d_R_about_45 : decode c_R_about 45 = .ok (.iload 4, 2) := by decide +kernel
theorem d_R_about_47 : decode c_R_about 47 = .ok (.bipush 64, 2) := by decide +kernel
theorem d_R_about_49 : decode c_R_about 49 = .ok (.if_icmp .ge 32, 3) := by decide +kernel
theorem d_R_about_52 : decode c_R_about 52 = .ok (.iload_n 3, 1) := by decide +kernel
theorem d_R_about_53 : decode c_R_about 53 = .ok (.aload_n 0, 1) := by decide +kernel
theorem d_R_about_54 : decode c_R_about 54 = .ok (.getfield 41, 3) := by decide +kernel
theorem d_R_about_57 : decode c_R_about 57 = .ok (.bipush 64, 2) := by decide +kernel
theorem d_R_about_59 : decode c_R_about 59 = .ok (.iload_n 1, 1) := by decide +kernel
theorem d_R_about_60 : decode c_R_about 60 = .ok (.imul, 1) := by decide +kernel
theorem d_R_about_61 : decode c_R_about 61 = .ok (.iload 4, 2) := by decide +kernel
theorem d_R_about_63 : decode c_R_about 63 = .ok (.iadd, 1) := by decide +kernel
theorem d_R_about_64 : decode c_R_about 64 = .ok (.baload, 1) := by decide +kernel
theorem d_R_about_65 : decode c_R_about 65 = .ok (.ifCond .eq 7, 3) := by decide +kernel
theorem d_R_about_68 : decode c_R_about 68 = .ok (.iconst 1, 1) := by decide +kernel
theorem d_R_about_69 : decode c_R_about 69 = .ok (.goto 4, 3) := by decide +kernel
theorem d_R_about_72 : decode c_R_about 72 = .ok (.iconst 0, 1) := by decide +kernel
theorem d_R_about_73 : decode c_R_about 73 = .ok (.iadd, 1) := by decide +kernel
theorem d_R_about_74 : decode c_R_about 74 = .ok (.istore_n 3, 1) := by decide +kernel
theorem d_R_about_75 : decode c_R_about 75 = .ok (.iinc 4 1, 3) := by decide +kernel
theorem d_R_about_78 : decode c_R_about 78 = .ok (.goto (-33), 3) := by decide +kernel
theorem d_R_about_81 : decode c_R_about 81 = .ok (.iload_n 3, 1) := by decide +kernel
theorem d_R_about_82 : decode c_R_about 82 = .ok (.ireturn, 1) := by decide +kernel
theorem d_R_isTest_0 : decode c_R_isTest 0 = .ok (.iload_n 1, 1) := by decide +kernel
theorem d_R_isTest_1 : decode c_R_isTest 1 = .ok (.i2l, 1) := by decide +kernel
theorem d_R_isTest_2 : decode c_R_isTest 2 = .ok (.lconst 0, 1) := by decide +kernel
theorem d_R_isTest_3 : decode c_R_isTest 3 = .ok (.aload_n 0, 1) := by decide +kernel
theorem d_R_isTest_4 : decode c_R_isTest 4 = .ok (.getfield 98, 3) := by decide +kernel
theorem d_R_isTest_7 : decode c_R_isTest 7 = .ok (.iconst 1, 1) := by decide +kernel
theorem d_R_isTest_8 : decode c_R_isTest 8 = .ok (.isub, 1) := by decide +kernel
theorem d_R_isTest_9 : decode c_R_isTest 9 = .ok (.i2l, 1) := by decide +kernel
theorem d_R_isTest_10 : decode c_R_isTest 10 = .ok (.invokestatic 94, 3) := by decide +kernel
theorem d_R_isTest_13 : decode c_R_isTest 13 = .ok (.ireturn, 1) := by decide +kernel
theorem d_R_make_0 : decode c_R_make 0 = .ok (.iload_n 1, 1) := by decide +kernel
theorem d_R_make_1 : decode c_R_make 1 = .ok (.i2l, 1) := by decide +kernel
theorem d_R_make_2 : decode c_R_make 2 = .ok (.lconst 0, 1) := by decide +kernel
theorem d_R_make_3 : decode c_R_make 3 = .ok (.ldc2_w 173, 3) := by decide +kernel
theorem d_R_make_6 : decode c_R_make 6 = .ok (.invokestatic 94, 3) := by decide +kernel
theorem d_R_make_9 : decode c_R_make 9 = .ok (.ifCond .ne 5, 3) := by decide +kernel
theorem d_R_make_12 : decode c_R_make 12 = .ok (.iconst (-1), 1) := by decide +kernel
theorem d_R_make_13 : decode c_R_make 13 = .ok (.ireturn, 1) := by decide +kernel
theorem d_R_make_14 : decode c_R_make 14 = .ok (.iconst 0, 1) := by decide +kernel
theorem d_R_make_15 : decode c_R_make 15 = .ok (.istore_n 2, 1) := by decide +kernel
theorem d_R_make_16 : decode c_R_make 16 = .ok (.iconst 0, 1) := by decide +kernel
theorem d_R_make_17 : decode c_R_make 17 = .ok (.istore_n 3, 1) := by decide +kernel
theorem d_R_make_18 : decode c_R_make 18 = .ok (.iload_n 3, 1) := by decide +kernel
theorem d_R_make_19 : decode c_R_make 19 = .ok (.aload_n 0, 1) := by decide +kernel
theorem d_R_make_20 : decode c_R_make 20 = .ok (.getfield 91, 3) := by decide +kernel
theorem d_R_make_23 : decode c_R_make 23 = .ok (.if_icmp .ge 100, 3) := by decide +kernel
theorem d_R_make_26 : decode c_R_make 26 = .ok (.aload_n 0, 1) := by decide +kernel
theorem d_R_make_27 : decode c_R_make 27 = .ok (.getfield 101, 3) := by decide +kernel
theorem d_R_make_30 : decode c_R_make 30 = .ok (.bipush 100, 2) := by decide +kernel
theorem d_R_make_32 : decode c_R_make 32 = .ok (.if_icmp .ge 91, 3) := by decide +kernel
theorem d_R_make_35 : decode c_R_make 35 = .ok (.aload_n 0, 1) := by decide +kernel
theorem d_R_make_36 : decode c_R_make 36 = .ok (.iload_n 1, 1) := by decide +kernel
theorem d_R_make_37 : decode c_R_make 37 = .ok (.iload_n 3, 1) := by decide +kernel
theorem d_R_make_38 : decode c_R_make 38 = .ok (.invokevirtual 175, 3) := by decide +kernel
theorem d_R_make_41 : decode c_R_make 41 = .ok (.ifCond .eq 76, 3) := by decide +kernel
theorem d_R_make_44 : decode c_R_make 44 = .ok (.aload_n 0, 1) := by decide +kernel
theorem d_R_make_45 : decode c_R_make 45 = .ok (.iload_n 3, 1) := by decide +kernel
theorem d_R_make_46 : decode c_R_make 46 = .ok (.invokevirtual 178, 3) := by decide +kernel
theorem d_R_make_49 : decode c_R_make 49 = .ok (.ifCond .eq 68, 3) := by decide +kernel
theorem d_R_make_52 : decode c_R_make 52 = .ok (.aload_n 0, 1) := by decide +kernel
theorem d_R_make_53 : decode c_R_make 53 = .ok (.iload_n 1, 1) := by decide +kernel
theorem d_R_make_54 : decode c_R_make 54 = .ok (.iload_n 3, 1) := by decide +kernel
theorem d_R_make_55 : decode c_R_make 55 = .ok (.invokevirtual 181, 3) := by decide +kernel
theorem d_R_make_58 : decode c_R_make 58 = .ok (.ifCond .eq 6, 3) := by decide +kernel
theorem d_R_make_61 : decode c_R_make 61 = .ok (.goto 56, 3) := by decide +kernel
theorem d_R_make_64 : decode c_R_make 64 = .ok (.aload_n 0, 1) := by decide +kernel
theorem d_R_make_65 : decode c_R_make 65 = .ok (.getfield 48, 3) := by decide +kernel
theorem d_R_make_68 : decode c_R_make 68 = .ok (.aload_n 0, 1) := by decide +kernel
theorem d_R_make_69 : decode c_R_make 69 = .ok (.getfield 101, 3) := by decide +kernel
theorem d_R_make_72 : decode c_R_make 72 = .ok (.iload_n 1, 1) := by decide +kernel
theorem d_R_make_73 : decode c_R_make 73 = .ok (.iastore, 1) := by decide +kernel
theorem d_R_make_74 : decode c_R_make 74 = .ok (.aload_n 0, 1) := by decide +kernel
theorem d_R_make_75 : decode c_R_make 75 = .ok (.getfield 51, 3) := by decide +kernel
theorem d_R_make_78 : decode c_R_make 78 = .ok (.aload_n 0, 1) := by decide +kernel
theorem d_R_make_79 : decode c_R_make 79 = .ok (.getfield 101, 3) := by decide +kernel
theorem d_R_make_82 : decode c_R_make 82 = .ok (.iload_n 3, 1) := by decide +kernel
theorem d_R_make_83 : decode c_R_make 83 = .ok (.iastore, 1) := by decide +kernel
theorem d_R_make_84 : decode c_R_make 84 = .ok (.aload_n 0, 1) := by decide +kernel
theorem d_R_make_85 : decode c_R_make 85 = .ok (.getfield 54, 3) := by decide +kernel
theorem d_R_make_88 : decode c_R_make 88 = .ok (.aload_n 0, 1) := by decide +kernel
theorem d_R_make_89 : decode c_R_make 89 = .ok (.getfield 101, 3) := by decide +kernel
theorem d_R_make_92 : decode c_R_make 92 = .ok (.iconst (-1), 1) := by decide +kernel
theorem d_R_make_93 : decode c_R_make 93 = .ok (.iastore, 1) := by decide +kernel
theorem d_R_make_94 : decode c_R_make 94 = .ok (.aload_n 0, 1) := by decide +kernel
theorem d_R_make_95 : decode c_R_make 95 = .ok (.getfield 57, 3) := by decide +kernel
theorem d_R_make_98 : decode c_R_make 98 = .ok (.aload_n 0, 1) := by decide +kernel
theorem d_R_make_99 : decode c_R_make 99 = .ok (.getfield 101, 3) := by decide +kernel
theorem d_R_make_102 : decode c_R_make 102 = .ok (.iconst (-1), 1) := by decide +kernel
theorem d_R_make_103 : decode c_R_make 103 = .ok (.iastore, 1) := by decide +kernel
theorem d_R_make_104 : decode c_R_make 104 = .ok (.aload_n 0, 1) := by decide +kernel
theorem d_R_make_105 : decode c_R_make 105 = .ok (.dup, 1) := by decide +kernel
theorem d_R_make_106 : decode c_R_make 106 = .ok (.getfield 101, 3) := by decide +kernel
theorem d_R_make_109 : decode c_R_make 109 = .ok (.iconst 1, 1) := by decide +kernel
theorem d_R_make_110 : decode c_R_make 110 = .ok (.iadd, 1) := by decide +kernel
theorem d_R_make_111 : decode c_R_make 111 = .ok (.putfield 101, 3) := by decide +kernel
theorem d_R_make_114 : decode c_R_make 114 = .ok (.iinc 2 1, 3) := by decide +kernel
theorem d_R_make_117 : decode c_R_make 117 = .ok (.iinc 3 1, 3) := by decide +kernel
theorem d_R_make_120 : decode c_R_make 120 = .ok (.goto (-102), 3) := by decide +kernel
theorem d_R_make_123 : decode c_R_make 123 = .ok (.iload_n 2, 1) := by decide +kernel
theorem d_R_make_124 : decode c_R_make 124 = .ok (.ireturn, 1) := by decide +kernel
theorem d_R_isFor_0 : decode c_R_isFor 0 = .ok (.aload_n 0, 1) := by decide +kernel
theorem d_R_isFor_1 : decode c_R_isFor 1 = .ok (.getfield 7, 3) := by decide +kernel
theorem d_R_isFor_4 : decode c_R_isFor 4 = .ok (.iload_n 2, 1) := by decide +kernel
theorem d_R_isFor_5 : decode c_R_isFor 5 = .ok (.iaload, 1) := by decide +kernel
theorem d_R_isFor_6 : decode c_R_isFor 6 = .ok (.istore_n 3, 1) := by decide +kernel
theorem d_R_isFor_7 : decode c_R_isFor 7 = .ok (.iload_n 1, 1) := by decide +kernel
theorem d_R_isFor_8 : decode c_R_isFor 8 = .ok (.tableswitch 107 0 4 #[36, 46, 58, 74, 86], 36) := by decide +kernel
theorem d_R_isFor_44 : decode c_R_isFor 44 = .ok (.iload_n 3, 1) := by decide +kernel
theorem d_R_isFor_45 : decode c_R_isFor 45 = .ok (.ifCond .ne 7, 3) := by decide +kernel
theorem d_R_isFor_48 : decode c_R_isFor 48 = .ok (.iconst 1, 1) := by decide +kernel
theorem d_R_isFor_49 : decode c_R_isFor 49 = .ok (.goto 4, 3) := by decide +kernel
theorem d_R_isFor_52 : decode c_R_isFor 52 = .ok (.iconst 0, 1) := by decide +kernel
theorem d_R_isFor_53 : decode c_R_isFor 53 = .ok (.ireturn, 1) := by decide +kernel
theorem d_R_isFor_54 : decode c_R_isFor 54 = .ok (.iload_n 3, 1) := by decide +kernel
theorem d_R_isFor_55 : decode c_R_isFor 55 = .ok (.bipush 6, 2) := by decide +kernel
theorem d_R_isFor_57 : decode c_R_isFor 57 = .ok (.if_icmp .ne 7, 3) := by decide +kernel
theorem d_R_isFor_60 : decode c_R_isFor 60 = .ok (.iconst 1, 1) := by decide +kernel
theorem d_R_isFor_61 : decode c_R_isFor 61 = .ok (.goto 4, 3) := by decide +kernel
theorem d_R_isFor_64 : decode c_R_isFor 64 = .ok (.iconst 0, 1) := by decide +kernel
theorem d_R_isFor_65 : decode c_R_isFor 65 = .ok (.ireturn, 1) := by decide +kernel
theorem d_R_isFor_66 : decode c_R_isFor 66 = .ok (.iload_n 3, 1) := by decide +kernel
theorem d_R_isFor_67 : decode c_R_isFor 67 = .ok (.iconst 3, 1) := by decide +kernel
theorem d_R_isFor_68 : decode c_R_isFor 68 = .ok (.if_icmp .eq 8, 3) := by decide +kernel
theorem d_R_isFor_71 : decode c_R_isFor 71 = .ok (.iload_n 3, 1) := by decide +kernel
theorem d_R_isFor_72 : decode c_R_isFor 72 = .ok (.iconst 4, 1) := by decide +kernel
theorem d_R_isFor_73 : decode c_R_isFor 73 = .ok (.if_icmp .ne 7, 3) := by decide +kernel
theorem d_R_isFor_76 : decode c_R_isFor 76 = .ok (.iconst 1, 1) := by decide +kernel
theorem d_R_isFor_77 : decode c_R_isFor 77 = .ok (.goto 4, 3) := by decide +kernel
theorem d_R_isFor_80 : decode c_R_isFor 80 = .ok (.iconst 0, 1) := by decide +kernel
theorem d_R_isFor_81 : decode c_R_isFor 81 = .ok (.ireturn, 1) := by decide +kernel
theorem d_R_isFor_82 : decode c_R_isFor 82 = .ok (.iload_n 3, 1) := by decide +kernel
theorem d_R_isFor_83 : decode c_R_isFor 83 = .ok (.bipush 8, 2) := by decide +kernel
theorem d_R_isFor_85 : decode c_R_isFor 85 = .ok (.if_icmp .ne 7, 3) := by decide +kernel
theorem d_R_isFor_88 : decode c_R_isFor 88 = .ok (.iconst 1, 1) := by decide +kernel
theorem d_R_isFor_89 : decode c_R_isFor 89 = .ok (.goto 4, 3) := by decide +kernel
theorem d_R_isFor_92 : decode c_R_isFor 92 = .ok (.iconst 0, 1) := by decide +kernel
theorem d_R_isFor_93 : decode c_R_isFor 93 = .ok (.ireturn, 1) := by decide +kernel
theorem d_R_isFor_94 : decode c_R_isFor 94 = .ok (.iload_n 3, 1) := by decide +kernel
theorem d_R_isFor_95 : decode c_R_isFor 95 = .ok (.iconst 3, 1) := by decide +kernel
theorem d_R_isFor_96 : decode c_R_isFor 96 = .ok (.if_icmp .eq 13, 3) := by decide +kernel
theorem d_R_isFor_99 : decode c_R_isFor 99 = .ok (.iload_n 3, 1) := by decide +kernel
theorem d_R_isFor_100 : decode c_R_isFor 100 = .ok (.iconst 4, 1) := by decide +kernel
theorem d_R_isFor_101 : decode c_R_isFor 101 = .ok (.if_icmp .eq 8, 3) := by decide +kernel
theorem d_R_isFor_104 : decode c_R_isFor 104 = .ok (.iload_n 3, 1) := by decide +kernel
theorem d_R_isFor_105 : decode c_R_isFor 105 = .ok (.iconst 5, 1) := by decide +kernel
theorem d_R_isFor_106 : decode c_R_isFor 106 = .ok (.if_icmp .ne 7, 3) := by decide +kernel
theorem d_R_isFor_109 : decode c_R_isFor 109 = .ok (.iconst 1, 1) := by decide +kernel
theorem d_R_isFor_110 : decode c_R_isFor 110 = .ok (.goto 4, 3) := by decide +kernel
theorem d_R_isFor_113 : decode c_R_isFor 113 = .ok (.iconst 0, 1) := by decide +kernel
theorem d_R_isFor_114 : decode c_R_isFor 114 = .ok (.ireturn, 1) := by decide +kernel
theorem d_R_isFor_115 : decode c_R_isFor 115 = .ok (.iload_n 3, 1) := by decide +kernel
theorem d_R_isFor_116 : decode c_R_isFor 116 = .ok (.bipush 7, 2) := by decide +kernel
theorem d_R_isFor_118 : decode c_R_isFor 118 = .ok (.if_icmp .ne 7, 3) := by decide +kernel
theorem d_R_isFor_121 : decode c_R_isFor 121 = .ok (.iconst 1, 1) := by decide +kernel
theorem d_R_isFor_122 : decode c_R_isFor 122 = .ok (.goto 4, 3) := by decide +kernel
theorem d_R_isFor_125 : decode c_R_isFor 125 = .ok (.iconst 0, 1) := by decide +kernel
theorem d_R_isFor_126 : decode c_R_isFor 126 = .ok (.ireturn, 1) := by decide +kernel
theorem d_R_isCovered_0 : decode c_R_isCovered 0 = .ok (.iconst 0, 1) := by decide +kernel
theorem d_R_isCovered_1 : decode c_R_isCovered 1 = .ok (.istore_n 2, 1) := by decide +kernel
theorem d_R_isCovered_2 : decode c_R_isCovered 2 = .ok (.iload_n 2, 1) := by decide +kernel
theorem d_R_isCovered_3 : decode c_R_isCovered 3 = .ok (.aload_n 0, 1) := by decide +kernel
theorem d_R_isCovered_4 : decode c_R_isCovered 4 = .ok (.getfield 98, 3) := by decide +kernel
theorem d_R_isCovered_7 : decode c_R_isCovered 7 = .ok (.if_icmp .ge 35, 3) := by decide +kernel
theorem d_R_isCovered_10 : decode c_R_isCovered 10 = .ok (.aload_n 0, 1) := by decide +kernel
theorem d_R_isCovered_11 : decode c_R_isCovered 11 = .ok (.getfield 35, 3) := by decide +kernel
theorem d_R_isCovered_14 : decode c_R_isCovered 14 = .ok (.iload_n 2, 1) := by decide +kernel
theorem d_R_isCovered_15 : decode c_R_isCovered 15 = .ok (.iaload, 1) := by decide +kernel
theorem d_R_isCovered_16 : decode c_R_isCovered 16 = .ok (.iconst 1, 1) := by decide +kernel
theorem d_R_isCovered_17 : decode c_R_isCovered 17 = .ok (.if_icmp .ne 19, 3) := by decide +kernel
theorem d_R_isCovered_20 : decode c_R_isCovered 20 = .ok (.aload_n 0, 1) := by decide +kernel
theorem d_R_isCovered_21 : decode c_R_isCovered 21 = .ok (.getfield 41, 3) := by decide +kernel
theorem d_R_isCovered_24 : decode c_R_isCovered 24 = .ok (.bipush 64, 2) := by decide +kernel
theorem d_R_isCovered_26 : decode c_R_isCovered 26 = .ok (.iload_n 2, 1) := by decide +kernel
theorem d_R_isCovered_27 : decode c_R_isCovered 27 = .ok (.imul, 1) := by decide +kernel
theorem d_R_isCovered_28 : decode c_R_isCovered 28 = .ok (.iload_n 1, 1) := by decide +kernel
theorem d_R_isCovered_29 : decode c_R_isCovered 29 = .ok (.iadd, 1) := by decide +kernel
theorem d_R_isCovered_30 : decode c_R_isCovered 30 = .ok (.baload, 1) := by decide +kernel
theorem d_R_isCovered_31 : decode c_R_isCovered 31 = .ok (.ifCond .eq 5, 3) := by decide +kernel
theorem d_R_isCovered_34 : decode c_R_isCovered 34 = .ok (.iconst 1, 1) := by decide +kernel
theorem d_R_isCovered_35 : decode c_R_isCovered 35 = .ok (.ireturn, 1) := by decide +kernel
theorem d_R_isCovered_36 : decode c_R_isCovered 36 = .ok (.iinc 2 1, 3) := by decide +kernel
theorem d_R_isCovered_39 : decode c_R_isCovered 39 = .ok (.goto (-37), 3) := by decide +kernel
theorem d_R_isCovered_42 : decode c_R_isCovered 42 = .ok (.iconst 0, 1) := by decide +kernel
theorem d_R_isCovered_43 : decode c_R_isCovered 43 = .ok (.ireturn, 1) := by decide +kernel
theorem d_R_isMade_0 : decode c_R_isMade 0 = .ok (.iconst 0, 1) := by decide +kernel
theorem d_R_isMade_1 : decode c_R_isMade 1 = .ok (.istore_n 3, 1) := by decide +kernel
theorem d_R_isMade_2 : decode c_R_isMade 2 = .ok (.iload_n 3, 1) := by decide +kernel
theorem d_R_isMade_3 : decode c_R_isMade 3 = .ok (.aload_n 0, 1) := by decide +kernel
theorem d_R_isMade_4 : decode c_R_isMade 4 = .ok (.getfield 101, 3) := by decide +kernel
theorem d_R_isMade_7 : decode c_R_isMade 7 = .ok (.if_icmp .ge 31, 3) := by decide +kernel
theorem d_R_isMade_10 : decode c_R_isMade 10 = .ok (.aload_n 0, 1) := by decide +kernel
theorem d_R_isMade_11 : decode c_R_isMade 11 = .ok (.getfield 48, 3) := by decide +kernel
theorem d_R_isMade_14 : decode c_R_isMade 14 = .ok (.iload_n 3, 1) := by decide +kernel
theorem d_R_isMade_15 : decode c_R_isMade 15 = .ok (.iaload, 1) := by decide +kernel
theorem d_R_isMade_16 : decode c_R_isMade 16 = .ok (.iload_n 1, 1) := by decide +kernel
theorem d_R_isMade_17 : decode c_R_isMade 17 = .ok (.if_icmp .ne 15, 3) := by decide +kernel
theorem d_R_isMade_20 : decode c_R_isMade 20 = .ok (.aload_n 0, 1) := by decide +kernel
theorem d_R_isMade_21 : decode c_R_isMade 21 = .ok (.getfield 51, 3) := by decide +kernel
theorem d_R_isMade_24 : decode c_R_isMade 24 = .ok (.iload_n 3, 1) := by decide +kernel
theorem d_R_isMade_25 : decode c_R_isMade 25 = .ok (.iaload, 1) := by decide +kernel
theorem d_R_isMade_26 : decode c_R_isMade 26 = .ok (.iload_n 2, 1) := by decide +kernel
theorem d_R_isMade_27 : decode c_R_isMade 27 = .ok (.if_icmp .ne 5, 3) := by decide +kernel
theorem d_R_isMade_30 : decode c_R_isMade 30 = .ok (.iconst 1, 1) := by decide +kernel
theorem d_R_isMade_31 : decode c_R_isMade 31 = .ok (.ireturn, 1) := by decide +kernel
theorem d_R_isMade_32 : decode c_R_isMade 32 = .ok (.iinc 3 1, 3) := by decide +kernel
theorem d_R_isMade_35 : decode c_R_isMade 35 = .ok (.goto (-33), 3) := by decide +kernel
theorem d_R_isMade_38 : decode c_R_isMade 38 = .ok (.iconst 0, 1) := by decide +kernel
theorem d_R_isMade_39 : decode c_R_isMade 39 = .ok (.ireturn, 1) := by decide +kernel
theorem d_R_mutant_0 : decode c_R_mutant 0 = .ok (.aload_n 0, 1) := by decide +kernel
theorem d_R_mutant_1 : decode c_R_mutant 1 = .ok (.iload_n 1, 1) := by decide +kernel
theorem d_R_mutant_2 : decode c_R_mutant 2 = .ok (.invokevirtual 194, 3) := by decide +kernel
theorem d_R_mutant_5 : decode c_R_mutant 5 = .ok (.ifCond .ne 5, 3) := by decide +kernel
theorem d_R_mutant_8 : decode c_R_mutant 8 = .ok (.iconst (-1), 1) := by decide +kernel
theorem d_R_mutant_9 : decode c_R_mutant 9 = .ok (.ireturn, 1) := by decide +kernel
theorem d_R_mutant_10 : decode c_R_mutant 10 = .ok (.iload_n 2, 1) := by decide +kernel
theorem d_R_mutant_11 : decode c_R_mutant 11 = .ok (.tableswitch 75 0 4 #[33, 40, 47, 54, 61], 33) := by decide +kernel
theorem d_R_mutant_44 : decode c_R_mutant 44 = .ok (.aload_n 0, 1) := by decide +kernel
theorem d_R_mutant_45 : decode c_R_mutant 45 = .ok (.getfield 48, 3) := by decide +kernel
theorem d_R_mutant_48 : decode c_R_mutant 48 = .ok (.iload_n 1, 1) := by decide +kernel
theorem d_R_mutant_49 : decode c_R_mutant 49 = .ok (.iaload, 1) := by decide +kernel
theorem d_R_mutant_50 : decode c_R_mutant 50 = .ok (.ireturn, 1) := by decide +kernel
theorem d_R_mutant_51 : decode c_R_mutant 51 = .ok (.aload_n 0, 1) := by decide +kernel
theorem d_R_mutant_52 : decode c_R_mutant 52 = .ok (.getfield 51, 3) := by decide +kernel
theorem d_R_mutant_55 : decode c_R_mutant 55 = .ok (.iload_n 1, 1) := by decide +kernel
theorem d_R_mutant_56 : decode c_R_mutant 56 = .ok (.iaload, 1) := by decide +kernel
theorem d_R_mutant_57 : decode c_R_mutant 57 = .ok (.ireturn, 1) := by decide +kernel
theorem d_R_mutant_58 : decode c_R_mutant 58 = .ok (.aload_n 0, 1) := by decide +kernel
theorem d_R_mutant_59 : decode c_R_mutant 59 = .ok (.getfield 54, 3) := by decide +kernel
theorem d_R_mutant_62 : decode c_R_mutant 62 = .ok (.iload_n 1, 1) := by decide +kernel
theorem d_R_mutant_63 : decode c_R_mutant 63 = .ok (.iaload, 1) := by decide +kernel
theorem d_R_mutant_64 : decode c_R_mutant 64 = .ok (.ireturn, 1) := by decide +kernel
theorem d_R_mutant_65 : decode c_R_mutant 65 = .ok (.aload_n 0, 1) := by decide +kernel
theorem d_R_mutant_66 : decode c_R_mutant 66 = .ok (.getfield 57, 3) := by decide +kernel
theorem d_R_mutant_69 : decode c_R_mutant 69 = .ok (.iload_n 1, 1) := by decide +kernel
theorem d_R_mutant_70 : decode c_R_mutant 70 = .ok (.iaload, 1) := by decide +kernel
theorem d_R_mutant_71 : decode c_R_mutant 71 = .ok (.ireturn, 1) := by decide +kernel
theorem d_R_mutant_72 : decode c_R_mutant 72 = .ok (.aload_n 0, 1) := by decide +kernel
theorem d_R_mutant_73 : decode c_R_mutant 73 = .ok (.iload_n 1, 1) := by decide +kernel
theorem d_R_mutant_74 : decode c_R_mutant 74 = .ok (.invokevirtual 197, 3) := by decide +kernel
theorem d_R_mutant_77 : decode c_R_mutant 77 = .ok (.ifCond .eq 7, 3) := by decide +kernel
theorem d_R_mutant_80 : decode c_R_mutant 80 = .ok (.iconst 1, 1) := by decide +kernel
theorem d_R_mutant_81 : decode c_R_mutant 81 = .ok (.goto 4, 3) := by decide +kernel
theorem d_R_mutant_84 : decode c_R_mutant 84 = .ok (.iconst 0, 1) := by decide +kernel
theorem d_R_mutant_85 : decode c_R_mutant 85 = .ok (.ireturn, 1) := by decide +kernel
theorem d_R_mutant_86 : decode c_R_mutant 86 = .ok (.iconst (-1), 1) := by decide +kernel
theorem d_R_mutant_87 : decode c_R_mutant 87 = .ok (.ireturn, 1) := by decide +kernel
theorem d_R_isMutant_0 : decode c_R_isMutant 0 = .ok (.iload_n 1, 1) := by decide +kernel
theorem d_R_isMutant_1 : decode c_R_isMutant 1 = .ok (.i2l, 1) := by decide +kernel
theorem d_R_isMutant_2 : decode c_R_isMutant 2 = .ok (.lconst 0, 1) := by decide +kernel
theorem d_R_isMutant_3 : decode c_R_isMutant 3 = .ok (.aload_n 0, 1) := by decide +kernel
theorem d_R_isMutant_4 : decode c_R_isMutant 4 = .ok (.getfield 101, 3) := by decide +kernel
theorem d_R_isMutant_7 : decode c_R_isMutant 7 = .ok (.iconst 1, 1) := by decide +kernel
theorem d_R_isMutant_8 : decode c_R_isMutant 8 = .ok (.isub, 1) := by decide +kernel
theorem d_R_isMutant_9 : decode c_R_isMutant 9 = .ok (.i2l, 1) := by decide +kernel
theorem d_R_isMutant_10 : decode c_R_isMutant 10 = .ok (.invokestatic 94, 3) := by decide +kernel
theorem d_R_isMutant_13 : decode c_R_isMutant 13 = .ok (.ireturn, 1) := by decide +kernel
theorem d_R_isProved_0 : decode c_R_isProved 0 = .ok (.aload_n 0, 1) := by decide +kernel
theorem d_R_isProved_1 : decode c_R_isProved 1 = .ok (.getfield 51, 3) := by decide +kernel
theorem d_R_isProved_4 : decode c_R_isProved 4 = .ok (.iload_n 1, 1) := by decide +kernel
theorem d_R_isProved_5 : decode c_R_isProved 5 = .ok (.iaload, 1) := by decide +kernel
theorem d_R_isProved_6 : decode c_R_isProved 6 = .ok (.istore_n 2, 1) := by decide +kernel
theorem d_R_isProved_7 : decode c_R_isProved 7 = .ok (.aload_n 0, 1) := by decide +kernel
theorem d_R_isProved_8 : decode c_R_isProved 8 = .ok (.getfield 17, 3) := by decide +kernel
theorem d_R_isProved_11 : decode c_R_isProved 11 = .ok (.iload_n 2, 1) := by decide +kernel
theorem d_R_isProved_12 : decode c_R_isProved 12 = .ok (.iaload, 1) := by decide +kernel
theorem d_R_isProved_13 : decode c_R_isProved 13 = .ok (.istore_n 3, 1) := by decide +kernel
theorem d_R_isProved_14 : decode c_R_isProved 14 = .ok (.aload_n 0, 1) := by decide +kernel
theorem d_R_isProved_15 : decode c_R_isProved 15 = .ok (.getfield 20, 3) := by decide +kernel
theorem d_R_isProved_18 : decode c_R_isProved 18 = .ok (.iload_n 2, 1) := by decide +kernel
theorem d_R_isProved_19 : decode c_R_isProved 19 = .ok (.iaload, 1) := by decide +kernel
theorem d_R_isProved_20 : decode c_R_isProved 20 = .ok (.istore 4, 2) := by decide +kernel
theorem d_R_isProved_22 : decode c_R_isProved 22 = .ok (.aload_n 0, 1) := by decide +kernel
theorem d_R_isProved_23 : decode c_R_isProved 23 = .ok (.getfield 48, 3) := by decide +kernel
theorem d_R_isProved_26 : decode c_R_isProved 26 = .ok (.iload_n 1, 1) := by decide +kernel
theorem d_R_isProved_27 : decode c_R_isProved 27 = .ok (.iaload, 1) := by decide +kernel
theorem d_R_isProved_28 : decode c_R_isProved 28 = .ok (.tableswitch 126 1 4 #[32, 74, 82, 104], 32) := by decide +kernel
theorem d_R_isProved_60 : decode c_R_isProved 60 = .ok (.aload_n 0, 1) := by decide +kernel
theorem d_R_isProved_61 : decode c_R_isProved 61 = .ok (.getfield 7, 3) := by decide +kernel
theorem d_R_isProved_64 : decode c_R_isProved 64 = .ok (.iload_n 3, 1) := by decide +kernel
theorem d_R_isProved_65 : decode c_R_isProved 65 = .ok (.iaload, 1) := by decide +kernel
theorem d_R_isProved_66 : decode c_R_isProved 66 = .ok (.ifCond .ne 34, 3) := by decide +kernel
theorem d_R_isProved_69 : decode c_R_isProved 69 = .ok (.aload_n 0, 1) := by decide +kernel
theorem d_R_isProved_70 : decode c_R_isProved 70 = .ok (.getfield 7, 3) := by decide +kernel
theorem d_R_isProved_73 : decode c_R_isProved 73 = .ok (.iload 4, 2) := by decide +kernel
theorem d_R_isProved_75 : decode c_R_isProved 75 = .ok (.iaload, 1) := by decide +kernel
theorem d_R_isProved_76 : decode c_R_isProved 76 = .ok (.ifCond .ne 24, 3) := by decide +kernel
theorem d_R_isProved_79 : decode c_R_isProved 79 = .ok (.aload_n 0, 1) := by decide +kernel
theorem d_R_isProved_80 : decode c_R_isProved 80 = .ok (.getfield 13, 3) := by decide +kernel
theorem d_R_isProved_83 : decode c_R_isProved 83 = .ok (.iload_n 3, 1) := by decide +kernel
theorem d_R_isProved_84 : decode c_R_isProved 84 = .ok (.laload, 1) := by decide +kernel
theorem d_R_isProved_85 : decode c_R_isProved 85 = .ok (.aload_n 0, 1) := by decide +kernel
theorem d_R_isProved_86 : decode c_R_isProved 86 = .ok (.getfield 13, 3) := by decide +kernel
theorem d_R_isProved_89 : decode c_R_isProved 89 = .ok (.iload 4, 2) := by decide +kernel
theorem d_R_isProved_91 : decode c_R_isProved 91 = .ok (.laload, 1) := by decide +kernel
theorem d_R_isProved_92 : decode c_R_isProved 92 = .ok (.lcmp, 1) := by decide +kernel
theorem d_R_isProved_93 : decode c_R_isProved 93 = .ok (.ifCond .eq 7, 3) := by decide +kernel
theorem d_R_isProved_96 : decode c_R_isProved 96 = .ok (.iconst 1, 1) := by decide +kernel
theorem d_R_isProved_97 : decode c_R_isProved 97 = .ok (.goto 4, 3) := by decide +kernel
theorem d_R_isProved_100 : decode c_R_isProved 100 = .ok (.iconst 0, 1) := by decide +kernel
theorem d_R_isProved_101 : decode c_R_isProved 101 = .ok (.ireturn, 1) := by decide +kernel
theorem d_R_isProved_102 : decode c_R_isProved 102 = .ok (.aload_n 0, 1) := by decide +kernel
theorem d_R_isProved_103 : decode c_R_isProved 103 = .ok (.iload 4, 2) := by decide +kernel
theorem d_R_isProved_105 : decode c_R_isProved 105 = .ok (.lconst 0, 1) := by decide +kernel
theorem d_R_isProved_106 : decode c_R_isProved 106 = .ok (.invokevirtual 187, 3) := by decide +kernel
theorem d_R_isProved_109 : decode c_R_isProved 109 = .ok (.ireturn, 1) := by decide +kernel
theorem d_R_isProved_110 : decode c_R_isProved 110 = .ok (.aload_n 0, 1) := by decide +kernel
theorem d_R_isProved_111 : decode c_R_isProved 111 = .ok (.invokevirtual 191, 3) := by decide +kernel
theorem d_R_isProved_114 : decode c_R_isProved 114 = .ok (.aload_n 0, 1) := by decide +kernel
theorem d_R_isProved_115 : decode c_R_isProved 115 = .ok (.getfield 88, 3) := by decide +kernel
theorem d_R_isProved_118 : decode c_R_isProved 118 = .ok (.bipush 64, 2) := by decide +kernel
theorem d_R_isProved_120 : decode c_R_isProved 120 = .ok (.iload 4, 2) := by decide +kernel
theorem d_R_isProved_122 : decode c_R_isProved 122 = .ok (.imul, 1) := by decide +kernel
theorem d_R_isProved_123 : decode c_R_isProved 123 = .ok (.aload_n 0, 1) := by decide +kernel
theorem d_R_isProved_124 : decode c_R_isProved 124 = .ok (.getfield 23, 3) := by decide +kernel
theorem d_R_isProved_127 : decode c_R_isProved 127 = .ok (.iload_n 2, 1) := by decide +kernel
theorem d_R_isProved_128 : decode c_R_isProved 128 = .ok (.iaload, 1) := by decide +kernel
theorem d_R_isProved_129 : decode c_R_isProved 129 = .ok (.iadd, 1) := by decide +kernel
theorem d_R_isProved_130 : decode c_R_isProved 130 = .ok (.baload, 1) := by decide +kernel
theorem d_R_isProved_131 : decode c_R_isProved 131 = .ok (.ireturn, 1) := by decide +kernel
theorem d_R_isProved_132 : decode c_R_isProved 132 = .ok (.aload_n 0, 1) := by decide +kernel
theorem d_R_isProved_133 : decode c_R_isProved 133 = .ok (.iload 4, 2) := by decide +kernel
theorem d_R_isProved_135 : decode c_R_isProved 135 = .ok (.aload_n 0, 1) := by decide +kernel
theorem d_R_isProved_136 : decode c_R_isProved 136 = .ok (.getfield 7, 3) := by decide +kernel
theorem d_R_isProved_139 : decode c_R_isProved 139 = .ok (.iload_n 2, 1) := by decide +kernel
theorem d_R_isProved_140 : decode c_R_isProved 140 = .ok (.iaload, 1) := by decide +kernel
theorem d_R_isProved_141 : decode c_R_isProved 141 = .ok (.iconst 5, 1) := by decide +kernel
theorem d_R_isProved_142 : decode c_R_isProved 142 = .ok (.if_icmp .ne 7, 3) := by decide +kernel
theorem d_R_isProved_145 : decode c_R_isProved 145 = .ok (.lconst 1, 1) := by decide +kernel
theorem d_R_isProved_146 : decode c_R_isProved 146 = .ok (.goto 4, 3) := by decide +kernel
theorem d_R_isProved_149 : decode c_R_isProved 149 = .ok (.lconst 0, 1) := by decide +kernel
theorem d_R_isProved_150 : decode c_R_isProved 150 = .ok (.invokevirtual 187, 3) := by decide +kernel
theorem d_R_isProved_153 : decode c_R_isProved 153 = .ok (.ireturn, 1) := by decide +kernel
theorem d_R_isProved_154 : decode c_R_isProved 154 = .ok (.iconst 0, 1) := by decide +kernel
theorem d_R_isProved_155 : decode c_R_isProved 155 = .ok (.ireturn, 1) := by decide +kernel
theorem d_R_isNumber_0 : decode c_R_isNumber 0 = .ok (.aload_n 0, 1) := by decide +kernel
theorem d_R_isNumber_1 : decode c_R_isNumber 1 = .ok (.getfield 7, 3) := by decide +kernel
theorem d_R_isNumber_4 : decode c_R_isNumber 4 = .ok (.iload_n 1, 1) := by decide +kernel
theorem d_R_isNumber_5 : decode c_R_isNumber 5 = .ok (.iaload, 1) := by decide +kernel
theorem d_R_isNumber_6 : decode c_R_isNumber 6 = .ok (.ifCond .ne 18, 3) := by decide +kernel
theorem d_R_isNumber_9 : decode c_R_isNumber 9 = .ok (.aload_n 0, 1) := by decide +kernel
theorem d_R_isNumber_10 : decode c_R_isNumber 10 = .ok (.getfield 13, 3) := by decide +kernel
theorem d_R_isNumber_13 : decode c_R_isNumber 13 = .ok (.iload_n 1, 1) := by decide +kernel
theorem d_R_isNumber_14 : decode c_R_isNumber 14 = .ok (.laload, 1) := by decide +kernel
theorem d_R_isNumber_15 : decode c_R_isNumber 15 = .ok (.lload_n 2, 1) := by decide +kernel
theorem d_R_isNumber_16 : decode c_R_isNumber 16 = .ok (.lcmp, 1) := by decide +kernel
theorem d_R_isNumber_17 : decode c_R_isNumber 17 = .ok (.ifCond .ne 7, 3) := by decide +kernel
theorem d_R_isNumber_20 : decode c_R_isNumber 20 = .ok (.iconst 1, 1) := by decide +kernel
theorem d_R_isNumber_21 : decode c_R_isNumber 21 = .ok (.goto 4, 3) := by decide +kernel
theorem d_R_isNumber_24 : decode c_R_isNumber 24 = .ok (.iconst 0, 1) := by decide +kernel
theorem d_R_isNumber_25 : decode c_R_isNumber 25 = .ok (.ireturn, 1) := by decide +kernel
theorem d_R_layAlike_0 : decode c_R_layAlike 0 = .ok (.iconst 0, 1) := by decide +kernel
theorem d_R_layAlike_1 : decode c_R_layAlike 1 = .ok (.istore_n 1, 1) := by decide +kernel
theorem d_R_layAlike_2 : decode c_R_layAlike 2 = .ok (.iload_n 1, 1) := by decide +kernel
theorem d_R_layAlike_3 : decode c_R_layAlike 3 = .ok (.aload_n 0, 1) := by decide +kernel
theorem d_R_layAlike_4 : decode c_R_layAlike 4 = .ok (.getfield 91, 3) := by decide +kernel
theorem d_R_layAlike_7 : decode c_R_layAlike 7 = .ok (.if_icmp .ge 145, 3) := by decide +kernel
theorem d_R_layAlike_10 : decode c_R_layAlike 10 = .ok (.iconst 0, 1) := by decide +kernel
theorem d_R_layAlike_11 : decode c_R_layAlike 11 = .ok (.istore_n 2, 1) := by decide +kernel
theorem d_R_layAlike_12 : decode c_R_layAlike 12 = .ok (.iload_n 2, 1) := by decide +kernel
theorem d_R_layAlike_13 : decode c_R_layAlike 13 = .ok (.iload_n 1, 1) := by decide +kernel
theorem d_R_layAlike_14 : decode c_R_layAlike 14 = .ok (.if_icmp .gt 132, 3) := by decide +kernel
theorem d_R_layAlike_17 : decode c_R_layAlike 17 = .ok (.iload_n 1, 1) := by decide +kernel
theorem d_R_layAlike_18 : decode c_R_layAlike 18 = .ok (.iload_n 2, 1) := by decide +kernel
theorem d_R_layAlike_19 : decode c_R_layAlike 19 = .ok (.if_icmp .eq 91, 3) := by decide +kernel
theorem d_R_layAlike_22 : decode c_R_layAlike 22 = .ok (.aload_n 0, 1) := by decide +kernel
theorem d_R_layAlike_23 : decode c_R_layAlike 23 = .ok (.getfield 7, 3) := by decide +kernel
theorem d_R_layAlike_26 : decode c_R_layAlike 26 = .ok (.iload_n 1, 1) := by decide +kernel
theorem d_R_layAlike_27 : decode c_R_layAlike 27 = .ok (.iaload, 1) := by decide +kernel
theorem d_R_layAlike_28 : decode c_R_layAlike 28 = .ok (.aload_n 0, 1) := by decide +kernel
theorem d_R_layAlike_29 : decode c_R_layAlike 29 = .ok (.getfield 7, 3) := by decide +kernel
theorem d_R_layAlike_32 : decode c_R_layAlike 32 = .ok (.iload_n 2, 1) := by decide +kernel
theorem d_R_layAlike_33 : decode c_R_layAlike 33 = .ok (.iaload, 1) := by decide +kernel
theorem d_R_layAlike_34 : decode c_R_layAlike 34 = .ok (.if_icmp .ne 80, 3) := by decide +kernel
theorem d_R_layAlike_37 : decode c_R_layAlike 37 = .ok (.aload_n 0, 1) := by decide +kernel
theorem d_R_layAlike_38 : decode c_R_layAlike 38 = .ok (.getfield 13, 3) := by decide +kernel
theorem d_R_layAlike_41 : decode c_R_layAlike 41 = .ok (.iload_n 1, 1) := by decide +kernel
theorem d_R_layAlike_42 : decode c_R_layAlike 42 = .ok (.laload, 1) := by decide +kernel
theorem d_R_layAlike_43 : decode c_R_layAlike 43 = .ok (.aload_n 0, 1) := by decide +kernel
theorem d_R_layAlike_44 : decode c_R_layAlike 44 = .ok (.getfield 13, 3) := by decide +kernel
theorem d_R_layAlike_47 : decode c_R_layAlike 47 = .ok (.iload_n 2, 1) := by decide +kernel
theorem d_R_layAlike_48 : decode c_R_layAlike 48 = .ok (.laload, 1) := by decide +kernel
theorem d_R_layAlike_49 : decode c_R_layAlike 49 = .ok (.lcmp, 1) := by decide +kernel
theorem d_R_layAlike_50 : decode c_R_layAlike 50 = .ok (.ifCond .ne 64, 3) := by decide +kernel
theorem d_R_layAlike_53 : decode c_R_layAlike 53 = .ok (.aload_n 0, 1) := by decide +kernel
theorem d_R_layAlike_54 : decode c_R_layAlike 54 = .ok (.aload_n 0, 1) := by decide +kernel
theorem d_R_layAlike_55 : decode c_R_layAlike 55 = .ok (.getfield 17, 3) := by decide +kernel
theorem d_R_layAlike_58 : decode c_R_layAlike 58 = .ok (.iload_n 1, 1) := by decide +kernel
theorem d_R_layAlike_59 : decode c_R_layAlike 59 = .ok (.iaload, 1) := by decide +kernel
theorem d_R_layAlike_60 : decode c_R_layAlike 60 = .ok (.aload_n 0, 1) := by decide +kernel
theorem d_R_layAlike_61 : decode c_R_layAlike 61 = .ok (.getfield 17, 3) := by decide +kernel
theorem d_R_layAlike_64 : decode c_R_layAlike 64 = .ok (.iload_n 2, 1) := by decide +kernel
theorem d_R_layAlike_65 : decode c_R_layAlike 65 = .ok (.iaload, 1) := by decide +kernel
theorem d_R_layAlike_66 : decode c_R_layAlike 66 = .ok (.invokevirtual 184, 3) := by decide +kernel
theorem d_R_layAlike_69 : decode c_R_layAlike 69 = .ok (.ifCond .eq 45, 3) := by decide +kernel
theorem d_R_layAlike_72 : decode c_R_layAlike 72 = .ok (.aload_n 0, 1) := by decide +kernel
theorem d_R_layAlike_73 : decode c_R_layAlike 73 = .ok (.aload_n 0, 1) := by decide +kernel
theorem d_R_layAlike_74 : decode c_R_layAlike 74 = .ok (.getfield 20, 3) := by decide +kernel
theorem d_R_layAlike_77 : decode c_R_layAlike 77 = .ok (.iload_n 1, 1) := by decide +kernel
theorem d_R_layAlike_78 : decode c_R_layAlike 78 = .ok (.iaload, 1) := by decide +kernel
theorem d_R_layAlike_79 : decode c_R_layAlike 79 = .ok (.aload_n 0, 1) := by decide +kernel
theorem d_R_layAlike_80 : decode c_R_layAlike 80 = .ok (.getfield 20, 3) := by decide +kernel
theorem d_R_layAlike_83 : decode c_R_layAlike 83 = .ok (.iload_n 2, 1) := by decide +kernel
theorem d_R_layAlike_84 : decode c_R_layAlike 84 = .ok (.iaload, 1) := by decide +kernel
theorem d_R_layAlike_85 : decode c_R_layAlike 85 = .ok (.invokevirtual 184, 3) := by decide +kernel
theorem d_R_layAlike_88 : decode c_R_layAlike 88 = .ok (.ifCond .eq 26, 3) := by decide +kernel
theorem d_R_layAlike_91 : decode c_R_layAlike 91 = .ok (.aload_n 0, 1) := by decide +kernel
theorem d_R_layAlike_92 : decode c_R_layAlike 92 = .ok (.aload_n 0, 1) := by decide +kernel
theorem d_R_layAlike_93 : decode c_R_layAlike 93 = .ok (.getfield 23, 3) := by decide +kernel
theorem d_R_layAlike_96 : decode c_R_layAlike 96 = .ok (.iload_n 1, 1) := by decide +kernel
theorem d_R_layAlike_97 : decode c_R_layAlike 97 = .ok (.iaload, 1) := by decide +kernel
theorem d_R_layAlike_98 : decode c_R_layAlike 98 = .ok (.aload_n 0, 1) := by decide +kernel
theorem d_R_layAlike_99 : decode c_R_layAlike 99 = .ok (.getfield 23, 3) := by decide +kernel
theorem d_R_layAlike_102 : decode c_R_layAlike 102 = .ok (.iload_n 2, 1) := by decide +kernel
theorem d_R_layAlike_103 : decode c_R_layAlike 103 = .ok (.iaload, 1) := by decide +kernel
theorem d_R_layAlike_104 : decode c_R_layAlike 104 = .ok (.invokevirtual 184, 3) := by decide +kernel
theorem d_R_layAlike_107 : decode c_R_layAlike 107 = .ok (.ifCond .eq 7, 3) := by decide +kernel
theorem d_R_layAlike_110 : decode c_R_layAlike 110 = .ok (.iconst 1, 1) := by decide +kernel
theorem d_R_layAlike_111 : decode c_R_layAlike 111 = .ok (.goto 4, 3) := by decide +kernel
theorem d_R_layAlike_114 : decode c_R_layAlike 114 = .ok (.iconst 0, 1) := by decide +kernel
theorem d_R_layAlike_115 : decode c_R_layAlike 115 = .ok (.istore_n 3, 1) := by decide +kernel
theorem d_R_layAlike_116 : decode c_R_layAlike 116 = .ok (.aload_n 0, 1) := by decide +kernel
theorem d_R_layAlike_117 : decode c_R_layAlike 117 = .ok (.getfield 88, 3) := by decide +kernel
theorem d_R_layAlike_120 : decode c_R_layAlike 120 = .ok (.bipush 64, 2) := by decide +kernel
theorem d_R_layAlike_122 : decode c_R_layAlike 122 = .ok (.iload_n 1, 1) := by decide +kernel
theorem d_R_layAlike_123 : decode c_R_layAlike 123 = .ok (.imul, 1) := by decide +kernel
theorem d_R_layAlike_124 : decode c_R_layAlike 124 = .ok (.iload_n 2, 1) := by decide +kernel
theorem d_R_layAlike_125 : decode c_R_layAlike 125 = .ok (.iadd, 1) := by decide +kernel
theorem d_R_layAlike_126 : decode c_R_layAlike 126 = .ok (.iload_n 3, 1) := by decide +kernel
theorem d_R_layAlike_127 : decode c_R_layAlike 127 = .ok (.bastore, 1) := by decide +kernel
theorem d_R_layAlike_128 : decode c_R_layAlike 128 = .ok (.aload_n 0, 1) := by decide +kernel
theorem d_R_layAlike_129 : decode c_R_layAlike 129 = .ok (.getfield 88, 3) := by decide +kernel
theorem d_R_layAlike_132 : decode c_R_layAlike 132 = .ok (.bipush 64, 2) := by decide +kernel
theorem d_R_layAlike_134 : decode c_R_layAlike 134 = .ok (.iload_n 2, 1) := by decide +kernel
theorem d_R_layAlike_135 : decode c_R_layAlike 135 = .ok (.imul, 1) := by decide +kernel
theorem d_R_layAlike_136 : decode c_R_layAlike 136 = .ok (.iload_n 1, 1) := by decide +kernel
theorem d_R_layAlike_137 : decode c_R_layAlike 137 = .ok (.iadd, 1) := by decide +kernel
theorem d_R_layAlike_138 : decode c_R_layAlike 138 = .ok (.iload_n 3, 1) := by decide +kernel
theorem d_R_layAlike_139 : decode c_R_layAlike 139 = .ok (.bastore, 1) := by decide +kernel
theorem d_R_layAlike_140 : decode c_R_layAlike 140 = .ok (.iinc 2 1, 3) := by decide +kernel
theorem d_R_layAlike_143 : decode c_R_layAlike 143 = .ok (.goto (-131), 3) := by decide +kernel
theorem d_R_layAlike_146 : decode c_R_layAlike 146 = .ok (.iinc 1 1, 3) := by decide +kernel
theorem d_R_layAlike_149 : decode c_R_layAlike 149 = .ok (.goto (-147), 3) := by decide +kernel
theorem d_R_layAlike_152 : decode c_R_layAlike 152 = .ok (.return_, 1) := by decide +kernel
theorem d_R_areParts_0 : decode c_R_areParts 0 = .ok (.iload_n 1, 1) := by decide +kernel
theorem d_R_areParts_1 : decode c_R_areParts 1 = .ok (.iconst (-1), 1) := by decide +kernel
theorem d_R_areParts_2 : decode c_R_areParts 2 = .ok (.if_icmp .eq 17, 3) := by decide +kernel
theorem d_R_areParts_5 : decode c_R_areParts 5 = .ok (.aload_n 0, 1) := by decide +kernel
theorem d_R_areParts_6 : decode c_R_areParts 6 = .ok (.getfield 88, 3) := by decide +kernel
theorem d_R_areParts_9 : decode c_R_areParts 9 = .ok (.bipush 64, 2) := by decide +kernel
theorem d_R_areParts_11 : decode c_R_areParts 11 = .ok (.iload_n 1, 1) := by decide +kernel
theorem d_R_areParts_12 : decode c_R_areParts 12 = .ok (.imul, 1) := by decide +kernel
theorem d_R_areParts_13 : decode c_R_areParts 13 = .ok (.iload_n 2, 1) := by decide +kernel
theorem d_R_areParts_14 : decode c_R_areParts 14 = .ok (.iadd, 1) := by decide +kernel
theorem d_R_areParts_15 : decode c_R_areParts 15 = .ok (.baload, 1) := by decide +kernel
theorem d_R_areParts_16 : decode c_R_areParts 16 = .ok (.ifCond .eq 7, 3) := by decide +kernel
theorem d_R_areParts_19 : decode c_R_areParts 19 = .ok (.iconst 1, 1) := by decide +kernel
theorem d_R_areParts_20 : decode c_R_areParts 20 = .ok (.goto 4, 3) := by decide +kernel
theorem d_R_areParts_23 : decode c_R_areParts 23 = .ok (.iconst 0, 1) := by decide +kernel
theorem d_R_areParts_24 : decode c_R_areParts 24 = .ok (.ireturn, 1) := by decide +kernel
theorem d_R_run_0 : decode c_R_run 0 = .ok (.aload_n 0, 1) := by decide +kernel
theorem d_R_run_1 : decode c_R_run 1 = .ok (.iload_n 1, 1) := by decide +kernel
theorem d_R_run_2 : decode c_R_run 2 = .ok (.invokevirtual 194, 3) := by decide +kernel
theorem d_R_run_5 : decode c_R_run 5 = .ok (.ifCond .eq 15, 3) := by decide +kernel
theorem d_R_run_8 : decode c_R_run 8 = .ok (.iload_n 2, 1) := by decide +kernel
theorem d_R_run_9 : decode c_R_run 9 = .ok (.i2l, 1) := by decide +kernel
theorem d_R_run_10 : decode c_R_run 10 = .ok (.lconst 1, 1) := by decide +kernel
theorem d_R_run_11 : decode c_R_run 11 = .ok (.ldc2_w 209, 3) := by decide +kernel
theorem d_R_run_14 : decode c_R_run 14 = .ok (.invokestatic 94, 3) := by decide +kernel
theorem d_R_run_17 : decode c_R_run 17 = .ok (.ifCond .ne 5, 3) := by decide +kernel
theorem d_R_run_20 : decode c_R_run 20 = .ok (.iconst (-1), 1) := by decide +kernel
theorem d_R_run_21 : decode c_R_run 21 = .ok (.ireturn, 1) := by decide +kernel
theorem d_R_run_22 : decode c_R_run 22 = .ok (.aload_n 0, 1) := by decide +kernel
theorem d_R_run_23 : decode c_R_run 23 = .ok (.iload_n 1, 1) := by decide +kernel
theorem d_R_run_24 : decode c_R_run 24 = .ok (.invokevirtual 211, 3) := by decide +kernel
theorem d_R_run_27 : decode c_R_run 27 = .ok (.aload_n 0, 1) := by decide +kernel
theorem d_R_run_28 : decode c_R_run 28 = .ok (.getfield 54, 3) := by decide +kernel
theorem d_R_run_31 : decode c_R_run 31 = .ok (.iload_n 1, 1) := by decide +kernel
theorem d_R_run_32 : decode c_R_run 32 = .ok (.iconst 0, 1) := by decide +kernel
theorem d_R_run_33 : decode c_R_run 33 = .ok (.iastore, 1) := by decide +kernel
theorem d_R_run_34 : decode c_R_run 34 = .ok (.aload_n 0, 1) := by decide +kernel
theorem d_R_run_35 : decode c_R_run 35 = .ok (.getfield 57, 3) := by decide +kernel
theorem d_R_run_38 : decode c_R_run 38 = .ok (.iload_n 1, 1) := by decide +kernel
theorem d_R_run_39 : decode c_R_run 39 = .ok (.iconst (-1), 1) := by decide +kernel
theorem d_R_run_40 : decode c_R_run 40 = .ok (.iastore, 1) := by decide +kernel
theorem d_R_run_41 : decode c_R_run 41 = .ok (.aload_n 0, 1) := by decide +kernel
theorem d_R_run_42 : decode c_R_run 42 = .ok (.aload_n 0, 1) := by decide +kernel
theorem d_R_run_43 : decode c_R_run 43 = .ok (.getfield 48, 3) := by decide +kernel
theorem d_R_run_46 : decode c_R_run 46 = .ok (.iload_n 1, 1) := by decide +kernel
theorem d_R_run_47 : decode c_R_run 47 = .ok (.iaload, 1) := by decide +kernel
theorem d_R_run_48 : decode c_R_run 48 = .ok (.putfield 63, 3) := by decide +kernel
theorem d_R_run_51 : decode c_R_run 51 = .ok (.aload_n 0, 1) := by decide +kernel
theorem d_R_run_52 : decode c_R_run 52 = .ok (.aload_n 0, 1) := by decide +kernel
theorem d_R_run_53 : decode c_R_run 53 = .ok (.getfield 51, 3) := by decide +kernel
theorem d_R_run_56 : decode c_R_run 56 = .ok (.iload_n 1, 1) := by decide +kernel
theorem d_R_run_57 : decode c_R_run 57 = .ok (.iaload, 1) := by decide +kernel
theorem d_R_run_58 : decode c_R_run 58 = .ok (.putfield 67, 3) := by decide +kernel
theorem d_R_run_61 : decode c_R_run 61 = .ok (.iconst 0, 1) := by decide +kernel
theorem d_R_run_62 : decode c_R_run 62 = .ok (.istore_n 3, 1) := by decide +kernel
theorem d_R_run_63 : decode c_R_run 63 = .ok (.iload_n 3, 1) := by decide +kernel
theorem d_R_run_64 : decode c_R_run 64 = .ok (.aload_n 0, 1) := by decide +kernel
theorem d_R_run_65 : decode c_R_run 65 = .ok (.getfield 203, 3) := by decide +kernel
theorem d_R_run_68 : decode c_R_run 68 = .ok (.if_icmp .ge 103, 3) := by decide +kernel
theorem d_R_run_71 : decode c_R_run 71 = .ok (.aload_n 0, 1) := by decide +kernel
theorem d_R_run_72 : decode c_R_run 72 = .ok (.getfield 54, 3) := by decide +kernel
theorem d_R_run_75 : decode c_R_run 75 = .ok (.iload_n 1, 1) := by decide +kernel
theorem d_R_run_76 : decode c_R_run 76 = .ok (.iaload, 1) := by decide +kernel
theorem d_R_run_77 : decode c_R_run 77 = .ok (.ifCond .ne 94, 3) := by decide +kernel
theorem d_R_run_80 : decode c_R_run 80 = .ok (.aload_n 0, 1) := by decide +kernel
theorem d_R_run_81 : decode c_R_run 81 = .ok (.getfield 85, 3) := by decide +kernel
theorem d_R_run_84 : decode c_R_run 84 = .ok (.iload_n 3, 1) := by decide +kernel
theorem d_R_run_85 : decode c_R_run 85 = .ok (.iaload, 1) := by decide +kernel
theorem d_R_run_86 : decode c_R_run 86 = .ok (.istore 4, 2) := by decide +kernel
theorem d_R_run_88 : decode c_R_run 88 = .ok (.aload_n 0, 1) := by decide +kernel
theorem d_R_run_89 : decode c_R_run 89 = .ok (.aload_n 0, 1) := by decide +kernel
theorem d_R_run_90 : decode c_R_run 90 = .ok (.getfield 26, 3) := by decide +kernel
theorem d_R_run_93 : decode c_R_run 93 = .ok (.iload 4, 2) := by decide +kernel
theorem d_R_run_95 : decode c_R_run 95 = .ok (.iaload, 1) := by decide +kernel
theorem d_R_run_96 : decode c_R_run 96 = .ok (.aload_n 0, 1) := by decide +kernel
theorem d_R_run_97 : decode c_R_run 97 = .ok (.getfield 29, 3) := by decide +kernel
theorem d_R_run_100 : decode c_R_run 100 = .ok (.iload 4, 2) := by decide +kernel
theorem d_R_run_102 : decode c_R_run 102 = .ok (.laload, 1) := by decide +kernel
theorem d_R_run_103 : decode c_R_run 103 = .ok (.iload_n 2, 1) := by decide +kernel
theorem d_R_run_104 : decode c_R_run 104 = .ok (.invokevirtual 161, 3) := by decide +kernel
theorem d_R_run_107 : decode c_R_run 107 = .ok (.aload_n 0, 1) := by decide +kernel
theorem d_R_run_108 : decode c_R_run 108 = .ok (.getfield 54, 3) := by decide +kernel
theorem d_R_run_111 : decode c_R_run 111 = .ok (.iload_n 1, 1) := by decide +kernel
theorem d_R_run_112 : decode c_R_run 112 = .ok (.aload_n 0, 1) := by decide +kernel
theorem d_R_run_113 : decode c_R_run 113 = .ok (.getfield 117, 3) := by decide +kernel
theorem d_R_run_116 : decode c_R_run 116 = .ok (.ifCond .eq 7, 3) := by decide +kernel
theorem d_R_run_119 : decode c_R_run 119 = .ok (.iconst 2, 1) := by decide +kernel
theorem d_R_run_120 : decode c_R_run 120 = .ok (.goto 23, 3) := by decide +kernel
theorem d_R_run_123 : decode c_R_run 123 = .ok (.aload_n 0, 1) := by decide +kernel
theorem d_R_run_124 : decode c_R_run 124 = .ok (.getfield 124, 3) := by decide +kernel
theorem d_R_run_127 : decode c_R_run 127 = .ok (.aload_n 0, 1) := by decide +kernel
theorem d_R_run_128 : decode c_R_run 128 = .ok (.getfield 32, 3) := by decide +kernel
theorem d_R_run_131 : decode c_R_run 131 = .ok (.iload 4, 2) := by decide +kernel
theorem d_R_run_133 : decode c_R_run 133 = .ok (.laload, 1) := by decide +kernel
theorem d_R_run_134 : decode c_R_run 134 = .ok (.lcmp, 1) := by decide +kernel
theorem d_R_run_135 : decode c_R_run 135 = .ok (.ifCond .eq 7, 3) := by decide +kernel
theorem d_R_run_138 : decode c_R_run 138 = .ok (.iconst 1, 1) := by decide +kernel
theorem d_R_run_139 : decode c_R_run 139 = .ok (.goto 4, 3) := by decide +kernel
theorem d_R_run_142 : decode c_R_run 142 = .ok (.iconst 0, 1) := by decide +kernel
theorem d_R_run_143 : decode c_R_run 143 = .ok (.iastore, 1) := by decide +kernel
theorem d_R_run_144 : decode c_R_run 144 = .ok (.aload_n 0, 1) := by decide +kernel
theorem d_R_run_145 : decode c_R_run 145 = .ok (.getfield 57, 3) := by decide +kernel
theorem d_R_run_148 : decode c_R_run 148 = .ok (.iload_n 1, 1) := by decide +kernel
theorem d_R_run_149 : decode c_R_run 149 = .ok (.aload_n 0, 1) := by decide +kernel
theorem d_R_run_150 : decode c_R_run 150 = .ok (.getfield 54, 3) := by decide +kernel
theorem d_R_run_153 : decode c_R_run 153 = .ok (.iload_n 1, 1) := by decide +kernel
theorem d_R_run_154 : decode c_R_run 154 = .ok (.iaload, 1) := by decide +kernel
theorem d_R_run_155 : decode c_R_run 155 = .ok (.ifCond .le 8, 3) := by decide +kernel
theorem d_R_run_158 : decode c_R_run 158 = .ok (.iload 4, 2) := by decide +kernel
theorem d_R_run_160 : decode c_R_run 160 = .ok (.goto 4, 3) := by decide +kernel
theorem d_R_run_163 : decode c_R_run 163 = .ok (.iconst (-1), 1) := by decide +kernel
theorem d_R_run_164 : decode c_R_run 164 = .ok (.iastore, 1) := by decide +kernel
theorem d_R_run_165 : decode c_R_run 165 = .ok (.iinc 3 1, 3) := by decide +kernel
theorem d_R_run_168 : decode c_R_run 168 = .ok (.goto (-105), 3) := by decide +kernel
theorem d_R_run_171 : decode c_R_run 171 = .ok (.aload_n 0, 1) := by decide +kernel
theorem d_R_run_172 : decode c_R_run 172 = .ok (.getfield 54, 3) := by decide +kernel
theorem d_R_run_175 : decode c_R_run 175 = .ok (.iload_n 1, 1) := by decide +kernel
theorem d_R_run_176 : decode c_R_run 176 = .ok (.iaload, 1) := by decide +kernel
theorem d_R_run_177 : decode c_R_run 177 = .ok (.ireturn, 1) := by decide +kernel
theorem d_R_layList_0 : decode c_R_layList 0 = .ok (.aload_n 0, 1) := by decide +kernel
theorem d_R_layList_1 : decode c_R_layList 1 = .ok (.iconst 0, 1) := by decide +kernel
theorem d_R_layList_2 : decode c_R_layList 2 = .ok (.putfield 203, 3) := by decide +kernel
theorem d_R_layList_5 : decode c_R_layList 5 = .ok (.aload_n 0, 1) := by decide +kernel
theorem d_R_layList_6 : decode c_R_layList 6 = .ok (.getfield 51, 3) := by decide +kernel
theorem d_R_layList_9 : decode c_R_layList 9 = .ok (.iload_n 1, 1) := by decide +kernel
theorem d_R_layList_10 : decode c_R_layList 10 = .ok (.iaload, 1) := by decide +kernel
theorem d_R_layList_11 : decode c_R_layList 11 = .ok (.istore_n 2, 1) := by decide +kernel
theorem d_R_layList_12 : decode c_R_layList 12 = .ok (.iconst 0, 1) := by decide +kernel
theorem d_R_layList_13 : decode c_R_layList 13 = .ok (.istore_n 3, 1) := by decide +kernel
theorem d_R_layList_14 : decode c_R_layList 14 = .ok (.iload_n 3, 1) := by decide +kernel
theorem d_R_layList_15 : decode c_R_layList 15 = .ok (.bipush 64, 2) := by decide +kernel
theorem d_R_layList_17 : decode c_R_layList 17 = .ok (.if_icmp .ge 101, 3) := by decide +kernel
theorem d_R_layList_20 : decode c_R_layList 20 = .ok (.iconst 0, 1) := by decide +kernel
theorem d_R_layList_21 : decode c_R_layList 21 = .ok (.istore 4, 2) := by decide +kernel
theorem d_R_layList_23 : decode c_R_layList 23 = .ok (.iload 4, 2) := by decide +kernel
theorem d_R_layList_25 : decode c_R_layList 25 = .ok (.aload_n 0, 1) := by decide +kernel
theorem d_R_layList_26 : decode c_R_layList 26 = .ok (.getfield 98, 3) := by decide +kernel
theorem d_R_layList_29 : decode c_R_layList 29 = .ok (.if_icmp .ge 83, 3) := by decide +kernel
theorem d_R_layList_32 : decode c_R_layList 32 = .ok (.aload_n 0, 1) := by decide +kernel
theorem d_R_layList_33 : decode c_R_layList 33 = .ok (.getfield 35, 3) := by decide +kernel
theorem d_R_layList_36 : decode c_R_layList 36 = .ok (.iload 4, 2) := by decide +kernel
theorem d_R_layList_38 : decode c_R_layList 38 = .ok (.iaload, 1) := by decide +kernel
theorem d_R_layList_39 : decode c_R_layList 39 = .ok (.iconst 1, 1) := by decide +kernel
theorem d_R_layList_40 : decode c_R_layList 40 = .ok (.if_icmp .ne 66, 3) := by decide +kernel
theorem d_R_layList_43 : decode c_R_layList 43 = .ok (.aload_n 0, 1) := by decide +kernel
theorem d_R_layList_44 : decode c_R_layList 44 = .ok (.getfield 41, 3) := by decide +kernel
theorem d_R_layList_47 : decode c_R_layList 47 = .ok (.bipush 64, 2) := by decide +kernel
theorem d_R_layList_49 : decode c_R_layList 49 = .ok (.iload 4, 2) := by decide +kernel
theorem d_R_layList_51 : decode c_R_layList 51 = .ok (.imul, 1) := by decide +kernel
theorem d_R_layList_52 : decode c_R_layList 52 = .ok (.iload_n 2, 1) := by decide +kernel
theorem d_R_layList_53 : decode c_R_layList 53 = .ok (.iadd, 1) := by decide +kernel
theorem d_R_layList_54 : decode c_R_layList 54 = .ok (.baload, 1) := by decide +kernel
theorem d_R_layList_55 : decode c_R_layList 55 = .ok (.ifCond .ne 6, 3) := by decide +kernel
theorem d_R_layList_58 : decode c_R_layList 58 = .ok (.goto 48, 3) := by decide +kernel
theorem d_R_layList_61 : decode c_R_layList 61 = .ok (.aload_n 0, 1) := by decide +kernel
theorem d_R_layList_62 : decode c_R_layList 62 = .ok (.aload_n 0, 1) := by decide +kernel
theorem d_R_layList_63 : decode c_R_layList 63 = .ok (.getfield 26, 3) := by decide +kernel
theorem d_R_layList_66 : decode c_R_layList 66 = .ok (.iload 4, 2) := by decide +kernel
theorem d_R_layList_68 : decode c_R_layList 68 = .ok (.iaload, 1) := by decide +kernel
theorem d_R_layList_69 : decode c_R_layList 69 = .ok (.invokevirtual 206, 3) := by decide +kernel
theorem d_R_layList_72 : decode c_R_layList 72 = .ok (.aload_n 0, 1) := by decide +kernel
theorem d_R_layList_73 : decode c_R_layList 73 = .ok (.getfield 82, 3) := by decide +kernel
theorem d_R_layList_76 : decode c_R_layList 76 = .ok (.iload_n 2, 1) := by decide +kernel
theorem d_R_layList_77 : decode c_R_layList 77 = .ok (.iaload, 1) := by decide +kernel
theorem d_R_layList_78 : decode c_R_layList 78 = .ok (.iload_n 3, 1) := by decide +kernel
theorem d_R_layList_79 : decode c_R_layList 79 = .ok (.if_icmp .eq 6, 3) := by decide +kernel
theorem d_R_layList_82 : decode c_R_layList 82 = .ok (.goto 24, 3) := by decide +kernel
theorem d_R_layList_85 : decode c_R_layList 85 = .ok (.aload_n 0, 1) := by decide +kernel
theorem d_R_layList_86 : decode c_R_layList 86 = .ok (.getfield 85, 3) := by decide +kernel
theorem d_R_layList_89 : decode c_R_layList 89 = .ok (.aload_n 0, 1) := by decide +kernel
theorem d_R_layList_90 : decode c_R_layList 90 = .ok (.getfield 203, 3) := by decide +kernel
theorem d_R_layList_93 : decode c_R_layList 93 = .ok (.iload 4, 2) := by decide +kernel
theorem d_R_layList_95 : decode c_R_layList 95 = .ok (.iastore, 1) := by decide +kernel
theorem d_R_layList_96 : decode c_R_layList 96 = .ok (.aload_n 0, 1) := by decide +kernel
theorem d_R_layList_97 : decode c_R_layList 97 = .ok (.dup, 1) := by decide +kernel
theorem d_R_layList_98 : decode c_R_layList 98 = .ok (.getfield 203, 3) := by decide +kernel
theorem d_R_layList_101 : decode c_R_layList 101 = .ok (.iconst 1, 1) := by decide +kernel
theorem d_R_layList_102 : decode c_R_layList 102 = .ok (.iadd, 1) := by decide +kernel
theorem d_R_layList_103 : decode c_R_layList 103 = .ok (.putfield 203, 3) := by decide +kernel
theorem d_R_layList_106 : decode c_R_layList 106 = .ok (.iinc 4 1, 3) := by decide +kernel
theorem d_R_layList_109 : decode c_R_layList 109 = .ok (.goto (-86), 3) := by decide +kernel
theorem d_R_layList_112 : decode c_R_layList 112 = .ok (.iinc 3 1, 3) := by decide +kernel
theorem d_R_layList_115 : decode c_R_layList 115 = .ok (.goto (-101), 3) := by decide +kernel
theorem d_R_layList_118 : decode c_R_layList 118 = .ok (.return_, 1) := by decide +kernel
theorem d_R_layFar_0 : decode c_R_layFar 0 = .ok (.iconst 0, 1) := by decide +kernel
theorem d_R_layFar_1 : decode c_R_layFar 1 = .ok (.istore_n 2, 1) := by decide +kernel
theorem d_R_layFar_2 : decode c_R_layFar 2 = .ok (.iload_n 2, 1) := by decide +kernel
theorem d_R_layFar_3 : decode c_R_layFar 3 = .ok (.bipush 64, 2) := by decide +kernel
theorem d_R_layFar_5 : decode c_R_layFar 5 = .ok (.if_icmp .ge 16, 3) := by decide +kernel
theorem d_R_layFar_8 : decode c_R_layFar 8 = .ok (.aload_n 0, 1) := by decide +kernel
theorem d_R_layFar_9 : decode c_R_layFar 9 = .ok (.getfield 82, 3) := by decide +kernel
theorem d_R_layFar_12 : decode c_R_layFar 12 = .ok (.iload_n 2, 1) := by decide +kernel
theorem d_R_layFar_13 : decode c_R_layFar 13 = .ok (.iconst (-1), 1) := by decide +kernel
theorem d_R_layFar_14 : decode c_R_layFar 14 = .ok (.iastore, 1) := by decide +kernel
theorem d_R_layFar_15 : decode c_R_layFar 15 = .ok (.iinc 2 1, 3) := by decide +kernel
theorem d_R_layFar_18 : decode c_R_layFar 18 = .ok (.goto (-16), 3) := by decide +kernel
theorem d_R_layFar_21 : decode c_R_layFar 21 = .ok (.aload_n 0, 1) := by decide +kernel
theorem d_R_layFar_22 : decode c_R_layFar 22 = .ok (.getfield 82, 3) := by decide +kernel
theorem d_R_layFar_25 : decode c_R_layFar 25 = .ok (.iload_n 1, 1) := by decide +kernel
theorem d_R_layFar_26 : decode c_R_layFar 26 = .ok (.iconst 0, 1) := by decide +kernel
theorem d_R_layFar_27 : decode c_R_layFar 27 = .ok (.iastore, 1) := by decide +kernel
theorem d_R_layFar_28 : decode c_R_layFar 28 = .ok (.iload_n 1, 1) := by decide +kernel
theorem d_R_layFar_29 : decode c_R_layFar 29 = .ok (.istore_n 2, 1) := by decide +kernel
theorem d_R_layFar_30 : decode c_R_layFar 30 = .ok (.iload_n 2, 1) := by decide +kernel
theorem d_R_layFar_31 : decode c_R_layFar 31 = .ok (.ifCond .lt 76, 3) := by decide +kernel
theorem d_R_layFar_34 : decode c_R_layFar 34 = .ok (.aload_n 0, 1) := by decide +kernel
theorem d_R_layFar_35 : decode c_R_layFar 35 = .ok (.getfield 82, 3) := by decide +kernel
theorem d_R_layFar_38 : decode c_R_layFar 38 = .ok (.iload_n 2, 1) := by decide +kernel
theorem d_R_layFar_39 : decode c_R_layFar 39 = .ok (.iaload, 1) := by decide +kernel
theorem d_R_layFar_40 : decode c_R_layFar 40 = .ok (.iconst (-1), 1) := by decide +kernel
theorem d_R_layFar_41 : decode c_R_layFar 41 = .ok (.if_icmp .ne 6, 3) := by decide +kernel
theorem d_R_layFar_44 : decode c_R_layFar 44 = .ok (.goto 57, 3) := by decide +kernel
theorem d_R_layFar_47 : decode c_R_layFar 47 = .ok (.aload_n 0, 1) := by decide +kernel
theorem d_R_layFar_48 : decode c_R_layFar 48 = .ok (.aload_n 0, 1) := by decide +kernel
theorem d_R_layFar_49 : decode c_R_layFar 49 = .ok (.getfield 17, 3) := by decide +kernel
theorem d_R_layFar_52 : decode c_R_layFar 52 = .ok (.iload_n 2, 1) := by decide +kernel
theorem d_R_layFar_53 : decode c_R_layFar 53 = .ok (.iaload, 1) := by decide +kernel
theorem d_R_layFar_54 : decode c_R_layFar 54 = .ok (.aload_n 0, 1) := by decide +kernel
theorem d_R_layFar_55 : decode c_R_layFar 55 = .ok (.getfield 82, 3) := by decide +kernel
theorem d_R_layFar_58 : decode c_R_layFar 58 = .ok (.iload_n 2, 1) := by decide +kernel
theorem d_R_layFar_59 : decode c_R_layFar 59 = .ok (.iaload, 1) := by decide +kernel
theorem d_R_layFar_60 : decode c_R_layFar 60 = .ok (.iconst 1, 1) := by decide +kernel
theorem d_R_layFar_61 : decode c_R_layFar 61 = .ok (.iadd, 1) := by decide +kernel
theorem d_R_layFar_62 : decode c_R_layFar 62 = .ok (.invokevirtual 200, 3) := by decide +kernel
theorem d_R_layFar_65 : decode c_R_layFar 65 = .ok (.aload_n 0, 1) := by decide +kernel
theorem d_R_layFar_66 : decode c_R_layFar 66 = .ok (.aload_n 0, 1) := by decide +kernel
theorem d_R_layFar_67 : decode c_R_layFar 67 = .ok (.getfield 20, 3) := by decide +kernel
theorem d_R_layFar_70 : decode c_R_layFar 70 = .ok (.iload_n 2, 1) := by decide +kernel
theorem d_R_layFar_71 : decode c_R_layFar 71 = .ok (.iaload, 1) := by decide +kernel
theorem d_R_layFar_72 : decode c_R_layFar 72 = .ok (.aload_n 0, 1) := by decide +kernel
theorem d_R_layFar_73 : decode c_R_layFar 73 = .ok (.getfield 82, 3) := by decide +kernel
theorem d_R_layFar_76 : decode c_R_layFar 76 = .ok (.iload_n 2, 1) := by decide +kernel
theorem d_R_layFar_77 : decode c_R_layFar 77 = .ok (.iaload, 1) := by decide +kernel
theorem d_R_layFar_78 : decode c_R_layFar 78 = .ok (.iconst 1, 1) := by decide +kernel
theorem d_R_layFar_79 : decode c_R_layFar 79 = .ok (.iadd, 1) := by decide +kernel
theorem d_R_layFar_80 : decode c_R_layFar 80 = .ok (.invokevirtual 200, 3) := by decide +kernel
theorem d_R_layFar_83 : decode c_R_layFar 83 = .ok (.aload_n 0, 1) := by decide +kernel
theorem d_R_layFar_84 : decode c_R_layFar 84 = .ok (.aload_n 0, 1) := by decide +kernel
theorem d_R_layFar_85 : decode c_R_layFar 85 = .ok (.getfield 23, 3) := by decide +kernel
theorem d_R_layFar_88 : decode c_R_layFar 88 = .ok (.iload_n 2, 1) := by decide +kernel
theorem d_R_layFar_89 : decode c_R_layFar 89 = .ok (.iaload, 1) := by decide +kernel
theorem d_R_layFar_90 : decode c_R_layFar 90 = .ok (.aload_n 0, 1) := by decide +kernel
theorem d_R_layFar_91 : decode c_R_layFar 91 = .ok (.getfield 82, 3) := by decide +kernel
theorem d_R_layFar_94 : decode c_R_layFar 94 = .ok (.iload_n 2, 1) := by decide +kernel
theorem d_R_layFar_95 : decode c_R_layFar 95 = .ok (.iaload, 1) := by decide +kernel
theorem d_R_layFar_96 : decode c_R_layFar 96 = .ok (.iconst 1, 1) := by decide +kernel
theorem d_R_layFar_97 : decode c_R_layFar 97 = .ok (.iadd, 1) := by decide +kernel
theorem d_R_layFar_98 : decode c_R_layFar 98 = .ok (.invokevirtual 200, 3) := by decide +kernel
theorem d_R_layFar_101 : decode c_R_layFar 101 = .ok (.iinc 2 (-1), 3) := by decide +kernel
theorem d_R_layFar_104 : decode c_R_layFar 104 = .ok (.goto (-74), 3) := by decide +kernel
theorem d_R_layFar_107 : decode c_R_layFar 107 = .ok (.return_, 1) := by decide +kernel
theorem d_R_comeTo_0 : decode c_R_comeTo 0 = .ok (.iload_n 1, 1) := by decide +kernel
theorem d_R_comeTo_1 : decode c_R_comeTo 1 = .ok (.iconst (-1), 1) := by decide +kernel
theorem d_R_comeTo_2 : decode c_R_comeTo 2 = .ok (.if_icmp .eq 30, 3) := by decide +kernel
theorem d_R_comeTo_5 : decode c_R_comeTo 5 = .ok (.aload_n 0, 1) := by decide +kernel
theorem d_R_comeTo_6 : decode c_R_comeTo 6 = .ok (.getfield 82, 3) := by decide +kernel
theorem d_R_comeTo_9 : decode c_R_comeTo 9 = .ok (.iload_n 1, 1) := by decide +kernel
theorem d_R_comeTo_10 : decode c_R_comeTo 10 = .ok (.iaload, 1) := by decide +kernel
theorem d_R_comeTo_11 : decode c_R_comeTo 11 = .ok (.iconst (-1), 1) := by decide +kernel
theorem d_R_comeTo_12 : decode c_R_comeTo 12 = .ok (.if_icmp .eq 13, 3) := by decide +kernel
theorem d_R_comeTo_15 : decode c_R_comeTo 15 = .ok (.aload_n 0, 1) := by decide +kernel
theorem d_R_comeTo_16 : decode c_R_comeTo 16 = .ok (.getfield 82, 3) := by decide +kernel
theorem d_R_comeTo_19 : decode c_R_comeTo 19 = .ok (.iload_n 1, 1) := by decide +kernel
theorem d_R_comeTo_20 : decode c_R_comeTo 20 = .ok (.iaload, 1) := by decide +kernel
theorem d_R_comeTo_21 : decode c_R_comeTo 21 = .ok (.iload_n 2, 1) := by decide +kernel
theorem d_R_comeTo_22 : decode c_R_comeTo 22 = .ok (.if_icmp .le 10, 3) := by decide +kernel
theorem d_R_comeTo_25 : decode c_R_comeTo 25 = .ok (.aload_n 0, 1) := by decide +kernel
theorem d_R_comeTo_26 : decode c_R_comeTo 26 = .ok (.getfield 82, 3) := by decide +kernel
theorem d_R_comeTo_29 : decode c_R_comeTo 29 = .ok (.iload_n 1, 1) := by decide +kernel
theorem d_R_comeTo_30 : decode c_R_comeTo 30 = .ok (.iload_n 2, 1) := by decide +kernel
theorem d_R_comeTo_31 : decode c_R_comeTo 31 = .ok (.iastore, 1) := by decide +kernel
theorem d_R_comeTo_32 : decode c_R_comeTo 32 = .ok (.return_, 1) := by decide +kernel
theorem d_R_order_0 : decode c_R_order 0 = .ok (.aload_n 0, 1) := by decide +kernel
theorem d_R_order_1 : decode c_R_order 1 = .ok (.iload_n 1, 1) := by decide +kernel
theorem d_R_order_2 : decode c_R_order 2 = .ok (.invokevirtual 194, 3) := by decide +kernel
theorem d_R_order_5 : decode c_R_order 5 = .ok (.ifCond .ne 5, 3) := by decide +kernel
theorem d_R_order_8 : decode c_R_order 8 = .ok (.iconst (-1), 1) := by decide +kernel
theorem d_R_order_9 : decode c_R_order 9 = .ok (.ireturn, 1) := by decide +kernel
theorem d_R_order_10 : decode c_R_order 10 = .ok (.aload_n 0, 1) := by decide +kernel
theorem d_R_order_11 : decode c_R_order 11 = .ok (.iload_n 1, 1) := by decide +kernel
theorem d_R_order_12 : decode c_R_order 12 = .ok (.invokevirtual 211, 3) := by decide +kernel
theorem d_R_order_15 : decode c_R_order 15 = .ok (.iload_n 2, 1) := by decide +kernel
theorem d_R_order_16 : decode c_R_order 16 = .ok (.i2l, 1) := by decide +kernel
theorem d_R_order_17 : decode c_R_order 17 = .ok (.lconst 0, 1) := by decide +kernel
theorem d_R_order_18 : decode c_R_order 18 = .ok (.aload_n 0, 1) := by decide +kernel
theorem d_R_order_19 : decode c_R_order 19 = .ok (.getfield 203, 3) := by decide +kernel
theorem d_R_order_22 : decode c_R_order 22 = .ok (.iconst 1, 1) := by decide +kernel
theorem d_R_order_23 : decode c_R_order 23 = .ok (.isub, 1) := by decide +kernel
theorem d_R_order_24 : decode c_R_order 24 = .ok (.i2l, 1) := by decide +kernel
theorem d_R_order_25 : decode c_R_order 25 = .ok (.invokestatic 94, 3) := by decide +kernel
theorem d_R_order_28 : decode c_R_order 28 = .ok (.ifCond .eq 12, 3) := by decide +kernel
theorem d_R_order_31 : decode c_R_order 31 = .ok (.aload_n 0, 1) := by decide +kernel
theorem d_R_order_32 : decode c_R_order 32 = .ok (.getfield 85, 3) := by decide +kernel
theorem d_R_order_35 : decode c_R_order 35 = .ok (.iload_n 2, 1) := by decide +kernel
theorem d_R_order_36 : decode c_R_order 36 = .ok (.iaload, 1) := by decide +kernel
theorem d_R_order_37 : decode c_R_order 37 = .ok (.goto 4, 3) := by decide +kernel
theorem d_R_order_40 : decode c_R_order 40 = .ok (.iconst (-1), 1) := by decide +kernel
theorem d_R_order_41 : decode c_R_order 41 = .ok (.ireturn, 1) := by decide +kernel
theorem d_R_distance_0 : decode c_R_distance 0 = .ok (.aload_n 0, 1) := by decide +kernel
theorem d_R_distance_1 : decode c_R_distance 1 = .ok (.iload_n 1, 1) := by decide +kernel
theorem d_R_distance_2 : decode c_R_distance 2 = .ok (.invokevirtual 169, 3) := by decide +kernel
theorem d_R_distance_5 : decode c_R_distance 5 = .ok (.ifCond .eq 12, 3) := by decide +kernel
theorem d_R_distance_8 : decode c_R_distance 8 = .ok (.aload_n 0, 1) := by decide +kernel
theorem d_R_distance_9 : decode c_R_distance 9 = .ok (.iload_n 2, 1) := by decide +kernel
theorem d_R_distance_10 : decode c_R_distance 10 = .ok (.i2l, 1) := by decide +kernel
theorem d_R_distance_11 : decode c_R_distance 11 = .ok (.invokevirtual 110, 3) := by decide +kernel
theorem d_R_distance_14 : decode c_R_distance 14 = .ok (.ifCond .ne 5, 3) := by decide +kernel
theorem d_R_distance_17 : decode c_R_distance 17 = .ok (.iconst (-1), 1) := by decide +kernel
theorem d_R_distance_18 : decode c_R_distance 18 = .ok (.ireturn, 1) := by decide +kernel
theorem d_R_distance_19 : decode c_R_distance 19 = .ok (.aload_n 0, 1) := by decide +kernel
theorem d_R_distance_20 : decode c_R_distance 20 = .ok (.aload_n 0, 1) := by decide +kernel
theorem d_R_distance_21 : decode c_R_distance 21 = .ok (.getfield 26, 3) := by decide +kernel
theorem d_R_distance_24 : decode c_R_distance 24 = .ok (.iload_n 1, 1) := by decide +kernel
theorem d_R_distance_25 : decode c_R_distance 25 = .ok (.iaload, 1) := by decide +kernel
theorem d_R_distance_26 : decode c_R_distance 26 = .ok (.invokevirtual 206, 3) := by decide +kernel
