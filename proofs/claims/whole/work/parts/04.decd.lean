theorem d_R_distance_29 : decode c_R_distance 29 = .ok (.aload_n 0, 1) := by decide +kernel
theorem d_R_distance_30 : decode c_R_distance 30 = .ok (.getfield 82, 3) := by decide +kernel
theorem d_R_distance_33 : decode c_R_distance 33 = .ok (.iload_n 2, 1) := by decide +kernel
theorem d_R_distance_34 : decode c_R_distance 34 = .ok (.iaload, 1) := by decide +kernel
theorem d_R_distance_35 : decode c_R_distance 35 = .ok (.ireturn, 1) := by decide +kernel
theorem d_R_change_0 : decode c_R_change 0 = .ok (.aload_n 0, 1) := by decide +kernel
theorem d_R_change_1 : decode c_R_change 1 = .ok (.iload_n 1, 1) := by decide +kernel
theorem d_R_change_2 : decode c_R_change 2 = .ok (.i2l, 1) := by decide +kernel
theorem d_R_change_3 : decode c_R_change 3 = .ok (.invokevirtual 110, 3) := by decide +kernel
theorem d_R_change_6 : decode c_R_change 6 = .ok (.ifCond .eq 12, 3) := by decide +kernel
theorem d_R_change_9 : decode c_R_change 9 = .ok (.aload_n 0, 1) := by decide +kernel
theorem d_R_change_10 : decode c_R_change 10 = .ok (.getfield 7, 3) := by decide +kernel
theorem d_R_change_13 : decode c_R_change 13 = .ok (.iload_n 1, 1) := by decide +kernel
theorem d_R_change_14 : decode c_R_change 14 = .ok (.iaload, 1) := by decide +kernel
theorem d_R_change_15 : decode c_R_change 15 = .ok (.ifCond .eq 5, 3) := by decide +kernel
theorem d_R_change_18 : decode c_R_change 18 = .ok (.iconst (-1), 1) := by decide +kernel
theorem d_R_change_19 : decode c_R_change 19 = .ok (.ireturn, 1) := by decide +kernel
theorem d_R_change_20 : decode c_R_change 20 = .ok (.iconst 0, 1) := by decide +kernel
theorem d_R_change_21 : decode c_R_change 21 = .ok (.istore 4, 2) := by decide +kernel
theorem d_R_change_23 : decode c_R_change 23 = .ok (.iconst 0, 1) := by decide +kernel
theorem d_R_change_24 : decode c_R_change 24 = .ok (.istore 5, 2) := by decide +kernel
theorem d_R_change_26 : decode c_R_change 26 = .ok (.iload 5, 2) := by decide +kernel
theorem d_R_change_28 : decode c_R_change 28 = .ok (.aload_n 0, 1) := by decide +kernel
theorem d_R_change_29 : decode c_R_change 29 = .ok (.getfield 98, 3) := by decide +kernel
theorem d_R_change_32 : decode c_R_change 32 = .ok (.if_icmp .ge 30, 3) := by decide +kernel
theorem d_R_change_35 : decode c_R_change 35 = .ok (.iload 4, 2) := by decide +kernel
theorem d_R_change_37 : decode c_R_change 37 = .ok (.aload_n 0, 1) := by decide +kernel
theorem d_R_change_38 : decode c_R_change 38 = .ok (.getfield 35, 3) := by decide +kernel
theorem d_R_change_41 : decode c_R_change 41 = .ok (.iload 5, 2) := by decide +kernel
theorem d_R_change_43 : decode c_R_change 43 = .ok (.iaload, 1) := by decide +kernel
theorem d_R_change_44 : decode c_R_change 44 = .ok (.iconst 1, 1) := by decide +kernel
theorem d_R_change_45 : decode c_R_change 45 = .ok (.if_icmp .ne 7, 3) := by decide +kernel
theorem d_R_change_48 : decode c_R_change 48 = .ok (.iconst 1, 1) := by decide +kernel
theorem d_R_change_49 : decode c_R_change 49 = .ok (.goto 4, 3) := by decide +kernel
theorem d_R_change_52 : decode c_R_change 52 = .ok (.iconst 0, 1) := by decide +kernel
theorem d_R_change_53 : decode c_R_change 53 = .ok (.iadd, 1) := by decide +kernel
theorem d_R_change_54 : decode c_R_change 54 = .ok (.istore 4, 2) := by decide +kernel
theorem d_R_change_56 : decode c_R_change 56 = .ok (.iinc 5 1, 3) := by decide +kernel
theorem d_R_change_59 : decode c_R_change 59 = .ok (.goto (-33), 3) := by decide +kernel
theorem d_R_change_62 : decode c_R_change 62 = .ok (.aload_n 0, 1) := by decide +kernel
theorem d_R_change_63 : decode c_R_change 63 = .ok (.getfield 13, 3) := by decide +kernel
theorem d_R_change_66 : decode c_R_change 66 = .ok (.iload_n 1, 1) := by decide +kernel
theorem d_R_change_67 : decode c_R_change 67 = .ok (.laload, 1) := by decide +kernel
theorem d_R_change_68 : decode c_R_change 68 = .ok (.lload_n 2, 1) := by decide +kernel
theorem d_R_change_69 : decode c_R_change 69 = .ok (.lcmp, 1) := by decide +kernel
theorem d_R_change_70 : decode c_R_change 70 = .ok (.ifCond .ne 6, 3) := by decide +kernel
theorem d_R_change_73 : decode c_R_change 73 = .ok (.iload 4, 2) := by decide +kernel
theorem d_R_change_75 : decode c_R_change 75 = .ok (.ireturn, 1) := by decide +kernel
theorem d_R_change_76 : decode c_R_change 76 = .ok (.iconst 0, 1) := by decide +kernel
theorem d_R_change_77 : decode c_R_change 77 = .ok (.istore 5, 2) := by decide +kernel
theorem d_R_change_79 : decode c_R_change 79 = .ok (.iload 5, 2) := by decide +kernel
theorem d_R_change_81 : decode c_R_change 81 = .ok (.bipush 64, 2) := by decide +kernel
theorem d_R_change_83 : decode c_R_change 83 = .ok (.aload_n 0, 1) := by decide +kernel
theorem d_R_change_84 : decode c_R_change 84 = .ok (.getfield 98, 3) := by decide +kernel
theorem d_R_change_87 : decode c_R_change 87 = .ok (.imul, 1) := by decide +kernel
theorem d_R_change_88 : decode c_R_change 88 = .ok (.if_icmp .ge 23, 3) := by decide +kernel
theorem d_R_change_91 : decode c_R_change 91 = .ok (.aload_n 0, 1) := by decide +kernel
theorem d_R_change_92 : decode c_R_change 92 = .ok (.getfield 45, 3) := by decide +kernel
theorem d_R_change_95 : decode c_R_change 95 = .ok (.iload 5, 2) := by decide +kernel
theorem d_R_change_97 : decode c_R_change 97 = .ok (.aload_n 0, 1) := by decide +kernel
theorem d_R_change_98 : decode c_R_change 98 = .ok (.getfield 41, 3) := by decide +kernel
theorem d_R_change_101 : decode c_R_change 101 = .ok (.iload 5, 2) := by decide +kernel
theorem d_R_change_103 : decode c_R_change 103 = .ok (.baload, 1) := by decide +kernel
theorem d_R_change_104 : decode c_R_change 104 = .ok (.bastore, 1) := by decide +kernel
theorem d_R_change_105 : decode c_R_change 105 = .ok (.iinc 5 1, 3) := by decide +kernel
theorem d_R_change_108 : decode c_R_change 108 = .ok (.goto (-29), 3) := by decide +kernel
theorem d_R_change_111 : decode c_R_change 111 = .ok (.aload_n 0, 1) := by decide +kernel
theorem d_R_change_112 : decode c_R_change 112 = .ok (.getfield 13, 3) := by decide +kernel
theorem d_R_change_115 : decode c_R_change 115 = .ok (.iload_n 1, 1) := by decide +kernel
theorem d_R_change_116 : decode c_R_change 116 = .ok (.lload_n 2, 1) := by decide +kernel
theorem d_R_change_117 : decode c_R_change 117 = .ok (.lastore, 1) := by decide +kernel
theorem d_R_change_118 : decode c_R_change 118 = .ok (.iconst 0, 1) := by decide +kernel
theorem d_R_change_119 : decode c_R_change 119 = .ok (.istore 4, 2) := by decide +kernel
theorem d_R_change_121 : decode c_R_change 121 = .ok (.iconst 0, 1) := by decide +kernel
theorem d_R_change_122 : decode c_R_change 122 = .ok (.istore 5, 2) := by decide +kernel
theorem d_R_change_124 : decode c_R_change 124 = .ok (.iload 5, 2) := by decide +kernel
theorem d_R_change_126 : decode c_R_change 126 = .ok (.aload_n 0, 1) := by decide +kernel
theorem d_R_change_127 : decode c_R_change 127 = .ok (.getfield 98, 3) := by decide +kernel
theorem d_R_change_130 : decode c_R_change 130 = .ok (.if_icmp .ge 36, 3) := by decide +kernel
theorem d_R_change_133 : decode c_R_change 133 = .ok (.aload_n 0, 1) := by decide +kernel
theorem d_R_change_134 : decode c_R_change 134 = .ok (.iload 5, 2) := by decide +kernel
theorem d_R_change_136 : decode c_R_change 136 = .ok (.invokevirtual 165, 3) := by decide +kernel
theorem d_R_change_139 : decode c_R_change 139 = .ok (.iload 4, 2) := by decide +kernel
theorem d_R_change_141 : decode c_R_change 141 = .ok (.aload_n 0, 1) := by decide +kernel
theorem d_R_change_142 : decode c_R_change 142 = .ok (.getfield 35, 3) := by decide +kernel
theorem d_R_change_145 : decode c_R_change 145 = .ok (.iload 5, 2) := by decide +kernel
theorem d_R_change_147 : decode c_R_change 147 = .ok (.iaload, 1) := by decide +kernel
theorem d_R_change_148 : decode c_R_change 148 = .ok (.iconst 1, 1) := by decide +kernel
theorem d_R_change_149 : decode c_R_change 149 = .ok (.if_icmp .ne 7, 3) := by decide +kernel
theorem d_R_change_152 : decode c_R_change 152 = .ok (.iconst 1, 1) := by decide +kernel
theorem d_R_change_153 : decode c_R_change 153 = .ok (.goto 4, 3) := by decide +kernel
theorem d_R_change_156 : decode c_R_change 156 = .ok (.iconst 0, 1) := by decide +kernel
theorem d_R_change_157 : decode c_R_change 157 = .ok (.iadd, 1) := by decide +kernel
theorem d_R_change_158 : decode c_R_change 158 = .ok (.istore 4, 2) := by decide +kernel
theorem d_R_change_160 : decode c_R_change 160 = .ok (.iinc 5 1, 3) := by decide +kernel
theorem d_R_change_163 : decode c_R_change 163 = .ok (.goto (-39), 3) := by decide +kernel
theorem d_R_change_166 : decode c_R_change 166 = .ok (.iconst 0, 1) := by decide +kernel
theorem d_R_change_167 : decode c_R_change 167 = .ok (.istore 5, 2) := by decide +kernel
theorem d_R_change_169 : decode c_R_change 169 = .ok (.iload 5, 2) := by decide +kernel
theorem d_R_change_171 : decode c_R_change 171 = .ok (.aload_n 0, 1) := by decide +kernel
theorem d_R_change_172 : decode c_R_change 172 = .ok (.getfield 101, 3) := by decide +kernel
theorem d_R_change_175 : decode c_R_change 175 = .ok (.if_icmp .ge 43, 3) := by decide +kernel
theorem d_R_change_178 : decode c_R_change 178 = .ok (.aload_n 0, 1) := by decide +kernel
theorem d_R_change_179 : decode c_R_change 179 = .ok (.iload_n 1, 1) := by decide +kernel
theorem d_R_change_180 : decode c_R_change 180 = .ok (.aload_n 0, 1) := by decide +kernel
theorem d_R_change_181 : decode c_R_change 181 = .ok (.getfield 51, 3) := by decide +kernel
theorem d_R_change_184 : decode c_R_change 184 = .ok (.iload 5, 2) := by decide +kernel
theorem d_R_change_186 : decode c_R_change 186 = .ok (.iaload, 1) := by decide +kernel
theorem d_R_change_187 : decode c_R_change 187 = .ok (.invokevirtual 214, 3) := by decide +kernel
theorem d_R_change_190 : decode c_R_change 190 = .ok (.ifCond .ne 6, 3) := by decide +kernel
theorem d_R_change_193 : decode c_R_change 193 = .ok (.goto 19, 3) := by decide +kernel
theorem d_R_change_196 : decode c_R_change 196 = .ok (.aload_n 0, 1) := by decide +kernel
theorem d_R_change_197 : decode c_R_change 197 = .ok (.getfield 54, 3) := by decide +kernel
theorem d_R_change_200 : decode c_R_change 200 = .ok (.iload 5, 2) := by decide +kernel
theorem d_R_change_202 : decode c_R_change 202 = .ok (.iconst (-1), 1) := by decide +kernel
theorem d_R_change_203 : decode c_R_change 203 = .ok (.iastore, 1) := by decide +kernel
theorem d_R_change_204 : decode c_R_change 204 = .ok (.aload_n 0, 1) := by decide +kernel
theorem d_R_change_205 : decode c_R_change 205 = .ok (.getfield 57, 3) := by decide +kernel
theorem d_R_change_208 : decode c_R_change 208 = .ok (.iload 5, 2) := by decide +kernel
theorem d_R_change_210 : decode c_R_change 210 = .ok (.iconst (-1), 1) := by decide +kernel
theorem d_R_change_211 : decode c_R_change 211 = .ok (.iastore, 1) := by decide +kernel
theorem d_R_change_212 : decode c_R_change 212 = .ok (.iinc 5 1, 3) := by decide +kernel
theorem d_R_change_215 : decode c_R_change 215 = .ok (.goto (-46), 3) := by decide +kernel
theorem d_R_change_218 : decode c_R_change 218 = .ok (.iload 4, 2) := by decide +kernel
theorem d_R_change_220 : decode c_R_change 220 = .ok (.ireturn, 1) := by decide +kernel
theorem d_R_isTouched_0 : decode c_R_isTouched 0 = .ok (.iconst 0, 1) := by decide +kernel
theorem d_R_isTouched_1 : decode c_R_isTouched 1 = .ok (.istore_n 3, 1) := by decide +kernel
theorem d_R_isTouched_2 : decode c_R_isTouched 2 = .ok (.iload_n 3, 1) := by decide +kernel
theorem d_R_isTouched_3 : decode c_R_isTouched 3 = .ok (.aload_n 0, 1) := by decide +kernel
theorem d_R_isTouched_4 : decode c_R_isTouched 4 = .ok (.getfield 98, 3) := by decide +kernel
theorem d_R_isTouched_7 : decode c_R_isTouched 7 = .ok (.if_icmp .ge 65, 3) := by decide +kernel
theorem d_R_isTouched_10 : decode c_R_isTouched 10 = .ok (.bipush 64, 2) := by decide +kernel
theorem d_R_isTouched_12 : decode c_R_isTouched 12 = .ok (.iload_n 3, 1) := by decide +kernel
theorem d_R_isTouched_13 : decode c_R_isTouched 13 = .ok (.imul, 1) := by decide +kernel
theorem d_R_isTouched_14 : decode c_R_isTouched 14 = .ok (.istore 4, 2) := by decide +kernel
theorem d_R_isTouched_16 : decode c_R_isTouched 16 = .ok (.aload_n 0, 1) := by decide +kernel
theorem d_R_isTouched_17 : decode c_R_isTouched 17 = .ok (.getfield 41, 3) := by decide +kernel
theorem d_R_isTouched_20 : decode c_R_isTouched 20 = .ok (.iload 4, 2) := by decide +kernel
theorem d_R_isTouched_22 : decode c_R_isTouched 22 = .ok (.iload_n 1, 1) := by decide +kernel
theorem d_R_isTouched_23 : decode c_R_isTouched 23 = .ok (.iadd, 1) := by decide +kernel
theorem d_R_isTouched_24 : decode c_R_isTouched 24 = .ok (.baload, 1) := by decide +kernel
theorem d_R_isTouched_25 : decode c_R_isTouched 25 = .ok (.ifCond .ne 15, 3) := by decide +kernel
theorem d_R_isTouched_28 : decode c_R_isTouched 28 = .ok (.aload_n 0, 1) := by decide +kernel
theorem d_R_isTouched_29 : decode c_R_isTouched 29 = .ok (.getfield 45, 3) := by decide +kernel
theorem d_R_isTouched_32 : decode c_R_isTouched 32 = .ok (.iload 4, 2) := by decide +kernel
theorem d_R_isTouched_34 : decode c_R_isTouched 34 = .ok (.iload_n 1, 1) := by decide +kernel
theorem d_R_isTouched_35 : decode c_R_isTouched 35 = .ok (.iadd, 1) := by decide +kernel
theorem d_R_isTouched_36 : decode c_R_isTouched 36 = .ok (.baload, 1) := by decide +kernel
theorem d_R_isTouched_37 : decode c_R_isTouched 37 = .ok (.ifCond .eq 29, 3) := by decide +kernel
theorem d_R_isTouched_40 : decode c_R_isTouched 40 = .ok (.aload_n 0, 1) := by decide +kernel
theorem d_R_isTouched_41 : decode c_R_isTouched 41 = .ok (.getfield 41, 3) := by decide +kernel
theorem d_R_isTouched_44 : decode c_R_isTouched 44 = .ok (.iload 4, 2) := by decide +kernel
theorem d_R_isTouched_46 : decode c_R_isTouched 46 = .ok (.iload_n 2, 1) := by decide +kernel
theorem d_R_isTouched_47 : decode c_R_isTouched 47 = .ok (.iadd, 1) := by decide +kernel
theorem d_R_isTouched_48 : decode c_R_isTouched 48 = .ok (.baload, 1) := by decide +kernel
theorem d_R_isTouched_49 : decode c_R_isTouched 49 = .ok (.ifCond .ne 15, 3) := by decide +kernel
theorem d_R_isTouched_52 : decode c_R_isTouched 52 = .ok (.aload_n 0, 1) := by decide +kernel
theorem d_R_isTouched_53 : decode c_R_isTouched 53 = .ok (.getfield 45, 3) := by decide +kernel
theorem d_R_isTouched_56 : decode c_R_isTouched 56 = .ok (.iload 4, 2) := by decide +kernel
theorem d_R_isTouched_58 : decode c_R_isTouched 58 = .ok (.iload_n 2, 1) := by decide +kernel
theorem d_R_isTouched_59 : decode c_R_isTouched 59 = .ok (.iadd, 1) := by decide +kernel
theorem d_R_isTouched_60 : decode c_R_isTouched 60 = .ok (.baload, 1) := by decide +kernel
theorem d_R_isTouched_61 : decode c_R_isTouched 61 = .ok (.ifCond .eq 5, 3) := by decide +kernel
theorem d_R_isTouched_64 : decode c_R_isTouched 64 = .ok (.iconst 1, 1) := by decide +kernel
theorem d_R_isTouched_65 : decode c_R_isTouched 65 = .ok (.ireturn, 1) := by decide +kernel
theorem d_R_isTouched_66 : decode c_R_isTouched 66 = .ok (.iinc 3 1, 3) := by decide +kernel
theorem d_R_isTouched_69 : decode c_R_isTouched 69 = .ok (.goto (-67), 3) := by decide +kernel
theorem d_R_isTouched_72 : decode c_R_isTouched 72 = .ok (.iconst 0, 1) := by decide +kernel
theorem d_R_isTouched_73 : decode c_R_isTouched 73 = .ok (.ireturn, 1) := by decide +kernel
theorem d_R_sample_0 : decode c_R_sample 0 = .ok (.iload_n 3, 1) := by decide +kernel
theorem d_R_sample_1 : decode c_R_sample 1 = .ok (.i2l, 1) := by decide +kernel
theorem d_R_sample_2 : decode c_R_sample 2 = .ok (.lconst 0, 1) := by decide +kernel
theorem d_R_sample_3 : decode c_R_sample 3 = .ok (.aload_n 0, 1) := by decide +kernel
theorem d_R_sample_4 : decode c_R_sample 4 = .ok (.getfield 101, 3) := by decide +kernel
theorem d_R_sample_7 : decode c_R_sample 7 = .ok (.i2l, 1) := by decide +kernel
theorem d_R_sample_8 : decode c_R_sample 8 = .ok (.invokestatic 94, 3) := by decide +kernel
theorem d_R_sample_11 : decode c_R_sample 11 = .ok (.ifCond .ne 5, 3) := by decide +kernel
theorem d_R_sample_14 : decode c_R_sample 14 = .ok (.iconst 0, 1) := by decide +kernel
theorem d_R_sample_15 : decode c_R_sample 15 = .ok (.ireturn, 1) := by decide +kernel
theorem d_R_sample_16 : decode c_R_sample 16 = .ok (.iconst 0, 1) := by decide +kernel
theorem d_R_sample_17 : decode c_R_sample 17 = .ok (.istore 4, 2) := by decide +kernel
theorem d_R_sample_19 : decode c_R_sample 19 = .ok (.iload 4, 2) := by decide +kernel
theorem d_R_sample_21 : decode c_R_sample 21 = .ok (.aload_n 0, 1) := by decide +kernel
theorem d_R_sample_22 : decode c_R_sample 22 = .ok (.getfield 101, 3) := by decide +kernel
theorem d_R_sample_25 : decode c_R_sample 25 = .ok (.if_icmp .ge 18, 3) := by decide +kernel
theorem d_R_sample_28 : decode c_R_sample 28 = .ok (.aload_n 0, 1) := by decide +kernel
theorem d_R_sample_29 : decode c_R_sample 29 = .ok (.getfield 60, 3) := by decide +kernel
theorem d_R_sample_32 : decode c_R_sample 32 = .ok (.iload 4, 2) := by decide +kernel
theorem d_R_sample_34 : decode c_R_sample 34 = .ok (.iload 4, 2) := by decide +kernel
theorem d_R_sample_36 : decode c_R_sample 36 = .ok (.iastore, 1) := by decide +kernel
theorem d_R_sample_37 : decode c_R_sample 37 = .ok (.iinc 4 1, 3) := by decide +kernel
theorem d_R_sample_40 : decode c_R_sample 40 = .ok (.goto (-21), 3) := by decide +kernel
theorem d_R_sample_43 : decode c_R_sample 43 = .ok (.lload_n 1, 1) := by decide +kernel
theorem d_R_sample_44 : decode c_R_sample 44 = .ok (.lstore 4, 2) := by decide +kernel
theorem d_R_sample_46 : decode c_R_sample 46 = .ok (.iconst 0, 1) := by decide +kernel
theorem d_R_sample_47 : decode c_R_sample 47 = .ok (.istore 6, 2) := by decide +kernel
theorem d_R_sample_49 : decode c_R_sample 49 = .ok (.iload 6, 2) := by decide +kernel
theorem d_R_sample_51 : decode c_R_sample 51 = .ok (.iload_n 3, 1) := by decide +kernel
theorem d_R_sample_52 : decode c_R_sample 52 = .ok (.if_icmp .ge 73, 3) := by decide +kernel
theorem d_R_sample_55 : decode c_R_sample 55 = .ok (.lload 4, 2) := by decide +kernel
theorem d_R_sample_57 : decode c_R_sample 57 = .ok (.ldc2_w 217, 3) := by decide +kernel
theorem d_R_sample_60 : decode c_R_sample 60 = .ok (.lmul, 1) := by decide +kernel
theorem d_R_sample_61 : decode c_R_sample 61 = .ok (.ldc2_w 219, 3) := by decide +kernel
theorem d_R_sample_64 : decode c_R_sample 64 = .ok (.ladd, 1) := by decide +kernel
theorem d_R_sample_65 : decode c_R_sample 65 = .ok (.lstore 4, 2) := by decide +kernel
theorem d_R_sample_67 : decode c_R_sample 67 = .ok (.iload 6, 2) := by decide +kernel
theorem d_R_sample_69 : decode c_R_sample 69 = .ok (.lload 4, 2) := by decide +kernel
theorem d_R_sample_71 : decode c_R_sample 71 = .ok (.bipush 33, 2) := by decide +kernel
theorem d_R_sample_73 : decode c_R_sample 73 = .ok (.lushr, 1) := by decide +kernel
theorem d_R_sample_74 : decode c_R_sample 74 = .ok (.aload_n 0, 1) := by decide +kernel
theorem d_R_sample_75 : decode c_R_sample 75 = .ok (.getfield 101, 3) := by decide +kernel
theorem d_R_sample_78 : decode c_R_sample 78 = .ok (.iload 6, 2) := by decide +kernel
theorem d_R_sample_80 : decode c_R_sample 80 = .ok (.isub, 1) := by decide +kernel
theorem d_R_sample_81 : decode c_R_sample 81 = .ok (.i2l, 1) := by decide +kernel
theorem d_R_sample_82 : decode c_R_sample 82 = .ok (.lrem, 1) := by decide +kernel
theorem d_R_sample_83 : decode c_R_sample 83 = .ok (.l2i, 1) := by decide +kernel
theorem d_R_sample_84 : decode c_R_sample 84 = .ok (.iadd, 1) := by decide +kernel
theorem d_R_sample_85 : decode c_R_sample 85 = .ok (.istore 7, 2) := by decide +kernel
theorem d_R_sample_87 : decode c_R_sample 87 = .ok (.aload_n 0, 1) := by decide +kernel
theorem d_R_sample_88 : decode c_R_sample 88 = .ok (.getfield 60, 3) := by decide +kernel
theorem d_R_sample_91 : decode c_R_sample 91 = .ok (.iload 6, 2) := by decide +kernel
theorem d_R_sample_93 : decode c_R_sample 93 = .ok (.iaload, 1) := by decide +kernel
theorem d_R_sample_94 : decode c_R_sample 94 = .ok (.istore 8, 2) := by decide +kernel
theorem d_R_sample_96 : decode c_R_sample 96 = .ok (.aload_n 0, 1) := by decide +kernel
theorem d_R_sample_97 : decode c_R_sample 97 = .ok (.getfield 60, 3) := by decide +kernel
theorem d_R_sample_100 : decode c_R_sample 100 = .ok (.iload 6, 2) := by decide +kernel
theorem d_R_sample_102 : decode c_R_sample 102 = .ok (.aload_n 0, 1) := by decide +kernel
theorem d_R_sample_103 : decode c_R_sample 103 = .ok (.getfield 60, 3) := by decide +kernel
theorem d_R_sample_106 : decode c_R_sample 106 = .ok (.iload 7, 2) := by decide +kernel
theorem d_R_sample_108 : decode c_R_sample 108 = .ok (.iaload, 1) := by decide +kernel
theorem d_R_sample_109 : decode c_R_sample 109 = .ok (.iastore, 1) := by decide +kernel
theorem d_R_sample_110 : decode c_R_sample 110 = .ok (.aload_n 0, 1) := by decide +kernel
theorem d_R_sample_111 : decode c_R_sample 111 = .ok (.getfield 60, 3) := by decide +kernel
theorem d_R_sample_114 : decode c_R_sample 114 = .ok (.iload 7, 2) := by decide +kernel
theorem d_R_sample_116 : decode c_R_sample 116 = .ok (.iload 8, 2) := by decide +kernel
theorem d_R_sample_118 : decode c_R_sample 118 = .ok (.iastore, 1) := by decide +kernel
theorem d_R_sample_119 : decode c_R_sample 119 = .ok (.iinc 6 1, 3) := by decide +kernel
theorem d_R_sample_122 : decode c_R_sample 122 = .ok (.goto (-73), 3) := by decide +kernel
theorem d_R_sample_125 : decode c_R_sample 125 = .ok (.aload_n 0, 1) := by decide +kernel
theorem d_R_sample_126 : decode c_R_sample 126 = .ok (.iload_n 3, 1) := by decide +kernel
theorem d_R_sample_127 : decode c_R_sample 127 = .ok (.putfield 221, 3) := by decide +kernel
theorem d_R_sample_130 : decode c_R_sample 130 = .ok (.iconst 1, 1) := by decide +kernel
theorem d_R_sample_131 : decode c_R_sample 131 = .ok (.ireturn, 1) := by decide +kernel
theorem d_R_sampled_0 : decode c_R_sampled 0 = .ok (.iload_n 1, 1) := by decide +kernel
theorem d_R_sampled_1 : decode c_R_sampled 1 = .ok (.i2l, 1) := by decide +kernel
theorem d_R_sampled_2 : decode c_R_sampled 2 = .ok (.lconst 0, 1) := by decide +kernel
theorem d_R_sampled_3 : decode c_R_sampled 3 = .ok (.aload_n 0, 1) := by decide +kernel
theorem d_R_sampled_4 : decode c_R_sampled 4 = .ok (.getfield 221, 3) := by decide +kernel
theorem d_R_sampled_7 : decode c_R_sampled 7 = .ok (.iconst 1, 1) := by decide +kernel
theorem d_R_sampled_8 : decode c_R_sampled 8 = .ok (.isub, 1) := by decide +kernel
theorem d_R_sampled_9 : decode c_R_sampled 9 = .ok (.i2l, 1) := by decide +kernel
theorem d_R_sampled_10 : decode c_R_sampled 10 = .ok (.invokestatic 94, 3) := by decide +kernel
theorem d_R_sampled_13 : decode c_R_sampled 13 = .ok (.ifCond .eq 12, 3) := by decide +kernel
theorem d_R_sampled_16 : decode c_R_sampled 16 = .ok (.aload_n 0, 1) := by decide +kernel
theorem d_R_sampled_17 : decode c_R_sampled 17 = .ok (.getfield 60, 3) := by decide +kernel
theorem d_R_sampled_20 : decode c_R_sampled 20 = .ok (.iload_n 1, 1) := by decide +kernel
theorem d_R_sampled_21 : decode c_R_sampled 21 = .ok (.iaload, 1) := by decide +kernel
theorem d_R_sampled_22 : decode c_R_sampled 22 = .ok (.goto 4, 3) := by decide +kernel
theorem d_R_sampled_25 : decode c_R_sampled 25 = .ok (.iconst (-1), 1) := by decide +kernel
theorem d_R_sampled_26 : decode c_R_sampled 26 = .ok (.ireturn, 1) := by decide +kernel
theorem d_R_score_0 : decode c_R_score 0 = .ok (.iload_n 1, 1) := by decide +kernel
theorem d_R_score_1 : decode c_R_score 1 = .ok (.i2l, 1) := by decide +kernel
theorem d_R_score_2 : decode c_R_score 2 = .ok (.ldc2_w 224, 3) := by decide +kernel
theorem d_R_score_5 : decode c_R_score 5 = .ok (.ldc2_w 173, 3) := by decide +kernel
theorem d_R_score_8 : decode c_R_score 8 = .ok (.invokestatic 94, 3) := by decide +kernel
theorem d_R_score_11 : decode c_R_score 11 = .ok (.ifCond .eq 15, 3) := by decide +kernel
theorem d_R_score_14 : decode c_R_score 14 = .ok (.iload_n 2, 1) := by decide +kernel
theorem d_R_score_15 : decode c_R_score 15 = .ok (.i2l, 1) := by decide +kernel
theorem d_R_score_16 : decode c_R_score 16 = .ok (.lconst 0, 1) := by decide +kernel
theorem d_R_score_17 : decode c_R_score 17 = .ok (.ldc2_w 226, 3) := by decide +kernel
theorem d_R_score_20 : decode c_R_score 20 = .ok (.invokestatic 94, 3) := by decide +kernel
theorem d_R_score_23 : decode c_R_score 23 = .ok (.ifCond .ne 5, 3) := by decide +kernel
theorem d_R_score_26 : decode c_R_score 26 = .ok (.iconst (-1), 1) := by decide +kernel
theorem d_R_score_27 : decode c_R_score 27 = .ok (.ireturn, 1) := by decide +kernel
theorem d_R_score_28 : decode c_R_score 28 = .ok (.iconst 0, 1) := by decide +kernel
theorem d_R_score_29 : decode c_R_score 29 = .ok (.istore_n 3, 1) := by decide +kernel
theorem d_R_score_30 : decode c_R_score 30 = .ok (.iconst 0, 1) := by decide +kernel
theorem d_R_score_31 : decode c_R_score 31 = .ok (.istore 4, 2) := by decide +kernel
theorem d_R_score_33 : decode c_R_score 33 = .ok (.iload 4, 2) := by decide +kernel
theorem d_R_score_35 : decode c_R_score 35 = .ok (.aload_n 0, 1) := by decide +kernel
theorem d_R_score_36 : decode c_R_score 36 = .ok (.getfield 101, 3) := by decide +kernel
theorem d_R_score_39 : decode c_R_score 39 = .ok (.if_icmp .ge 113, 3) := by decide +kernel
theorem d_R_score_42 : decode c_R_score 42 = .ok (.iload_n 1, 1) := by decide +kernel
theorem d_R_score_43 : decode c_R_score 43 = .ok (.iconst (-1), 1) := by decide +kernel
theorem d_R_score_44 : decode c_R_score 44 = .ok (.if_icmp .eq 17, 3) := by decide +kernel
theorem d_R_score_47 : decode c_R_score 47 = .ok (.aload_n 0, 1) := by decide +kernel
theorem d_R_score_48 : decode c_R_score 48 = .ok (.getfield 48, 3) := by decide +kernel
theorem d_R_score_51 : decode c_R_score 51 = .ok (.iload 4, 2) := by decide +kernel
theorem d_R_score_53 : decode c_R_score 53 = .ok (.iaload, 1) := by decide +kernel
theorem d_R_score_54 : decode c_R_score 54 = .ok (.iload_n 1, 1) := by decide +kernel
theorem d_R_score_55 : decode c_R_score 55 = .ok (.if_icmp .eq 6, 3) := by decide +kernel
theorem d_R_score_58 : decode c_R_score 58 = .ok (.goto 88, 3) := by decide +kernel
theorem d_R_score_61 : decode c_R_score 61 = .ok (.iload_n 2, 1) := by decide +kernel
theorem d_R_score_62 : decode c_R_score 62 = .ok (.ifCond .ne 21, 3) := by decide +kernel
theorem d_R_score_65 : decode c_R_score 65 = .ok (.aload_n 0, 1) := by decide +kernel
theorem d_R_score_66 : decode c_R_score 66 = .ok (.getfield 54, 3) := by decide +kernel
theorem d_R_score_69 : decode c_R_score 69 = .ok (.iload 4, 2) := by decide +kernel
theorem d_R_score_71 : decode c_R_score 71 = .ok (.iaload, 1) := by decide +kernel
theorem d_R_score_72 : decode c_R_score 72 = .ok (.ifCond .le 7, 3) := by decide +kernel
theorem d_R_score_75 : decode c_R_score 75 = .ok (.iconst 1, 1) := by decide +kernel
theorem d_R_score_76 : decode c_R_score 76 = .ok (.goto 55, 3) := by decide +kernel
theorem d_R_score_79 : decode c_R_score 79 = .ok (.iconst 0, 1) := by decide +kernel
theorem d_R_score_80 : decode c_R_score 80 = .ok (.goto 51, 3) := by decide +kernel
theorem d_R_score_83 : decode c_R_score 83 = .ok (.iload_n 2, 1) := by decide +kernel
theorem d_R_score_84 : decode c_R_score 84 = .ok (.iconst 1, 1) := by decide +kernel
theorem d_R_score_85 : decode c_R_score 85 = .ok (.if_icmp .ne 22, 3) := by decide +kernel
theorem d_R_score_88 : decode c_R_score 88 = .ok (.aload_n 0, 1) := by decide +kernel
theorem d_R_score_89 : decode c_R_score 89 = .ok (.getfield 54, 3) := by decide +kernel
theorem d_R_score_92 : decode c_R_score 92 = .ok (.iload 4, 2) := by decide +kernel
theorem d_R_score_94 : decode c_R_score 94 = .ok (.iaload, 1) := by decide +kernel
theorem d_R_score_95 : decode c_R_score 95 = .ok (.iconst (-1), 1) := by decide +kernel
theorem d_R_score_96 : decode c_R_score 96 = .ok (.if_icmp .eq 7, 3) := by decide +kernel
theorem d_R_score_99 : decode c_R_score 99 = .ok (.iconst 1, 1) := by decide +kernel
theorem d_R_score_100 : decode c_R_score 100 = .ok (.goto 31, 3) := by decide +kernel
theorem d_R_score_103 : decode c_R_score 103 = .ok (.iconst 0, 1) := by decide +kernel
theorem d_R_score_104 : decode c_R_score 104 = .ok (.goto 27, 3) := by decide +kernel
theorem d_R_score_107 : decode c_R_score 107 = .ok (.aload_n 0, 1) := by decide +kernel
theorem d_R_score_108 : decode c_R_score 108 = .ok (.getfield 54, 3) := by decide +kernel
theorem d_R_score_111 : decode c_R_score 111 = .ok (.iload 4, 2) := by decide +kernel
theorem d_R_score_113 : decode c_R_score 113 = .ok (.iaload, 1) := by decide +kernel
theorem d_R_score_114 : decode c_R_score 114 = .ok (.ifCond .ne 16, 3) := by decide +kernel
theorem d_R_score_117 : decode c_R_score 117 = .ok (.aload_n 0, 1) := by decide +kernel
theorem d_R_score_118 : decode c_R_score 118 = .ok (.iload 4, 2) := by decide +kernel
theorem d_R_score_120 : decode c_R_score 120 = .ok (.invokevirtual 197, 3) := by decide +kernel
theorem d_R_score_123 : decode c_R_score 123 = .ok (.ifCond .ne 7, 3) := by decide +kernel
theorem d_R_score_126 : decode c_R_score 126 = .ok (.iconst 1, 1) := by decide +kernel
theorem d_R_score_127 : decode c_R_score 127 = .ok (.goto 4, 3) := by decide +kernel
theorem d_R_score_130 : decode c_R_score 130 = .ok (.iconst 0, 1) := by decide +kernel
theorem d_R_score_131 : decode c_R_score 131 = .ok (.istore 5, 2) := by decide +kernel
theorem d_R_score_133 : decode c_R_score 133 = .ok (.iload_n 3, 1) := by decide +kernel
theorem d_R_score_134 : decode c_R_score 134 = .ok (.iload 5, 2) := by decide +kernel
theorem d_R_score_136 : decode c_R_score 136 = .ok (.ifCond .eq 7, 3) := by decide +kernel
theorem d_R_score_139 : decode c_R_score 139 = .ok (.iconst 1, 1) := by decide +kernel
theorem d_R_score_140 : decode c_R_score 140 = .ok (.goto 4, 3) := by decide +kernel
theorem d_R_score_143 : decode c_R_score 143 = .ok (.iconst 0, 1) := by decide +kernel
theorem d_R_score_144 : decode c_R_score 144 = .ok (.iadd, 1) := by decide +kernel
theorem d_R_score_145 : decode c_R_score 145 = .ok (.istore_n 3, 1) := by decide +kernel
theorem d_R_score_146 : decode c_R_score 146 = .ok (.iinc 4 1, 3) := by decide +kernel
theorem d_R_score_149 : decode c_R_score 149 = .ok (.goto (-116), 3) := by decide +kernel
theorem d_R_score_152 : decode c_R_score 152 = .ok (.iload_n 3, 1) := by decide +kernel
theorem d_R_score_153 : decode c_R_score 153 = .ok (.ireturn, 1) := by decide +kernel
theorem d_R_miss_0 : decode c_R_miss 0 = .ok (.iload_n 1, 1) := by decide +kernel
theorem d_R_miss_1 : decode c_R_miss 1 = .ok (.istore_n 2, 1) := by decide +kernel
theorem d_R_miss_2 : decode c_R_miss 2 = .ok (.iconst 0, 1) := by decide +kernel
theorem d_R_miss_3 : decode c_R_miss 3 = .ok (.istore_n 3, 1) := by decide +kernel
theorem d_R_miss_4 : decode c_R_miss 4 = .ok (.iload_n 3, 1) := by decide +kernel
theorem d_R_miss_5 : decode c_R_miss 5 = .ok (.aload_n 0, 1) := by decide +kernel
theorem d_R_miss_6 : decode c_R_miss 6 = .ok (.getfield 101, 3) := by decide +kernel
theorem d_R_miss_9 : decode c_R_miss 9 = .ok (.if_icmp .ge 42, 3) := by decide +kernel
theorem d_R_miss_12 : decode c_R_miss 12 = .ok (.iload_n 2, 1) := by decide +kernel
theorem d_R_miss_13 : decode c_R_miss 13 = .ok (.ifCond .lt 38, 3) := by decide +kernel
theorem d_R_miss_16 : decode c_R_miss 16 = .ok (.aload_n 0, 1) := by decide +kernel
theorem d_R_miss_17 : decode c_R_miss 17 = .ok (.getfield 54, 3) := by decide +kernel
theorem d_R_miss_20 : decode c_R_miss 20 = .ok (.iload_n 3, 1) := by decide +kernel
theorem d_R_miss_21 : decode c_R_miss 21 = .ok (.iaload, 1) := by decide +kernel
theorem d_R_miss_22 : decode c_R_miss 22 = .ok (.ifCond .ne 23, 3) := by decide +kernel
theorem d_R_miss_25 : decode c_R_miss 25 = .ok (.aload_n 0, 1) := by decide +kernel
theorem d_R_miss_26 : decode c_R_miss 26 = .ok (.iload_n 3, 1) := by decide +kernel
theorem d_R_miss_27 : decode c_R_miss 27 = .ok (.invokevirtual 197, 3) := by decide +kernel
theorem d_R_miss_30 : decode c_R_miss 30 = .ok (.ifCond .eq 6, 3) := by decide +kernel
theorem d_R_miss_33 : decode c_R_miss 33 = .ok (.goto 12, 3) := by decide +kernel
theorem d_R_miss_36 : decode c_R_miss 36 = .ok (.iload_n 2, 1) := by decide +kernel
theorem d_R_miss_37 : decode c_R_miss 37 = .ok (.ifCond .ne 5, 3) := by decide +kernel
theorem d_R_miss_40 : decode c_R_miss 40 = .ok (.iload_n 3, 1) := by decide +kernel
theorem d_R_miss_41 : decode c_R_miss 41 = .ok (.ireturn, 1) := by decide +kernel
theorem d_R_miss_42 : decode c_R_miss 42 = .ok (.iinc 2 (-1), 3) := by decide +kernel
theorem d_R_miss_45 : decode c_R_miss 45 = .ok (.iinc 3 1, 3) := by decide +kernel
theorem d_R_miss_48 : decode c_R_miss 48 = .ok (.goto (-44), 3) := by decide +kernel
theorem d_R_miss_51 : decode c_R_miss 51 = .ok (.iconst (-1), 1) := by decide +kernel
theorem d_R_miss_52 : decode c_R_miss 52 = .ok (.ireturn, 1) := by decide +kernel
