theorem d_M_init_0 : decode c_M_init 0 = .ok (.aload_n 0, 1) := by decide +kernel
theorem d_M_init_1 : decode c_M_init 1 = .ok (.invokespecial 1, 3) := by decide +kernel
theorem d_M_init_4 : decode c_M_init 4 = .ok (.aload_n 0, 1) := by decide +kernel
theorem d_M_init_5 : decode c_M_init 5 = .ok (.new 7, 3) := by decide +kernel
theorem d_M_init_8 : decode c_M_init 8 = .ok (.dup, 1) := by decide +kernel
theorem d_M_init_9 : decode c_M_init 9 = .ok (.invokespecial 9, 3) := by decide +kernel
theorem d_M_init_12 : decode c_M_init 12 = .ok (.putfield 10, 3) := by decide +kernel
theorem d_M_init_15 : decode c_M_init 15 = .ok (.aload_n 0, 1) := by decide +kernel
theorem d_M_init_16 : decode c_M_init 16 = .ok (.new 16, 3) := by decide +kernel
theorem d_M_init_19 : decode c_M_init 19 = .ok (.dup, 1) := by decide +kernel
theorem d_M_init_20 : decode c_M_init 20 = .ok (.aload_n 0, 1) := by decide +kernel
theorem d_M_init_21 : decode c_M_init 21 = .ok (.getfield 10, 3) := by decide +kernel
theorem d_M_init_24 : decode c_M_init 24 = .ok (.invokespecial 18, 3) := by decide +kernel
theorem d_M_init_27 : decode c_M_init 27 = .ok (.putfield 21, 3) := by decide +kernel
theorem d_M_init_30 : decode c_M_init 30 = .ok (.aload_n 0, 1) := by decide +kernel
theorem d_M_init_31 : decode c_M_init 31 = .ok (.new 25, 3) := by decide +kernel
theorem d_M_init_34 : decode c_M_init 34 = .ok (.dup, 1) := by decide +kernel
theorem d_M_init_35 : decode c_M_init 35 = .ok (.aload_n 0, 1) := by decide +kernel
theorem d_M_init_36 : decode c_M_init 36 = .ok (.getfield 10, 3) := by decide +kernel
theorem d_M_init_39 : decode c_M_init 39 = .ok (.invokespecial 27, 3) := by decide +kernel
theorem d_M_init_42 : decode c_M_init 42 = .ok (.putfield 28, 3) := by decide +kernel
theorem d_M_init_45 : decode c_M_init 45 = .ok (.aload_n 0, 1) := by decide +kernel
theorem d_M_init_46 : decode c_M_init 46 = .ok (.new 32, 3) := by decide +kernel
theorem d_M_init_49 : decode c_M_init 49 = .ok (.dup, 1) := by decide +kernel
theorem d_M_init_50 : decode c_M_init 50 = .ok (.aload_n 0, 1) := by decide +kernel
theorem d_M_init_51 : decode c_M_init 51 = .ok (.getfield 10, 3) := by decide +kernel
theorem d_M_init_54 : decode c_M_init 54 = .ok (.aload_n 0, 1) := by decide +kernel
theorem d_M_init_55 : decode c_M_init 55 = .ok (.getfield 21, 3) := by decide +kernel
theorem d_M_init_58 : decode c_M_init 58 = .ok (.invokespecial 34, 3) := by decide +kernel
theorem d_M_init_61 : decode c_M_init 61 = .ok (.putfield 37, 3) := by decide +kernel
theorem d_M_init_64 : decode c_M_init 64 = .ok (.aload_n 0, 1) := by decide +kernel
theorem d_M_init_65 : decode c_M_init 65 = .ok (.new 41, 3) := by decide +kernel
theorem d_M_init_68 : decode c_M_init 68 = .ok (.dup, 1) := by decide +kernel
theorem d_M_init_69 : decode c_M_init 69 = .ok (.invokespecial 43, 3) := by decide +kernel
theorem d_M_init_72 : decode c_M_init 72 = .ok (.putfield 44, 3) := by decide +kernel
theorem d_M_init_75 : decode c_M_init 75 = .ok (.return_, 1) := by decide +kernel
theorem d_T_init_0 : decode c_T_init 0 = .ok (.aload_n 0, 1) := by decide +kernel
theorem d_T_init_1 : decode c_T_init 1 = .ok (.invokespecial 3, 3) := by decide +kernel
theorem d_T_init_4 : decode c_T_init 4 = .ok (.aload_n 0, 1) := by decide +kernel
theorem d_T_init_5 : decode c_T_init 5 = .ok (.bipush 64, 2) := by decide +kernel
theorem d_T_init_7 : decode c_T_init 7 = .ok (.newarray .int, 2) := by decide +kernel
theorem d_T_init_9 : decode c_T_init 9 = .ok (.putfield 9, 3) := by decide +kernel
theorem d_T_init_12 : decode c_T_init 12 = .ok (.aload_n 0, 1) := by decide +kernel
theorem d_T_init_13 : decode c_T_init 13 = .ok (.bipush 64, 2) := by decide +kernel
theorem d_T_init_15 : decode c_T_init 15 = .ok (.newarray .long, 2) := by decide +kernel
theorem d_T_init_17 : decode c_T_init 17 = .ok (.putfield 15, 3) := by decide +kernel
theorem d_T_init_20 : decode c_T_init 20 = .ok (.aload_n 0, 1) := by decide +kernel
theorem d_T_init_21 : decode c_T_init 21 = .ok (.bipush 64, 2) := by decide +kernel
theorem d_T_init_23 : decode c_T_init 23 = .ok (.newarray .int, 2) := by decide +kernel
theorem d_T_init_25 : decode c_T_init 25 = .ok (.putfield 19, 3) := by decide +kernel
theorem d_T_init_28 : decode c_T_init 28 = .ok (.aload_n 0, 1) := by decide +kernel
theorem d_T_init_29 : decode c_T_init 29 = .ok (.bipush 64, 2) := by decide +kernel
theorem d_T_init_31 : decode c_T_init 31 = .ok (.newarray .int, 2) := by decide +kernel
theorem d_T_init_33 : decode c_T_init 33 = .ok (.putfield 22, 3) := by decide +kernel
theorem d_T_init_36 : decode c_T_init 36 = .ok (.aload_n 0, 1) := by decide +kernel
theorem d_T_init_37 : decode c_T_init 37 = .ok (.bipush 64, 2) := by decide +kernel
theorem d_T_init_39 : decode c_T_init 39 = .ok (.newarray .int, 2) := by decide +kernel
theorem d_T_init_41 : decode c_T_init 41 = .ok (.putfield 25, 3) := by decide +kernel
theorem d_T_init_44 : decode c_T_init 44 = .ok (.aload_n 0, 1) := by decide +kernel
theorem d_T_init_45 : decode c_T_init 45 = .ok (.bipush 64, 2) := by decide +kernel
theorem d_T_init_47 : decode c_T_init 47 = .ok (.newarray .int, 2) := by decide +kernel
theorem d_T_init_49 : decode c_T_init 49 = .ok (.putfield 28, 3) := by decide +kernel
theorem d_T_init_52 : decode c_T_init 52 = .ok (.aload_n 0, 1) := by decide +kernel
theorem d_T_init_53 : decode c_T_init 53 = .ok (.bipush 64, 2) := by decide +kernel
theorem d_T_init_55 : decode c_T_init 55 = .ok (.newarray .int, 2) := by decide +kernel
theorem d_T_init_57 : decode c_T_init 57 = .ok (.putfield 31, 3) := by decide +kernel
theorem d_T_init_60 : decode c_T_init 60 = .ok (.aload_n 0, 1) := by decide +kernel
theorem d_T_init_61 : decode c_T_init 61 = .ok (.iconst 0, 1) := by decide +kernel
theorem d_T_init_62 : decode c_T_init 62 = .ok (.putfield 34, 3) := by decide +kernel
theorem d_T_init_65 : decode c_T_init 65 = .ok (.return_, 1) := by decide +kernel
theorem d_U_init_0 : decode c_U_init 0 = .ok (.aload_n 0, 1) := by decide +kernel
theorem d_U_init_1 : decode c_U_init 1 = .ok (.invokespecial 3, 3) := by decide +kernel
theorem d_U_init_4 : decode c_U_init 4 = .ok (.aload_n 0, 1) := by decide +kernel
theorem d_U_init_5 : decode c_U_init 5 = .ok (.new 9, 3) := by decide +kernel
theorem d_U_init_8 : decode c_U_init 8 = .ok (.dup, 1) := by decide +kernel
theorem d_U_init_9 : decode c_U_init 9 = .ok (.aload_n 1, 1) := by decide +kernel
theorem d_U_init_10 : decode c_U_init 10 = .ok (.invokespecial 11, 3) := by decide +kernel
theorem d_U_init_13 : decode c_U_init 13 = .ok (.putfield 14, 3) := by decide +kernel
theorem d_U_init_16 : decode c_U_init 16 = .ok (.aload_n 0, 1) := by decide +kernel
theorem d_U_init_17 : decode c_U_init 17 = .ok (.bipush 24, 2) := by decide +kernel
theorem d_U_init_19 : decode c_U_init 19 = .ok (.newarray .int, 2) := by decide +kernel
theorem d_U_init_21 : decode c_U_init 21 = .ok (.putfield 20, 3) := by decide +kernel
theorem d_U_init_24 : decode c_U_init 24 = .ok (.aload_n 0, 1) := by decide +kernel
theorem d_U_init_25 : decode c_U_init 25 = .ok (.bipush 24, 2) := by decide +kernel
theorem d_U_init_27 : decode c_U_init 27 = .ok (.newarray .long, 2) := by decide +kernel
theorem d_U_init_29 : decode c_U_init 29 = .ok (.putfield 24, 3) := by decide +kernel
theorem d_U_init_32 : decode c_U_init 32 = .ok (.aload_n 0, 1) := by decide +kernel
theorem d_U_init_33 : decode c_U_init 33 = .ok (.bipush 24, 2) := by decide +kernel
theorem d_U_init_35 : decode c_U_init 35 = .ok (.newarray .long, 2) := by decide +kernel
theorem d_U_init_37 : decode c_U_init 37 = .ok (.putfield 28, 3) := by decide +kernel
theorem d_U_init_40 : decode c_U_init 40 = .ok (.aload_n 0, 1) := by decide +kernel
theorem d_U_init_41 : decode c_U_init 41 = .ok (.bipush 24, 2) := by decide +kernel
theorem d_U_init_43 : decode c_U_init 43 = .ok (.newarray .int, 2) := by decide +kernel
theorem d_U_init_45 : decode c_U_init 45 = .ok (.putfield 31, 3) := by decide +kernel
theorem d_U_init_48 : decode c_U_init 48 = .ok (.aload_n 0, 1) := by decide +kernel
theorem d_U_init_49 : decode c_U_init 49 = .ok (.bipush 24, 2) := by decide +kernel
theorem d_U_init_51 : decode c_U_init 51 = .ok (.newarray .int, 2) := by decide +kernel
theorem d_U_init_53 : decode c_U_init 53 = .ok (.putfield 34, 3) := by decide +kernel
theorem d_U_init_56 : decode c_U_init 56 = .ok (.aload_n 0, 1) := by decide +kernel
theorem d_U_init_57 : decode c_U_init 57 = .ok (.bipush 24, 2) := by decide +kernel
theorem d_U_init_59 : decode c_U_init 59 = .ok (.newarray .long, 2) := by decide +kernel
theorem d_U_init_61 : decode c_U_init 61 = .ok (.putfield 37, 3) := by decide +kernel
theorem d_U_init_64 : decode c_U_init 64 = .ok (.aload_n 0, 1) := by decide +kernel
theorem d_U_init_65 : decode c_U_init 65 = .ok (.iconst 0, 1) := by decide +kernel
theorem d_U_init_66 : decode c_U_init 66 = .ok (.putfield 40, 3) := by decide +kernel
theorem d_U_init_69 : decode c_U_init 69 = .ok (.return_, 1) := by decide +kernel
theorem d_K_init_0 : decode c_K_init 0 = .ok (.aload_n 0, 1) := by decide +kernel
theorem d_K_init_1 : decode c_K_init 1 = .ok (.invokespecial 3, 3) := by decide +kernel
theorem d_K_init_4 : decode c_K_init 4 = .ok (.aload_n 0, 1) := by decide +kernel
theorem d_K_init_5 : decode c_K_init 5 = .ok (.aload_n 1, 1) := by decide +kernel
theorem d_K_init_6 : decode c_K_init 6 = .ok (.putfield 9, 3) := by decide +kernel
theorem d_K_init_9 : decode c_K_init 9 = .ok (.aload_n 0, 1) := by decide +kernel
theorem d_K_init_10 : decode c_K_init 10 = .ok (.iconst (-1), 1) := by decide +kernel
theorem d_K_init_11 : decode c_K_init 11 = .ok (.putfield 15, 3) := by decide +kernel
theorem d_K_init_14 : decode c_K_init 14 = .ok (.aload_n 0, 1) := by decide +kernel
theorem d_K_init_15 : decode c_K_init 15 = .ok (.iconst (-1), 1) := by decide +kernel
theorem d_K_init_16 : decode c_K_init 16 = .ok (.putfield 19, 3) := by decide +kernel
theorem d_K_init_19 : decode c_K_init 19 = .ok (.return_, 1) := by decide +kernel
theorem d_N_init_0 : decode c_N_init 0 = .ok (.aload_n 0, 1) := by decide +kernel
theorem d_N_init_1 : decode c_N_init 1 = .ok (.invokespecial 3, 3) := by decide +kernel
theorem d_N_init_4 : decode c_N_init 4 = .ok (.aload_n 0, 1) := by decide +kernel
theorem d_N_init_5 : decode c_N_init 5 = .ok (.aload_n 1, 1) := by decide +kernel
theorem d_N_init_6 : decode c_N_init 6 = .ok (.putfield 9, 3) := by decide +kernel
theorem d_N_init_9 : decode c_N_init 9 = .ok (.aload_n 0, 1) := by decide +kernel
theorem d_N_init_10 : decode c_N_init 10 = .ok (.bipush 100, 2) := by decide +kernel
theorem d_N_init_12 : decode c_N_init 12 = .ok (.newarray .int, 2) := by decide +kernel
theorem d_N_init_14 : decode c_N_init 14 = .ok (.putfield 15, 3) := by decide +kernel
theorem d_N_init_17 : decode c_N_init 17 = .ok (.aload_n 0, 1) := by decide +kernel
theorem d_N_init_18 : decode c_N_init 18 = .ok (.bipush 100, 2) := by decide +kernel
theorem d_N_init_20 : decode c_N_init 20 = .ok (.newarray .int, 2) := by decide +kernel
theorem d_N_init_22 : decode c_N_init 22 = .ok (.putfield 19, 3) := by decide +kernel
theorem d_N_init_25 : decode c_N_init 25 = .ok (.aload_n 0, 1) := by decide +kernel
theorem d_N_init_26 : decode c_N_init 26 = .ok (.bipush 100, 2) := by decide +kernel
theorem d_N_init_28 : decode c_N_init 28 = .ok (.newarray .int, 2) := by decide +kernel
theorem d_N_init_30 : decode c_N_init 30 = .ok (.putfield 22, 3) := by decide +kernel
theorem d_N_init_33 : decode c_N_init 33 = .ok (.aload_n 0, 1) := by decide +kernel
theorem d_N_init_34 : decode c_N_init 34 = .ok (.bipush 100, 2) := by decide +kernel
theorem d_N_init_36 : decode c_N_init 36 = .ok (.newarray .int, 2) := by decide +kernel
theorem d_N_init_38 : decode c_N_init 38 = .ok (.putfield 25, 3) := by decide +kernel
theorem d_N_init_41 : decode c_N_init 41 = .ok (.aload_n 0, 1) := by decide +kernel
theorem d_N_init_42 : decode c_N_init 42 = .ok (.bipush 6, 2) := by decide +kernel
theorem d_N_init_44 : decode c_N_init 44 = .ok (.newarray .long, 2) := by decide +kernel
theorem d_N_init_46 : decode c_N_init 46 = .ok (.putfield 28, 3) := by decide +kernel
theorem d_N_init_49 : decode c_N_init 49 = .ok (.aload_n 0, 1) := by decide +kernel
theorem d_N_init_50 : decode c_N_init 50 = .ok (.iconst 0, 1) := by decide +kernel
theorem d_N_init_51 : decode c_N_init 51 = .ok (.putfield 32, 3) := by decide +kernel
theorem d_N_init_54 : decode c_N_init 54 = .ok (.return_, 1) := by decide +kernel
theorem d_G_init_0 : decode c_G_init 0 = .ok (.aload_n 0, 1) := by decide +kernel
theorem d_G_init_1 : decode c_G_init 1 = .ok (.invokespecial 3, 3) := by decide +kernel
theorem d_G_init_4 : decode c_G_init 4 = .ok (.aload_n 0, 1) := by decide +kernel
theorem d_G_init_5 : decode c_G_init 5 = .ok (.aload_n 1, 1) := by decide +kernel
theorem d_G_init_6 : decode c_G_init 6 = .ok (.putfield 9, 3) := by decide +kernel
theorem d_G_init_9 : decode c_G_init 9 = .ok (.aload_n 0, 1) := by decide +kernel
theorem d_G_init_10 : decode c_G_init 10 = .ok (.aload_n 2, 1) := by decide +kernel
theorem d_G_init_11 : decode c_G_init 11 = .ok (.putfield 15, 3) := by decide +kernel
theorem d_G_init_14 : decode c_G_init 14 = .ok (.aload_n 0, 1) := by decide +kernel
theorem d_G_init_15 : decode c_G_init 15 = .ok (.bipush 24, 2) := by decide +kernel
theorem d_G_init_17 : decode c_G_init 17 = .ok (.newarray .int, 2) := by decide +kernel
theorem d_G_init_19 : decode c_G_init 19 = .ok (.putfield 19, 3) := by decide +kernel
theorem d_G_init_22 : decode c_G_init 22 = .ok (.aload_n 0, 1) := by decide +kernel
theorem d_G_init_23 : decode c_G_init 23 = .ok (.bipush 24, 2) := by decide +kernel
theorem d_G_init_25 : decode c_G_init 25 = .ok (.newarray .int, 2) := by decide +kernel
theorem d_G_init_27 : decode c_G_init 27 = .ok (.putfield 23, 3) := by decide +kernel
theorem d_G_init_30 : decode c_G_init 30 = .ok (.aload_n 0, 1) := by decide +kernel
theorem d_G_init_31 : decode c_G_init 31 = .ok (.iconst 0, 1) := by decide +kernel
theorem d_G_init_32 : decode c_G_init 32 = .ok (.putfield 26, 3) := by decide +kernel
theorem d_G_init_35 : decode c_G_init 35 = .ok (.return_, 1) := by decide +kernel
theorem d_D_init_0 : decode c_D_init 0 = .ok (.aload_n 0, 1) := by decide +kernel
theorem d_D_init_1 : decode c_D_init 1 = .ok (.invokespecial 3, 3) := by decide +kernel
theorem d_D_init_4 : decode c_D_init 4 = .ok (.aload_n 0, 1) := by decide +kernel
theorem d_D_init_5 : decode c_D_init 5 = .ok (.bipush 100, 2) := by decide +kernel
theorem d_D_init_7 : decode c_D_init 7 = .ok (.newarray .int, 2) := by decide +kernel
theorem d_D_init_9 : decode c_D_init 9 = .ok (.putfield 9, 3) := by decide +kernel
theorem d_D_init_12 : decode c_D_init 12 = .ok (.aload_n 0, 1) := by decide +kernel
theorem d_D_init_13 : decode c_D_init 13 = .ok (.iconst 0, 1) := by decide +kernel
theorem d_D_init_14 : decode c_D_init 14 = .ok (.putfield 15, 3) := by decide +kernel
theorem d_D_init_17 : decode c_D_init 17 = .ok (.return_, 1) := by decide +kernel
theorem d_M_node_0 : decode c_M_node 0 = .ok (.aload_n 0, 1) := by decide +kernel
theorem d_M_node_1 : decode c_M_node 1 = .ok (.getfield 10, 3) := by decide +kernel
theorem d_M_node_4 : decode c_M_node 4 = .ok (.iload_n 1, 1) := by decide +kernel
theorem d_M_node_5 : decode c_M_node 5 = .ok (.lload_n 2, 1) := by decide +kernel
theorem d_M_node_6 : decode c_M_node 6 = .ok (.iload 4, 2) := by decide +kernel
theorem d_M_node_8 : decode c_M_node 8 = .ok (.iload 5, 2) := by decide +kernel
theorem d_M_node_10 : decode c_M_node 10 = .ok (.invokevirtual 48, 3) := by decide +kernel
theorem d_M_node_13 : decode c_M_node 13 = .ok (.ireturn, 1) := by decide +kernel
theorem d_T_grow_0 : decode c_T_grow 0 = .ok (.aload_n 0, 1) := by decide +kernel
theorem d_T_grow_1 : decode c_T_grow 1 = .ok (.getfield 34, 3) := by decide +kernel
theorem d_T_grow_4 : decode c_T_grow 4 = .ok (.bipush 64, 2) := by decide +kernel
theorem d_T_grow_6 : decode c_T_grow 6 = .ok (.if_icmp .ge 13, 3) := by decide +kernel
theorem d_T_grow_9 : decode c_T_grow 9 = .ok (.iload_n 1, 1) := by decide +kernel
theorem d_T_grow_10 : decode c_T_grow 10 = .ok (.ifCond .lt 9, 3) := by decide +kernel
theorem d_T_grow_13 : decode c_T_grow 13 = .ok (.iload_n 1, 1) := by decide +kernel
theorem d_T_grow_14 : decode c_T_grow 14 = .ok (.bipush 9, 2) := by decide +kernel
theorem d_T_grow_16 : decode c_T_grow 16 = .ok (.if_icmp .le 5, 3) := by decide +kernel
theorem d_T_grow_19 : decode c_T_grow 19 = .ok (.iconst (-1), 1) := by decide +kernel
theorem d_T_grow_20 : decode c_T_grow 20 = .ok (.ireturn, 1) := by decide +kernel
theorem d_T_grow_21 : decode c_T_grow 21 = .ok (.iload_n 1, 1) := by decide +kernel
theorem d_T_grow_22 : decode c_T_grow 22 = .ok (.invokestatic 38, 3) := by decide +kernel
theorem d_T_grow_25 : decode c_T_grow 25 = .ok (.istore 6, 2) := by decide +kernel
theorem d_T_grow_27 : decode c_T_grow 27 = .ok (.iload 6, 2) := by decide +kernel
theorem d_T_grow_29 : decode c_T_grow 29 = .ok (.ifCond .le 19, 3) := by decide +kernel
theorem d_T_grow_32 : decode c_T_grow 32 = .ok (.aload_n 0, 1) := by decide +kernel
theorem d_T_grow_33 : decode c_T_grow 33 = .ok (.iload 6, 2) := by decide +kernel
theorem d_T_grow_35 : decode c_T_grow 35 = .ok (.lload_n 2, 1) := by decide +kernel
theorem d_T_grow_36 : decode c_T_grow 36 = .ok (.iload 4, 2) := by decide +kernel
theorem d_T_grow_38 : decode c_T_grow 38 = .ok (.iload 5, 2) := by decide +kernel
theorem d_T_grow_40 : decode c_T_grow 40 = .ok (.invokevirtual 42, 3) := by decide +kernel
theorem d_T_grow_43 : decode c_T_grow 43 = .ok (.ifCond .ne 5, 3) := by decide +kernel
theorem d_T_grow_46 : decode c_T_grow 46 = .ok (.iconst (-1), 1) := by decide +kernel
theorem d_T_grow_47 : decode c_T_grow 47 = .ok (.ireturn, 1) := by decide +kernel
theorem d_T_grow_48 : decode c_T_grow 48 = .ok (.aload_n 0, 1) := by decide +kernel
theorem d_T_grow_49 : decode c_T_grow 49 = .ok (.getfield 34, 3) := by decide +kernel
theorem d_T_grow_52 : decode c_T_grow 52 = .ok (.istore 7, 2) := by decide +kernel
theorem d_T_grow_54 : decode c_T_grow 54 = .ok (.aload_n 0, 1) := by decide +kernel
theorem d_T_grow_55 : decode c_T_grow 55 = .ok (.dup, 1) := by decide +kernel
theorem d_T_grow_56 : decode c_T_grow 56 = .ok (.getfield 34, 3) := by decide +kernel
theorem d_T_grow_59 : decode c_T_grow 59 = .ok (.iconst 1, 1) := by decide +kernel
theorem d_T_grow_60 : decode c_T_grow 60 = .ok (.iadd, 1) := by decide +kernel
theorem d_T_grow_61 : decode c_T_grow 61 = .ok (.putfield 34, 3) := by decide +kernel
theorem d_T_grow_64 : decode c_T_grow 64 = .ok (.aload_n 0, 1) := by decide +kernel
theorem d_T_grow_65 : decode c_T_grow 65 = .ok (.getfield 9, 3) := by decide +kernel
theorem d_T_grow_68 : decode c_T_grow 68 = .ok (.iload 7, 2) := by decide +kernel
theorem d_T_grow_70 : decode c_T_grow 70 = .ok (.iload_n 1, 1) := by decide +kernel
theorem d_T_grow_71 : decode c_T_grow 71 = .ok (.iastore, 1) := by decide +kernel
theorem d_T_grow_72 : decode c_T_grow 72 = .ok (.aload_n 0, 1) := by decide +kernel
theorem d_T_grow_73 : decode c_T_grow 73 = .ok (.getfield 15, 3) := by decide +kernel
theorem d_T_grow_76 : decode c_T_grow 76 = .ok (.iload 7, 2) := by decide +kernel
theorem d_T_grow_78 : decode c_T_grow 78 = .ok (.iload_n 1, 1) := by decide +kernel
theorem d_T_grow_79 : decode c_T_grow 79 = .ok (.ifCond .ne 7, 3) := by decide +kernel
theorem d_T_grow_82 : decode c_T_grow 82 = .ok (.lload_n 2, 1) := by decide +kernel
theorem d_T_grow_83 : decode c_T_grow 83 = .ok (.goto 4, 3) := by decide +kernel
theorem d_T_grow_86 : decode c_T_grow 86 = .ok (.lconst 0, 1) := by decide +kernel
theorem d_T_grow_87 : decode c_T_grow 87 = .ok (.lastore, 1) := by decide +kernel
theorem d_T_grow_88 : decode c_T_grow 88 = .ok (.aload_n 0, 1) := by decide +kernel
theorem d_T_grow_89 : decode c_T_grow 89 = .ok (.getfield 19, 3) := by decide +kernel
theorem d_T_grow_92 : decode c_T_grow 92 = .ok (.iload 7, 2) := by decide +kernel
theorem d_T_grow_94 : decode c_T_grow 94 = .ok (.iload 6, 2) := by decide +kernel
theorem d_T_grow_96 : decode c_T_grow 96 = .ok (.ifCond .le 8, 3) := by decide +kernel
theorem d_T_grow_99 : decode c_T_grow 99 = .ok (.lload_n 2, 1) := by decide +kernel
theorem d_T_grow_100 : decode c_T_grow 100 = .ok (.l2i, 1) := by decide +kernel
theorem d_T_grow_101 : decode c_T_grow 101 = .ok (.goto 4, 3) := by decide +kernel
theorem d_T_grow_104 : decode c_T_grow 104 = .ok (.iconst (-1), 1) := by decide +kernel
theorem d_T_grow_105 : decode c_T_grow 105 = .ok (.iastore, 1) := by decide +kernel
theorem d_T_grow_106 : decode c_T_grow 106 = .ok (.aload_n 0, 1) := by decide +kernel
theorem d_T_grow_107 : decode c_T_grow 107 = .ok (.getfield 22, 3) := by decide +kernel
theorem d_T_grow_110 : decode c_T_grow 110 = .ok (.iload 7, 2) := by decide +kernel
theorem d_T_grow_112 : decode c_T_grow 112 = .ok (.iload 6, 2) := by decide +kernel
theorem d_T_grow_114 : decode c_T_grow 114 = .ok (.ifCond .le 8, 3) := by decide +kernel
theorem d_T_grow_117 : decode c_T_grow 117 = .ok (.iload 4, 2) := by decide +kernel
theorem d_T_grow_119 : decode c_T_grow 119 = .ok (.goto 4, 3) := by decide +kernel
theorem d_T_grow_122 : decode c_T_grow 122 = .ok (.iconst (-1), 1) := by decide +kernel
theorem d_T_grow_123 : decode c_T_grow 123 = .ok (.iastore, 1) := by decide +kernel
theorem d_T_grow_124 : decode c_T_grow 124 = .ok (.aload_n 0, 1) := by decide +kernel
theorem d_T_grow_125 : decode c_T_grow 125 = .ok (.getfield 25, 3) := by decide +kernel
theorem d_T_grow_128 : decode c_T_grow 128 = .ok (.iload 7, 2) := by decide +kernel
theorem d_T_grow_130 : decode c_T_grow 130 = .ok (.iload 6, 2) := by decide +kernel
theorem d_T_grow_132 : decode c_T_grow 132 = .ok (.iconst 2, 1) := by decide +kernel
theorem d_T_grow_133 : decode c_T_grow 133 = .ok (.if_icmp .le 8, 3) := by decide +kernel
theorem d_T_grow_136 : decode c_T_grow 136 = .ok (.iload 5, 2) := by decide +kernel
theorem d_T_grow_138 : decode c_T_grow 138 = .ok (.goto 4, 3) := by decide +kernel
theorem d_T_grow_141 : decode c_T_grow 141 = .ok (.iconst (-1), 1) := by decide +kernel
theorem d_T_grow_142 : decode c_T_grow 142 = .ok (.iastore, 1) := by decide +kernel
theorem d_T_grow_143 : decode c_T_grow 143 = .ok (.aload_n 0, 1) := by decide +kernel
theorem d_T_grow_144 : decode c_T_grow 144 = .ok (.getfield 28, 3) := by decide +kernel
theorem d_T_grow_147 : decode c_T_grow 147 = .ok (.iload 7, 2) := by decide +kernel
theorem d_T_grow_149 : decode c_T_grow 149 = .ok (.aload_n 0, 1) := by decide +kernel
theorem d_T_grow_150 : decode c_T_grow 150 = .ok (.iload 7, 2) := by decide +kernel
theorem d_T_grow_152 : decode c_T_grow 152 = .ok (.invokevirtual 46, 3) := by decide +kernel
theorem d_T_grow_155 : decode c_T_grow 155 = .ok (.iastore, 1) := by decide +kernel
theorem d_T_grow_156 : decode c_T_grow 156 = .ok (.iload 7, 2) := by decide +kernel
theorem d_T_grow_158 : decode c_T_grow 158 = .ok (.ireturn, 1) := by decide +kernel
theorem d_T_partCount_0 : decode c_T_partCount 0 = .ok (.iload_n 0, 1) := by decide +kernel
theorem d_T_partCount_1 : decode c_T_partCount 1 = .ok (.iconst 2, 1) := by decide +kernel
theorem d_T_partCount_2 : decode c_T_partCount 2 = .ok (.if_icmp .gt 5, 3) := by decide +kernel
theorem d_T_partCount_5 : decode c_T_partCount 5 = .ok (.iconst 0, 1) := by decide +kernel
theorem d_T_partCount_6 : decode c_T_partCount 6 = .ok (.ireturn, 1) := by decide +kernel
theorem d_T_partCount_7 : decode c_T_partCount 7 = .ok (.iload_n 0, 1) := by decide +kernel
theorem d_T_partCount_8 : decode c_T_partCount 8 = .ok (.bipush 8, 2) := by decide +kernel
theorem d_T_partCount_10 : decode c_T_partCount 10 = .ok (.if_icmp .ne 7, 3) := by decide +kernel
theorem d_T_partCount_13 : decode c_T_partCount 13 = .ok (.iconst 3, 1) := by decide +kernel
theorem d_T_partCount_14 : decode c_T_partCount 14 = .ok (.goto 4, 3) := by decide +kernel
theorem d_T_partCount_17 : decode c_T_partCount 17 = .ok (.iconst 2, 1) := by decide +kernel
theorem d_T_partCount_18 : decode c_T_partCount 18 = .ok (.ireturn, 1) := by decide +kernel
theorem d_T_areEarlier_0 : decode c_T_areEarlier 0 = .ok (.lload_n 2, 1) := by decide +kernel
theorem d_T_areEarlier_1 : decode c_T_areEarlier 1 = .ok (.lconst 0, 1) := by decide +kernel
theorem d_T_areEarlier_2 : decode c_T_areEarlier 2 = .ok (.lcmp, 1) := by decide +kernel
theorem d_T_areEarlier_3 : decode c_T_areEarlier 3 = .ok (.ifCond .lt 40, 3) := by decide +kernel
theorem d_T_areEarlier_6 : decode c_T_areEarlier 6 = .ok (.lload_n 2, 1) := by decide +kernel
theorem d_T_areEarlier_7 : decode c_T_areEarlier 7 = .ok (.aload_n 0, 1) := by decide +kernel
theorem d_T_areEarlier_8 : decode c_T_areEarlier 8 = .ok (.getfield 34, 3) := by decide +kernel
theorem d_T_areEarlier_11 : decode c_T_areEarlier 11 = .ok (.i2l, 1) := by decide +kernel
theorem d_T_areEarlier_12 : decode c_T_areEarlier 12 = .ok (.lcmp, 1) := by decide +kernel
theorem d_T_areEarlier_13 : decode c_T_areEarlier 13 = .ok (.ifCond .ge 30, 3) := by decide +kernel
theorem d_T_areEarlier_16 : decode c_T_areEarlier 16 = .ok (.aload_n 0, 1) := by decide +kernel
theorem d_T_areEarlier_17 : decode c_T_areEarlier 17 = .ok (.iload 4, 2) := by decide +kernel
theorem d_T_areEarlier_19 : decode c_T_areEarlier 19 = .ok (.invokevirtual 57, 3) := by decide +kernel
theorem d_T_areEarlier_22 : decode c_T_areEarlier 22 = .ok (.ifCond .eq 21, 3) := by decide +kernel
theorem d_T_areEarlier_25 : decode c_T_areEarlier 25 = .ok (.iload_n 1, 1) := by decide +kernel
theorem d_T_areEarlier_26 : decode c_T_areEarlier 26 = .ok (.iconst 3, 1) := by decide +kernel
theorem d_T_areEarlier_27 : decode c_T_areEarlier 27 = .ok (.if_icmp .lt 12, 3) := by decide +kernel
theorem d_T_areEarlier_30 : decode c_T_areEarlier 30 = .ok (.aload_n 0, 1) := by decide +kernel
theorem d_T_areEarlier_31 : decode c_T_areEarlier 31 = .ok (.iload 5, 2) := by decide +kernel
theorem d_T_areEarlier_33 : decode c_T_areEarlier 33 = .ok (.invokevirtual 57, 3) := by decide +kernel
theorem d_T_areEarlier_36 : decode c_T_areEarlier 36 = .ok (.ifCond .eq 7, 3) := by decide +kernel
theorem d_T_areEarlier_39 : decode c_T_areEarlier 39 = .ok (.iconst 1, 1) := by decide +kernel
theorem d_T_areEarlier_40 : decode c_T_areEarlier 40 = .ok (.goto 4, 3) := by decide +kernel
theorem d_T_areEarlier_43 : decode c_T_areEarlier 43 = .ok (.iconst 0, 1) := by decide +kernel
theorem d_T_areEarlier_44 : decode c_T_areEarlier 44 = .ok (.ireturn, 1) := by decide +kernel
theorem d_T_has_0 : decode c_T_has 0 = .ok (.iload_n 1, 1) := by decide +kernel
theorem d_T_has_1 : decode c_T_has 1 = .ok (.ifCond .lt 15, 3) := by decide +kernel
theorem d_T_has_4 : decode c_T_has 4 = .ok (.iload_n 1, 1) := by decide +kernel
theorem d_T_has_5 : decode c_T_has 5 = .ok (.aload_n 0, 1) := by decide +kernel
theorem d_T_has_6 : decode c_T_has 6 = .ok (.getfield 34, 3) := by decide +kernel
theorem d_T_has_9 : decode c_T_has 9 = .ok (.if_icmp .ge 7, 3) := by decide +kernel
theorem d_T_has_12 : decode c_T_has 12 = .ok (.iconst 1, 1) := by decide +kernel
theorem d_T_has_13 : decode c_T_has 13 = .ok (.goto 4, 3) := by decide +kernel
theorem d_T_has_16 : decode c_T_has 16 = .ok (.iconst 0, 1) := by decide +kernel
theorem d_T_has_17 : decode c_T_has 17 = .ok (.ireturn, 1) := by decide +kernel
theorem d_T_shapeFor_0 : decode c_T_shapeFor 0 = .ok (.iconst 0, 1) := by decide +kernel
theorem d_T_shapeFor_1 : decode c_T_shapeFor 1 = .ok (.istore_n 2, 1) := by decide +kernel
theorem d_T_shapeFor_2 : decode c_T_shapeFor 2 = .ok (.iload_n 2, 1) := by decide +kernel
theorem d_T_shapeFor_3 : decode c_T_shapeFor 3 = .ok (.iload_n 1, 1) := by decide +kernel
theorem d_T_shapeFor_4 : decode c_T_shapeFor 4 = .ok (.if_icmp .ge 51, 3) := by decide +kernel
theorem d_T_shapeFor_7 : decode c_T_shapeFor 7 = .ok (.aload_n 0, 1) := by decide +kernel
theorem d_T_shapeFor_8 : decode c_T_shapeFor 8 = .ok (.getfield 9, 3) := by decide +kernel
theorem d_T_shapeFor_11 : decode c_T_shapeFor 11 = .ok (.iload_n 2, 1) := by decide +kernel
theorem d_T_shapeFor_12 : decode c_T_shapeFor 12 = .ok (.iaload, 1) := by decide +kernel
theorem d_T_shapeFor_13 : decode c_T_shapeFor 13 = .ok (.aload_n 0, 1) := by decide +kernel
theorem d_T_shapeFor_14 : decode c_T_shapeFor 14 = .ok (.getfield 9, 3) := by decide +kernel
theorem d_T_shapeFor_17 : decode c_T_shapeFor 17 = .ok (.iload_n 1, 1) := by decide +kernel
theorem d_T_shapeFor_18 : decode c_T_shapeFor 18 = .ok (.iaload, 1) := by decide +kernel
theorem d_T_shapeFor_19 : decode c_T_shapeFor 19 = .ok (.if_icmp .ne 30, 3) := by decide +kernel
theorem d_T_shapeFor_22 : decode c_T_shapeFor 22 = .ok (.aload_n 0, 1) := by decide +kernel
theorem d_T_shapeFor_23 : decode c_T_shapeFor 23 = .ok (.getfield 15, 3) := by decide +kernel
theorem d_T_shapeFor_26 : decode c_T_shapeFor 26 = .ok (.iload_n 2, 1) := by decide +kernel
theorem d_T_shapeFor_27 : decode c_T_shapeFor 27 = .ok (.laload, 1) := by decide +kernel
theorem d_T_shapeFor_28 : decode c_T_shapeFor 28 = .ok (.aload_n 0, 1) := by decide +kernel
theorem d_T_shapeFor_29 : decode c_T_shapeFor 29 = .ok (.getfield 15, 3) := by decide +kernel
theorem d_T_shapeFor_32 : decode c_T_shapeFor 32 = .ok (.iload_n 1, 1) := by decide +kernel
theorem d_T_shapeFor_33 : decode c_T_shapeFor 33 = .ok (.laload, 1) := by decide +kernel
theorem d_T_shapeFor_34 : decode c_T_shapeFor 34 = .ok (.lcmp, 1) := by decide +kernel
theorem d_T_shapeFor_35 : decode c_T_shapeFor 35 = .ok (.ifCond .ne 14, 3) := by decide +kernel
theorem d_T_shapeFor_38 : decode c_T_shapeFor 38 = .ok (.aload_n 0, 1) := by decide +kernel
theorem d_T_shapeFor_39 : decode c_T_shapeFor 39 = .ok (.iload_n 2, 1) := by decide +kernel
theorem d_T_shapeFor_40 : decode c_T_shapeFor 40 = .ok (.iload_n 1, 1) := by decide +kernel
theorem d_T_shapeFor_41 : decode c_T_shapeFor 41 = .ok (.invokevirtual 61, 3) := by decide +kernel
theorem d_T_shapeFor_44 : decode c_T_shapeFor 44 = .ok (.ifCond .eq 5, 3) := by decide +kernel
theorem d_T_shapeFor_47 : decode c_T_shapeFor 47 = .ok (.iload_n 2, 1) := by decide +kernel
theorem d_T_shapeFor_48 : decode c_T_shapeFor 48 = .ok (.ireturn, 1) := by decide +kernel
theorem d_T_shapeFor_49 : decode c_T_shapeFor 49 = .ok (.iinc 2 1, 3) := by decide +kernel
theorem d_T_shapeFor_52 : decode c_T_shapeFor 52 = .ok (.goto (-50), 3) := by decide +kernel
theorem d_T_shapeFor_55 : decode c_T_shapeFor 55 = .ok (.iload_n 1, 1) := by decide +kernel
theorem d_T_shapeFor_56 : decode c_T_shapeFor 56 = .ok (.ireturn, 1) := by decide +kernel
theorem d_T_haveAlikeParts_0 : decode c_T_haveAlikeParts 0 = .ok (.aload_n 0, 1) := by decide +kernel
theorem d_T_haveAlikeParts_1 : decode c_T_haveAlikeParts 1 = .ok (.getfield 9, 3) := by decide +kernel
theorem d_T_haveAlikeParts_4 : decode c_T_haveAlikeParts 4 = .ok (.iload_n 1, 1) := by decide +kernel
theorem d_T_haveAlikeParts_5 : decode c_T_haveAlikeParts 5 = .ok (.iaload, 1) := by decide +kernel
theorem d_T_haveAlikeParts_6 : decode c_T_haveAlikeParts 6 = .ok (.invokestatic 38, 3) := by decide +kernel
theorem d_T_haveAlikeParts_9 : decode c_T_haveAlikeParts 9 = .ok (.istore_n 3, 1) := by decide +kernel
theorem d_T_haveAlikeParts_10 : decode c_T_haveAlikeParts 10 = .ok (.iload_n 3, 1) := by decide +kernel
theorem d_T_haveAlikeParts_11 : decode c_T_haveAlikeParts 11 = .ok (.ifCond .ne 5, 3) := by decide +kernel
theorem d_T_haveAlikeParts_14 : decode c_T_haveAlikeParts 14 = .ok (.iconst 1, 1) := by decide +kernel
theorem d_T_haveAlikeParts_15 : decode c_T_haveAlikeParts 15 = .ok (.ireturn, 1) := by decide +kernel
theorem d_T_haveAlikeParts_16 : decode c_T_haveAlikeParts 16 = .ok (.aload_n 0, 1) := by decide +kernel
theorem d_T_haveAlikeParts_17 : decode c_T_haveAlikeParts 17 = .ok (.aload_n 0, 1) := by decide +kernel
theorem d_T_haveAlikeParts_18 : decode c_T_haveAlikeParts 18 = .ok (.getfield 19, 3) := by decide +kernel
theorem d_T_haveAlikeParts_21 : decode c_T_haveAlikeParts 21 = .ok (.iload_n 1, 1) := by decide +kernel
theorem d_T_haveAlikeParts_22 : decode c_T_haveAlikeParts 22 = .ok (.iaload, 1) := by decide +kernel
theorem d_T_haveAlikeParts_23 : decode c_T_haveAlikeParts 23 = .ok (.aload_n 0, 1) := by decide +kernel
theorem d_T_haveAlikeParts_24 : decode c_T_haveAlikeParts 24 = .ok (.getfield 19, 3) := by decide +kernel
theorem d_T_haveAlikeParts_27 : decode c_T_haveAlikeParts 27 = .ok (.iload_n 2, 1) := by decide +kernel
theorem d_T_haveAlikeParts_28 : decode c_T_haveAlikeParts 28 = .ok (.iaload, 1) := by decide +kernel
theorem d_T_haveAlikeParts_29 : decode c_T_haveAlikeParts 29 = .ok (.invokevirtual 65, 3) := by decide +kernel
theorem d_T_haveAlikeParts_32 : decode c_T_haveAlikeParts 32 = .ok (.ifCond .eq 50, 3) := by decide +kernel
theorem d_T_haveAlikeParts_35 : decode c_T_haveAlikeParts 35 = .ok (.aload_n 0, 1) := by decide +kernel
theorem d_T_haveAlikeParts_36 : decode c_T_haveAlikeParts 36 = .ok (.aload_n 0, 1) := by decide +kernel
theorem d_T_haveAlikeParts_37 : decode c_T_haveAlikeParts 37 = .ok (.getfield 22, 3) := by decide +kernel
theorem d_T_haveAlikeParts_40 : decode c_T_haveAlikeParts 40 = .ok (.iload_n 1, 1) := by decide +kernel
theorem d_T_haveAlikeParts_41 : decode c_T_haveAlikeParts 41 = .ok (.iaload, 1) := by decide +kernel
theorem d_T_haveAlikeParts_42 : decode c_T_haveAlikeParts 42 = .ok (.aload_n 0, 1) := by decide +kernel
theorem d_T_haveAlikeParts_43 : decode c_T_haveAlikeParts 43 = .ok (.getfield 22, 3) := by decide +kernel
theorem d_T_haveAlikeParts_46 : decode c_T_haveAlikeParts 46 = .ok (.iload_n 2, 1) := by decide +kernel
theorem d_T_haveAlikeParts_47 : decode c_T_haveAlikeParts 47 = .ok (.iaload, 1) := by decide +kernel
theorem d_T_haveAlikeParts_48 : decode c_T_haveAlikeParts 48 = .ok (.invokevirtual 65, 3) := by decide +kernel
theorem d_T_haveAlikeParts_51 : decode c_T_haveAlikeParts 51 = .ok (.ifCond .eq 31, 3) := by decide +kernel
theorem d_T_haveAlikeParts_54 : decode c_T_haveAlikeParts 54 = .ok (.iload_n 3, 1) := by decide +kernel
theorem d_T_haveAlikeParts_55 : decode c_T_haveAlikeParts 55 = .ok (.iconst 3, 1) := by decide +kernel
theorem d_T_haveAlikeParts_56 : decode c_T_haveAlikeParts 56 = .ok (.if_icmp .lt 22, 3) := by decide +kernel
theorem d_T_haveAlikeParts_59 : decode c_T_haveAlikeParts 59 = .ok (.aload_n 0, 1) := by decide +kernel
theorem d_T_haveAlikeParts_60 : decode c_T_haveAlikeParts 60 = .ok (.aload_n 0, 1) := by decide +kernel
theorem d_T_haveAlikeParts_61 : decode c_T_haveAlikeParts 61 = .ok (.getfield 25, 3) := by decide +kernel
theorem d_T_haveAlikeParts_64 : decode c_T_haveAlikeParts 64 = .ok (.iload_n 1, 1) := by decide +kernel
theorem d_T_haveAlikeParts_65 : decode c_T_haveAlikeParts 65 = .ok (.iaload, 1) := by decide +kernel
theorem d_T_haveAlikeParts_66 : decode c_T_haveAlikeParts 66 = .ok (.aload_n 0, 1) := by decide +kernel
theorem d_T_haveAlikeParts_67 : decode c_T_haveAlikeParts 67 = .ok (.getfield 25, 3) := by decide +kernel
theorem d_T_haveAlikeParts_70 : decode c_T_haveAlikeParts 70 = .ok (.iload_n 2, 1) := by decide +kernel
theorem d_T_haveAlikeParts_71 : decode c_T_haveAlikeParts 71 = .ok (.iaload, 1) := by decide +kernel
theorem d_T_haveAlikeParts_72 : decode c_T_haveAlikeParts 72 = .ok (.invokevirtual 65, 3) := by decide +kernel
theorem d_T_haveAlikeParts_75 : decode c_T_haveAlikeParts 75 = .ok (.ifCond .eq 7, 3) := by decide +kernel
theorem d_T_haveAlikeParts_78 : decode c_T_haveAlikeParts 78 = .ok (.iconst 1, 1) := by decide +kernel
theorem d_T_haveAlikeParts_79 : decode c_T_haveAlikeParts 79 = .ok (.goto 4, 3) := by decide +kernel
theorem d_T_haveAlikeParts_82 : decode c_T_haveAlikeParts 82 = .ok (.iconst 0, 1) := by decide +kernel
theorem d_T_haveAlikeParts_83 : decode c_T_haveAlikeParts 83 = .ok (.ireturn, 1) := by decide +kernel
theorem d_T_areAlike_0 : decode c_T_areAlike 0 = .ok (.aload_n 0, 1) := by decide +kernel
theorem d_T_areAlike_1 : decode c_T_areAlike 1 = .ok (.getfield 28, 3) := by decide +kernel
theorem d_T_areAlike_4 : decode c_T_areAlike 4 = .ok (.iload_n 1, 1) := by decide +kernel
theorem d_T_areAlike_5 : decode c_T_areAlike 5 = .ok (.iaload, 1) := by decide +kernel
theorem d_T_areAlike_6 : decode c_T_areAlike 6 = .ok (.aload_n 0, 1) := by decide +kernel
theorem d_T_areAlike_7 : decode c_T_areAlike 7 = .ok (.getfield 28, 3) := by decide +kernel
theorem d_T_areAlike_10 : decode c_T_areAlike 10 = .ok (.iload_n 2, 1) := by decide +kernel
theorem d_T_areAlike_11 : decode c_T_areAlike 11 = .ok (.iaload, 1) := by decide +kernel
theorem d_T_areAlike_12 : decode c_T_areAlike 12 = .ok (.if_icmp .ne 7, 3) := by decide +kernel
theorem d_T_areAlike_15 : decode c_T_areAlike 15 = .ok (.iconst 1, 1) := by decide +kernel
theorem d_T_areAlike_16 : decode c_T_areAlike 16 = .ok (.goto 4, 3) := by decide +kernel
theorem d_T_areAlike_19 : decode c_T_areAlike 19 = .ok (.iconst 0, 1) := by decide +kernel
theorem d_T_areAlike_20 : decode c_T_areAlike 20 = .ok (.ireturn, 1) := by decide +kernel
theorem d_M_test_0 : decode c_M_test 0 = .ok (.aload_n 0, 1) := by decide +kernel
theorem d_M_test_1 : decode c_M_test 1 = .ok (.getfield 10, 3) := by decide +kernel
theorem d_M_test_4 : decode c_M_test 4 = .ok (.iload_n 1, 1) := by decide +kernel
theorem d_M_test_5 : decode c_M_test 5 = .ok (.invokevirtual 52, 3) := by decide +kernel
theorem d_M_test_8 : decode c_M_test 8 = .ok (.ifCond .ne 5, 3) := by decide +kernel
theorem d_M_test_11 : decode c_M_test 11 = .ok (.iconst (-1), 1) := by decide +kernel
theorem d_M_test_12 : decode c_M_test 12 = .ok (.ireturn, 1) := by decide +kernel
theorem d_M_test_13 : decode c_M_test 13 = .ok (.aload_n 0, 1) := by decide +kernel
theorem d_M_test_14 : decode c_M_test 14 = .ok (.getfield 21, 3) := by decide +kernel
theorem d_M_test_17 : decode c_M_test 17 = .ok (.iload_n 1, 1) := by decide +kernel
theorem d_M_test_18 : decode c_M_test 18 = .ok (.lload_n 2, 1) := by decide +kernel
theorem d_M_test_19 : decode c_M_test 19 = .ok (.lload 4, 2) := by decide +kernel
theorem d_M_test_21 : decode c_M_test 21 = .ok (.invokevirtual 56, 3) := by decide +kernel
theorem d_M_test_24 : decode c_M_test 24 = .ok (.ireturn, 1) := by decide +kernel
theorem d_U_add_0 : decode c_U_add 0 = .ok (.aload_n 0, 1) := by decide +kernel
theorem d_U_add_1 : decode c_U_add 1 = .ok (.getfield 40, 3) := by decide +kernel
theorem d_U_add_4 : decode c_U_add 4 = .ok (.bipush 24, 2) := by decide +kernel
theorem d_U_add_6 : decode c_U_add 6 = .ok (.if_icmp .lt 5, 3) := by decide +kernel
theorem d_U_add_9 : decode c_U_add 9 = .ok (.iconst (-1), 1) := by decide +kernel
theorem d_U_add_10 : decode c_U_add 10 = .ok (.ireturn, 1) := by decide +kernel
theorem d_U_add_11 : decode c_U_add 11 = .ok (.aload_n 0, 1) := by decide +kernel
theorem d_U_add_12 : decode c_U_add 12 = .ok (.getfield 40, 3) := by decide +kernel
theorem d_U_add_15 : decode c_U_add 15 = .ok (.istore 6, 2) := by decide +kernel
theorem d_U_add_17 : decode c_U_add 17 = .ok (.aload_n 0, 1) := by decide +kernel
theorem d_U_add_18 : decode c_U_add 18 = .ok (.dup, 1) := by decide +kernel
theorem d_U_add_19 : decode c_U_add 19 = .ok (.getfield 40, 3) := by decide +kernel
theorem d_U_add_22 : decode c_U_add 22 = .ok (.iconst 1, 1) := by decide +kernel
theorem d_U_add_23 : decode c_U_add 23 = .ok (.iadd, 1) := by decide +kernel
theorem d_U_add_24 : decode c_U_add 24 = .ok (.putfield 40, 3) := by decide +kernel
theorem d_U_add_27 : decode c_U_add 27 = .ok (.aload_n 0, 1) := by decide +kernel
theorem d_U_add_28 : decode c_U_add 28 = .ok (.getfield 20, 3) := by decide +kernel
theorem d_U_add_31 : decode c_U_add 31 = .ok (.iload 6, 2) := by decide +kernel
theorem d_U_add_33 : decode c_U_add 33 = .ok (.iload_n 1, 1) := by decide +kernel
theorem d_U_add_34 : decode c_U_add 34 = .ok (.iastore, 1) := by decide +kernel
theorem d_U_add_35 : decode c_U_add 35 = .ok (.aload_n 0, 1) := by decide +kernel
theorem d_U_add_36 : decode c_U_add 36 = .ok (.getfield 24, 3) := by decide +kernel
theorem d_U_add_39 : decode c_U_add 39 = .ok (.iload 6, 2) := by decide +kernel
theorem d_U_add_41 : decode c_U_add 41 = .ok (.lload_n 2, 1) := by decide +kernel
theorem d_U_add_42 : decode c_U_add 42 = .ok (.lastore, 1) := by decide +kernel
theorem d_U_add_43 : decode c_U_add 43 = .ok (.aload_n 0, 1) := by decide +kernel
theorem d_U_add_44 : decode c_U_add 44 = .ok (.getfield 28, 3) := by decide +kernel
theorem d_U_add_47 : decode c_U_add 47 = .ok (.iload 6, 2) := by decide +kernel
theorem d_U_add_49 : decode c_U_add 49 = .ok (.lload 4, 2) := by decide +kernel
theorem d_U_add_51 : decode c_U_add 51 = .ok (.lastore, 1) := by decide +kernel
theorem d_U_add_52 : decode c_U_add 52 = .ok (.aload_n 0, 1) := by decide +kernel
theorem d_U_add_53 : decode c_U_add 53 = .ok (.iload 6, 2) := by decide +kernel
theorem d_U_add_55 : decode c_U_add 55 = .ok (.invokevirtual 48, 3) := by decide +kernel
theorem d_U_add_58 : decode c_U_add 58 = .ok (.iload 6, 2) := by decide +kernel
theorem d_U_add_60 : decode c_U_add 60 = .ok (.ireturn, 1) := by decide +kernel
theorem d_U_attempt_0 : decode c_U_attempt 0 = .ok (.aload_n 0, 1) := by decide +kernel
theorem d_U_attempt_1 : decode c_U_attempt 1 = .ok (.getfield 14, 3) := by decide +kernel
theorem d_U_attempt_4 : decode c_U_attempt 4 = .ok (.aload_n 0, 1) := by decide +kernel
theorem d_U_attempt_5 : decode c_U_attempt 5 = .ok (.getfield 20, 3) := by decide +kernel
theorem d_U_attempt_8 : decode c_U_attempt 8 = .ok (.iload_n 1, 1) := by decide +kernel
theorem d_U_attempt_9 : decode c_U_attempt 9 = .ok (.iaload, 1) := by decide +kernel
theorem d_U_attempt_10 : decode c_U_attempt 10 = .ok (.aload_n 0, 1) := by decide +kernel
theorem d_U_attempt_11 : decode c_U_attempt 11 = .ok (.getfield 24, 3) := by decide +kernel
theorem d_U_attempt_14 : decode c_U_attempt 14 = .ok (.iload_n 1, 1) := by decide +kernel
theorem d_U_attempt_15 : decode c_U_attempt 15 = .ok (.laload, 1) := by decide +kernel
theorem d_U_attempt_16 : decode c_U_attempt 16 = .ok (.sipush 3000, 3) := by decide +kernel
theorem d_U_attempt_19 : decode c_U_attempt 19 = .ok (.invokevirtual 56, 3) := by decide +kernel
theorem d_U_attempt_22 : decode c_U_attempt 22 = .ok (.lstore_n 2, 1) := by decide +kernel
theorem d_U_attempt_23 : decode c_U_attempt 23 = .ok (.aload_n 0, 1) := by decide +kernel
theorem d_U_attempt_24 : decode c_U_attempt 24 = .ok (.getfield 14, 3) := by decide +kernel
theorem d_U_attempt_27 : decode c_U_attempt 27 = .ok (.invokevirtual 63, 3) := by decide +kernel
theorem d_U_attempt_30 : decode c_U_attempt 30 = .ok (.ifCond .eq 14, 3) := by decide +kernel
theorem d_U_attempt_33 : decode c_U_attempt 33 = .ok (.aload_n 0, 1) := by decide +kernel
theorem d_U_attempt_34 : decode c_U_attempt 34 = .ok (.getfield 31, 3) := by decide +kernel
theorem d_U_attempt_37 : decode c_U_attempt 37 = .ok (.iload_n 1, 1) := by decide +kernel
theorem d_U_attempt_38 : decode c_U_attempt 38 = .ok (.bipush (-2), 2) := by decide +kernel
theorem d_U_attempt_40 : decode c_U_attempt 40 = .ok (.iastore, 1) := by decide +kernel
theorem d_U_attempt_41 : decode c_U_attempt 41 = .ok (.goto 25, 3) := by decide +kernel
theorem d_U_attempt_44 : decode c_U_attempt 44 = .ok (.aload_n 0, 1) := by decide +kernel
theorem d_U_attempt_45 : decode c_U_attempt 45 = .ok (.getfield 31, 3) := by decide +kernel
theorem d_U_attempt_48 : decode c_U_attempt 48 = .ok (.iload_n 1, 1) := by decide +kernel
theorem d_U_attempt_49 : decode c_U_attempt 49 = .ok (.lload_n 2, 1) := by decide +kernel
theorem d_U_attempt_50 : decode c_U_attempt 50 = .ok (.aload_n 0, 1) := by decide +kernel
theorem d_U_attempt_51 : decode c_U_attempt 51 = .ok (.getfield 28, 3) := by decide +kernel
theorem d_U_attempt_54 : decode c_U_attempt 54 = .ok (.iload_n 1, 1) := by decide +kernel
theorem d_U_attempt_55 : decode c_U_attempt 55 = .ok (.laload, 1) := by decide +kernel
theorem d_U_attempt_56 : decode c_U_attempt 56 = .ok (.lcmp, 1) := by decide +kernel
theorem d_U_attempt_57 : decode c_U_attempt 57 = .ok (.ifCond .ne 7, 3) := by decide +kernel
theorem d_U_attempt_60 : decode c_U_attempt 60 = .ok (.iconst 1, 1) := by decide +kernel
theorem d_U_attempt_61 : decode c_U_attempt 61 = .ok (.goto 4, 3) := by decide +kernel
theorem d_U_attempt_64 : decode c_U_attempt 64 = .ok (.iconst 0, 1) := by decide +kernel
theorem d_U_attempt_65 : decode c_U_attempt 65 = .ok (.iastore, 1) := by decide +kernel
theorem d_U_attempt_66 : decode c_U_attempt 66 = .ok (.aload_n 0, 1) := by decide +kernel
theorem d_U_attempt_67 : decode c_U_attempt 67 = .ok (.getfield 34, 3) := by decide +kernel
theorem d_U_attempt_70 : decode c_U_attempt 70 = .ok (.iload_n 1, 1) := by decide +kernel
theorem d_U_attempt_71 : decode c_U_attempt 71 = .ok (.aload_n 0, 1) := by decide +kernel
theorem d_U_attempt_72 : decode c_U_attempt 72 = .ok (.getfield 14, 3) := by decide +kernel
theorem d_U_attempt_75 : decode c_U_attempt 75 = .ok (.invokevirtual 67, 3) := by decide +kernel
theorem d_U_attempt_78 : decode c_U_attempt 78 = .ok (.iastore, 1) := by decide +kernel
theorem d_U_attempt_79 : decode c_U_attempt 79 = .ok (.aload_n 0, 1) := by decide +kernel
theorem d_U_attempt_80 : decode c_U_attempt 80 = .ok (.getfield 37, 3) := by decide +kernel
theorem d_U_attempt_83 : decode c_U_attempt 83 = .ok (.iload_n 1, 1) := by decide +kernel
theorem d_U_attempt_84 : decode c_U_attempt 84 = .ok (.aload_n 0, 1) := by decide +kernel
theorem d_U_attempt_85 : decode c_U_attempt 85 = .ok (.getfield 14, 3) := by decide +kernel
theorem d_U_attempt_88 : decode c_U_attempt 88 = .ok (.invokevirtual 70, 3) := by decide +kernel
theorem d_U_attempt_91 : decode c_U_attempt 91 = .ok (.lastore, 1) := by decide +kernel
theorem d_U_attempt_92 : decode c_U_attempt 92 = .ok (.return_, 1) := by decide +kernel
theorem d_K_workOut_0 : decode c_K_workOut 0 = .ok (.aload_n 0, 1) := by decide +kernel
theorem d_K_workOut_1 : decode c_K_workOut 1 = .ok (.lload_n 2, 1) := by decide +kernel
theorem d_K_workOut_2 : decode c_K_workOut 2 = .ok (.putfield 33, 3) := by decide +kernel
theorem d_K_workOut_5 : decode c_K_workOut 5 = .ok (.aload_n 0, 1) := by decide +kernel
theorem d_K_workOut_6 : decode c_K_workOut 6 = .ok (.iload 4, 2) := by decide +kernel
theorem d_K_workOut_8 : decode c_K_workOut 8 = .ok (.putfield 36, 3) := by decide +kernel
theorem d_K_workOut_11 : decode c_K_workOut 11 = .ok (.aload_n 0, 1) := by decide +kernel
theorem d_K_workOut_12 : decode c_K_workOut 12 = .ok (.iconst 0, 1) := by decide +kernel
theorem d_K_workOut_13 : decode c_K_workOut 13 = .ok (.putfield 22, 3) := by decide +kernel
theorem d_K_workOut_16 : decode c_K_workOut 16 = .ok (.aload_n 0, 1) := by decide +kernel
theorem d_K_workOut_17 : decode c_K_workOut 17 = .ok (.iconst 0, 1) := by decide +kernel
theorem d_K_workOut_18 : decode c_K_workOut 18 = .ok (.putfield 25, 3) := by decide +kernel
theorem d_K_workOut_21 : decode c_K_workOut 21 = .ok (.aload_n 0, 1) := by decide +kernel
theorem d_K_workOut_22 : decode c_K_workOut 22 = .ok (.lconst 0, 1) := by decide +kernel
theorem d_K_workOut_23 : decode c_K_workOut 23 = .ok (.putfield 29, 3) := by decide +kernel
theorem d_K_workOut_26 : decode c_K_workOut 26 = .ok (.aload_n 0, 1) := by decide +kernel
theorem d_K_workOut_27 : decode c_K_workOut 27 = .ok (.lconst 0, 1) := by decide +kernel
theorem d_K_workOut_28 : decode c_K_workOut 28 = .ok (.putfield 39, 3) := by decide +kernel
theorem d_K_workOut_31 : decode c_K_workOut 31 = .ok (.aload_n 0, 1) := by decide +kernel
theorem d_K_workOut_32 : decode c_K_workOut 32 = .ok (.iload_n 1, 1) := by decide +kernel
theorem d_K_workOut_33 : decode c_K_workOut 33 = .ok (.invokevirtual 42, 3) := by decide +kernel
theorem d_K_workOut_36 : decode c_K_workOut 36 = .ok (.lreturn, 1) := by decide +kernel
theorem d_K_worth_0 : decode c_K_worth 0 = .ok (.aload_n 0, 1) := by decide +kernel
theorem d_K_worth_1 : decode c_K_worth 1 = .ok (.getfield 22, 3) := by decide +kernel
theorem d_K_worth_4 : decode c_K_worth 4 = .ok (.aload_n 0, 1) := by decide +kernel
theorem d_K_worth_5 : decode c_K_worth 5 = .ok (.getfield 36, 3) := by decide +kernel
theorem d_K_worth_8 : decode c_K_worth 8 = .ok (.if_icmp .lt 10, 3) := by decide +kernel
theorem d_K_worth_11 : decode c_K_worth 11 = .ok (.aload_n 0, 1) := by decide +kernel
theorem d_K_worth_12 : decode c_K_worth 12 = .ok (.iconst 1, 1) := by decide +kernel
theorem d_K_worth_13 : decode c_K_worth 13 = .ok (.putfield 25, 3) := by decide +kernel
theorem d_K_worth_16 : decode c_K_worth 16 = .ok (.lconst 0, 1) := by decide +kernel
theorem d_K_worth_17 : decode c_K_worth 17 = .ok (.lreturn, 1) := by decide +kernel
theorem d_K_worth_18 : decode c_K_worth 18 = .ok (.aload_n 0, 1) := by decide +kernel
theorem d_K_worth_19 : decode c_K_worth 19 = .ok (.dup, 1) := by decide +kernel
theorem d_K_worth_20 : decode c_K_worth 20 = .ok (.getfield 22, 3) := by decide +kernel
theorem d_K_worth_23 : decode c_K_worth 23 = .ok (.iconst 1, 1) := by decide +kernel
theorem d_K_worth_24 : decode c_K_worth 24 = .ok (.iadd, 1) := by decide +kernel
theorem d_K_worth_25 : decode c_K_worth 25 = .ok (.putfield 22, 3) := by decide +kernel
theorem d_K_worth_28 : decode c_K_worth 28 = .ok (.aload_n 0, 1) := by decide +kernel
theorem d_K_worth_29 : decode c_K_worth 29 = .ok (.dup, 1) := by decide +kernel
theorem d_K_worth_30 : decode c_K_worth 30 = .ok (.getfield 29, 3) := by decide +kernel
theorem d_K_worth_33 : decode c_K_worth 33 = .ok (.iload_n 1, 1) := by decide +kernel
theorem d_K_worth_34 : decode c_K_worth 34 = .ok (.invokestatic 46, 3) := by decide +kernel
theorem d_K_worth_37 : decode c_K_worth 37 = .ok (.lor, 1) := by decide +kernel
theorem d_K_worth_38 : decode c_K_worth 38 = .ok (.putfield 29, 3) := by decide +kernel
theorem d_K_worth_41 : decode c_K_worth 41 = .ok (.aload_n 0, 1) := by decide +kernel
theorem d_K_worth_42 : decode c_K_worth 42 = .ok (.getfield 9, 3) := by decide +kernel
theorem d_K_worth_45 : decode c_K_worth 45 = .ok (.iload_n 1, 1) := by decide +kernel
theorem d_K_worth_46 : decode c_K_worth 46 = .ok (.invokevirtual 49, 3) := by decide +kernel
theorem d_K_worth_49 : decode c_K_worth 49 = .ok (.istore_n 2, 1) := by decide +kernel
theorem d_K_worth_50 : decode c_K_worth 50 = .ok (.iload_n 1, 1) := by decide +kernel
theorem d_K_worth_51 : decode c_K_worth 51 = .ok (.aload_n 0, 1) := by decide +kernel
theorem d_K_worth_52 : decode c_K_worth 52 = .ok (.getfield 19, 3) := by decide +kernel
theorem d_K_worth_55 : decode c_K_worth 55 = .ok (.if_icmp .ne 10, 3) := by decide +kernel
theorem d_K_worth_58 : decode c_K_worth 58 = .ok (.aload_n 0, 1) := by decide +kernel
theorem d_K_worth_59 : decode c_K_worth 59 = .ok (.getfield 15, 3) := by decide +kernel
theorem d_K_worth_62 : decode c_K_worth 62 = .ok (.goto 4, 3) := by decide +kernel
theorem d_K_worth_65 : decode c_K_worth 65 = .ok (.iconst (-1), 1) := by decide +kernel
theorem d_K_worth_66 : decode c_K_worth 66 = .ok (.istore_n 3, 1) := by decide +kernel
theorem d_K_worth_67 : decode c_K_worth 67 = .ok (.iload_n 2, 1) := by decide +kernel
theorem d_K_worth_68 : decode c_K_worth 68 = .ok (.tableswitch 105 0 9 #[56, 82, 87, 105, 105, 105, 105, 105, 92, 99], 56) := by decide +kernel
theorem d_K_worth_124 : decode c_K_worth 124 = .ok (.iload_n 3, 1) := by decide +kernel
theorem d_K_worth_125 : decode c_K_worth 125 = .ok (.ifCond .ne 16, 3) := by decide +kernel
theorem d_K_worth_128 : decode c_K_worth 128 = .ok (.aload_n 0, 1) := by decide +kernel
theorem d_K_worth_129 : decode c_K_worth 129 = .ok (.getfield 9, 3) := by decide +kernel
theorem d_K_worth_132 : decode c_K_worth 132 = .ok (.iload_n 1, 1) := by decide +kernel
theorem d_K_worth_133 : decode c_K_worth 133 = .ok (.invokevirtual 55, 3) := by decide +kernel
theorem d_K_worth_136 : decode c_K_worth 136 = .ok (.lconst 1, 1) := by decide +kernel
theorem d_K_worth_137 : decode c_K_worth 137 = .ok (.ladd, 1) := by decide +kernel
theorem d_K_worth_138 : decode c_K_worth 138 = .ok (.goto 11, 3) := by decide +kernel
theorem d_K_worth_141 : decode c_K_worth 141 = .ok (.aload_n 0, 1) := by decide +kernel
theorem d_K_worth_142 : decode c_K_worth 142 = .ok (.getfield 9, 3) := by decide +kernel
theorem d_K_worth_145 : decode c_K_worth 145 = .ok (.iload_n 1, 1) := by decide +kernel
theorem d_K_worth_146 : decode c_K_worth 146 = .ok (.invokevirtual 55, 3) := by decide +kernel
theorem d_K_worth_149 : decode c_K_worth 149 = .ok (.lreturn, 1) := by decide +kernel
theorem d_K_worth_150 : decode c_K_worth 150 = .ok (.aload_n 0, 1) := by decide +kernel
theorem d_K_worth_151 : decode c_K_worth 151 = .ok (.getfield 33, 3) := by decide +kernel
theorem d_K_worth_154 : decode c_K_worth 154 = .ok (.lreturn, 1) := by decide +kernel
theorem d_K_worth_155 : decode c_K_worth 155 = .ok (.aload_n 0, 1) := by decide +kernel
theorem d_K_worth_156 : decode c_K_worth 156 = .ok (.getfield 39, 3) := by decide +kernel
theorem d_K_worth_159 : decode c_K_worth 159 = .ok (.lreturn, 1) := by decide +kernel
theorem d_K_worth_160 : decode c_K_worth 160 = .ok (.aload_n 0, 1) := by decide +kernel
theorem d_K_worth_161 : decode c_K_worth 161 = .ok (.iload_n 1, 1) := by decide +kernel
theorem d_K_worth_162 : decode c_K_worth 162 = .ok (.iload_n 3, 1) := by decide +kernel
theorem d_K_worth_163 : decode c_K_worth 163 = .ok (.invokevirtual 58, 3) := by decide +kernel
theorem d_K_worth_166 : decode c_K_worth 166 = .ok (.lreturn, 1) := by decide +kernel
theorem d_K_worth_167 : decode c_K_worth 167 = .ok (.aload_n 0, 1) := by decide +kernel
theorem d_K_worth_168 : decode c_K_worth 168 = .ok (.iload_n 1, 1) := by decide +kernel
theorem d_K_worth_169 : decode c_K_worth 169 = .ok (.invokevirtual 62, 3) := by decide +kernel
theorem d_K_worth_172 : decode c_K_worth 172 = .ok (.lreturn, 1) := by decide +kernel
theorem d_K_worth_173 : decode c_K_worth 173 = .ok (.aload_n 0, 1) := by decide +kernel
theorem d_K_worth_174 : decode c_K_worth 174 = .ok (.iload_n 1, 1) := by decide +kernel
theorem d_K_worth_175 : decode c_K_worth 175 = .ok (.iload_n 2, 1) := by decide +kernel
theorem d_K_worth_176 : decode c_K_worth 176 = .ok (.iload_n 3, 1) := by decide +kernel
theorem d_K_worth_177 : decode c_K_worth 177 = .ok (.invokevirtual 65, 3) := by decide +kernel
theorem d_K_worth_180 : decode c_K_worth 180 = .ok (.lreturn, 1) := by decide +kernel
theorem d_M_bit_0 : decode c_M_bit 0 = .ok (.lconst 1, 1) := by decide +kernel
theorem d_M_bit_1 : decode c_M_bit 1 = .ok (.iload_n 0, 1) := by decide +kernel
theorem d_M_bit_2 : decode c_M_bit 2 = .ok (.lshl, 1) := by decide +kernel
theorem d_M_bit_3 : decode c_M_bit 3 = .ok (.lreturn, 1) := by decide +kernel
theorem d_T_kindOf_0 : decode c_T_kindOf 0 = .ok (.aload_n 0, 1) := by decide +kernel
theorem d_T_kindOf_1 : decode c_T_kindOf 1 = .ok (.getfield 9, 3) := by decide +kernel
theorem d_T_kindOf_4 : decode c_T_kindOf 4 = .ok (.iload_n 1, 1) := by decide +kernel
theorem d_T_kindOf_5 : decode c_T_kindOf 5 = .ok (.iaload, 1) := by decide +kernel
theorem d_T_kindOf_6 : decode c_T_kindOf 6 = .ok (.ireturn, 1) := by decide +kernel
theorem d_T_numberOf_0 : decode c_T_numberOf 0 = .ok (.aload_n 0, 1) := by decide +kernel
theorem d_T_numberOf_1 : decode c_T_numberOf 1 = .ok (.getfield 15, 3) := by decide +kernel
theorem d_T_numberOf_4 : decode c_T_numberOf 4 = .ok (.iload_n 1, 1) := by decide +kernel
theorem d_T_numberOf_5 : decode c_T_numberOf 5 = .ok (.laload, 1) := by decide +kernel
theorem d_T_numberOf_6 : decode c_T_numberOf 6 = .ok (.lreturn, 1) := by decide +kernel
theorem d_K_worthOfChoice_0 : decode c_K_worthOfChoice 0 = .ok (.aload_n 0, 1) := by decide +kernel
theorem d_K_worthOfChoice_1 : decode c_K_worthOfChoice 1 = .ok (.aload_n 0, 1) := by decide +kernel
theorem d_K_worthOfChoice_2 : decode c_K_worthOfChoice 2 = .ok (.getfield 9, 3) := by decide +kernel
theorem d_K_worthOfChoice_5 : decode c_K_worthOfChoice 5 = .ok (.iload_n 1, 1) := by decide +kernel
theorem d_K_worthOfChoice_6 : decode c_K_worthOfChoice 6 = .ok (.invokevirtual 69, 3) := by decide +kernel
theorem d_K_worthOfChoice_9 : decode c_K_worthOfChoice 9 = .ok (.invokevirtual 42, 3) := by decide +kernel
theorem d_K_worthOfChoice_12 : decode c_K_worthOfChoice 12 = .ok (.lconst 0, 1) := by decide +kernel
theorem d_K_worthOfChoice_13 : decode c_K_worthOfChoice 13 = .ok (.lcmp, 1) := by decide +kernel
theorem d_K_worthOfChoice_14 : decode c_K_worthOfChoice 14 = .ok (.ifCond .eq 7, 3) := by decide +kernel
theorem d_K_worthOfChoice_17 : decode c_K_worthOfChoice 17 = .ok (.iconst 1, 1) := by decide +kernel
theorem d_K_worthOfChoice_18 : decode c_K_worthOfChoice 18 = .ok (.goto 4, 3) := by decide +kernel
theorem d_K_worthOfChoice_21 : decode c_K_worthOfChoice 21 = .ok (.iconst 0, 1) := by decide +kernel
theorem d_K_worthOfChoice_22 : decode c_K_worthOfChoice 22 = .ok (.istore_n 3, 1) := by decide +kernel
theorem d_K_worthOfChoice_23 : decode c_K_worthOfChoice 23 = .ok (.iload_n 3, 1) := by decide +kernel
theorem d_K_worthOfChoice_24 : decode c_K_worthOfChoice 24 = .ok (.iload_n 2, 1) := by decide +kernel
theorem d_K_worthOfChoice_25 : decode c_K_worthOfChoice 25 = .ok (.iconst 3, 1) := by decide +kernel
theorem d_K_worthOfChoice_26 : decode c_K_worthOfChoice 26 = .ok (.if_icmp .ne 7, 3) := by decide +kernel
theorem d_K_worthOfChoice_29 : decode c_K_worthOfChoice 29 = .ok (.iconst 1, 1) := by decide +kernel
theorem d_K_worthOfChoice_30 : decode c_K_worthOfChoice 30 = .ok (.goto 4, 3) := by decide +kernel
theorem d_K_worthOfChoice_33 : decode c_K_worthOfChoice 33 = .ok (.iconst 0, 1) := by decide +kernel
theorem d_K_worthOfChoice_34 : decode c_K_worthOfChoice 34 = .ok (.if_icmp .eq 7, 3) := by decide +kernel
theorem d_K_worthOfChoice_37 : decode c_K_worthOfChoice 37 = .ok (.iconst 1, 1) := by decide +kernel
theorem d_K_worthOfChoice_38 : decode c_K_worthOfChoice 38 = .ok (.goto 4, 3) := by decide +kernel
theorem d_K_worthOfChoice_41 : decode c_K_worthOfChoice 41 = .ok (.iconst 0, 1) := by decide +kernel
theorem d_K_worthOfChoice_42 : decode c_K_worthOfChoice 42 = .ok (.istore 4, 2) := by decide +kernel
theorem d_K_worthOfChoice_44 : decode c_K_worthOfChoice 44 = .ok (.aload_n 0, 1) := by decide +kernel
theorem d_K_worthOfChoice_45 : decode c_K_worthOfChoice 45 = .ok (.iload 4, 2) := by decide +kernel
theorem d_K_worthOfChoice_47 : decode c_K_worthOfChoice 47 = .ok (.ifCond .eq 14, 3) := by decide +kernel
theorem d_K_worthOfChoice_50 : decode c_K_worthOfChoice 50 = .ok (.aload_n 0, 1) := by decide +kernel
theorem d_K_worthOfChoice_51 : decode c_K_worthOfChoice 51 = .ok (.getfield 9, 3) := by decide +kernel
theorem d_K_worthOfChoice_54 : decode c_K_worthOfChoice 54 = .ok (.iload_n 1, 1) := by decide +kernel
theorem d_K_worthOfChoice_55 : decode c_K_worthOfChoice 55 = .ok (.invokevirtual 72, 3) := by decide +kernel
theorem d_K_worthOfChoice_58 : decode c_K_worthOfChoice 58 = .ok (.goto 11, 3) := by decide +kernel
theorem d_K_worthOfChoice_61 : decode c_K_worthOfChoice 61 = .ok (.aload_n 0, 1) := by decide +kernel
theorem d_K_worthOfChoice_62 : decode c_K_worthOfChoice 62 = .ok (.getfield 9, 3) := by decide +kernel
theorem d_K_worthOfChoice_65 : decode c_K_worthOfChoice 65 = .ok (.iload_n 1, 1) := by decide +kernel
theorem d_K_worthOfChoice_66 : decode c_K_worthOfChoice 66 = .ok (.invokevirtual 75, 3) := by decide +kernel
theorem d_K_worthOfChoice_69 : decode c_K_worthOfChoice 69 = .ok (.invokevirtual 42, 3) := by decide +kernel
theorem d_K_worthOfChoice_72 : decode c_K_worthOfChoice 72 = .ok (.lreturn, 1) := by decide +kernel
theorem d_T_firstOf_0 : decode c_T_firstOf 0 = .ok (.aload_n 0, 1) := by decide +kernel
theorem d_T_firstOf_1 : decode c_T_firstOf 1 = .ok (.getfield 19, 3) := by decide +kernel
theorem d_T_firstOf_4 : decode c_T_firstOf 4 = .ok (.iload_n 1, 1) := by decide +kernel
theorem d_T_firstOf_5 : decode c_T_firstOf 5 = .ok (.iaload, 1) := by decide +kernel
theorem d_T_firstOf_6 : decode c_T_firstOf 6 = .ok (.ireturn, 1) := by decide +kernel
theorem d_T_secondOf_0 : decode c_T_secondOf 0 = .ok (.aload_n 0, 1) := by decide +kernel
theorem d_T_secondOf_1 : decode c_T_secondOf 1 = .ok (.getfield 22, 3) := by decide +kernel
theorem d_T_secondOf_4 : decode c_T_secondOf 4 = .ok (.iload_n 1, 1) := by decide +kernel
theorem d_T_secondOf_5 : decode c_T_secondOf 5 = .ok (.iaload, 1) := by decide +kernel
theorem d_T_secondOf_6 : decode c_T_secondOf 6 = .ok (.ireturn, 1) := by decide +kernel
theorem d_T_thirdOf_0 : decode c_T_thirdOf 0 = .ok (.aload_n 0, 1) := by decide +kernel
theorem d_T_thirdOf_1 : decode c_T_thirdOf 1 = .ok (.getfield 25, 3) := by decide +kernel
theorem d_T_thirdOf_4 : decode c_T_thirdOf 4 = .ok (.iload_n 1, 1) := by decide +kernel
theorem d_T_thirdOf_5 : decode c_T_thirdOf 5 = .ok (.iaload, 1) := by decide +kernel
theorem d_T_thirdOf_6 : decode c_T_thirdOf 6 = .ok (.ireturn, 1) := by decide +kernel
theorem d_K_worthOfLoop_0 : decode c_K_worthOfLoop 0 = .ok (.aload_n 0, 1) := by decide +kernel
theorem d_K_worthOfLoop_1 : decode c_K_worthOfLoop 1 = .ok (.getfield 39, 3) := by decide +kernel
theorem d_K_worthOfLoop_4 : decode c_K_worthOfLoop 4 = .ok (.lstore_n 2, 1) := by decide +kernel
theorem d_K_worthOfLoop_5 : decode c_K_worthOfLoop 5 = .ok (.aload_n 0, 1) := by decide +kernel
theorem d_K_worthOfLoop_6 : decode c_K_worthOfLoop 6 = .ok (.lconst 0, 1) := by decide +kernel
theorem d_K_worthOfLoop_7 : decode c_K_worthOfLoop 7 = .ok (.putfield 39, 3) := by decide +kernel
theorem d_K_worthOfLoop_10 : decode c_K_worthOfLoop 10 = .ok (.aload_n 0, 1) := by decide +kernel
theorem d_K_worthOfLoop_11 : decode c_K_worthOfLoop 11 = .ok (.aload_n 0, 1) := by decide +kernel
theorem d_K_worthOfLoop_12 : decode c_K_worthOfLoop 12 = .ok (.getfield 9, 3) := by decide +kernel
theorem d_K_worthOfLoop_15 : decode c_K_worthOfLoop 15 = .ok (.iload_n 1, 1) := by decide +kernel
theorem d_K_worthOfLoop_16 : decode c_K_worthOfLoop 16 = .ok (.invokevirtual 69, 3) := by decide +kernel
theorem d_K_worthOfLoop_19 : decode c_K_worthOfLoop 19 = .ok (.invokevirtual 42, 3) := by decide +kernel
theorem d_K_worthOfLoop_22 : decode c_K_worthOfLoop 22 = .ok (.lstore 4, 2) := by decide +kernel
theorem d_K_worthOfLoop_24 : decode c_K_worthOfLoop 24 = .ok (.iconst 0, 1) := by decide +kernel
theorem d_K_worthOfLoop_25 : decode c_K_worthOfLoop 25 = .ok (.istore 6, 2) := by decide +kernel
theorem d_K_worthOfLoop_27 : decode c_K_worthOfLoop 27 = .ok (.iload 6, 2) := by decide +kernel
theorem d_K_worthOfLoop_29 : decode c_K_worthOfLoop 29 = .ok (.aload_n 0, 1) := by decide +kernel
theorem d_K_worthOfLoop_30 : decode c_K_worthOfLoop 30 = .ok (.getfield 36, 3) := by decide +kernel
theorem d_K_worthOfLoop_33 : decode c_K_worthOfLoop 33 = .ok (.if_icmp .ge 56, 3) := by decide +kernel
theorem d_K_worthOfLoop_36 : decode c_K_worthOfLoop 36 = .ok (.aload_n 0, 1) := by decide +kernel
theorem d_K_worthOfLoop_37 : decode c_K_worthOfLoop 37 = .ok (.getfield 25, 3) := by decide +kernel
theorem d_K_worthOfLoop_40 : decode c_K_worthOfLoop 40 = .ok (.ifCond .ne 49, 3) := by decide +kernel
theorem d_K_worthOfLoop_43 : decode c_K_worthOfLoop 43 = .ok (.aload_n 0, 1) := by decide +kernel
theorem d_K_worthOfLoop_44 : decode c_K_worthOfLoop 44 = .ok (.getfield 39, 3) := by decide +kernel
theorem d_K_worthOfLoop_47 : decode c_K_worthOfLoop 47 = .ok (.lload 4, 2) := by decide +kernel
theorem d_K_worthOfLoop_49 : decode c_K_worthOfLoop 49 = .ok (.lcmp, 1) := by decide +kernel
theorem d_K_worthOfLoop_50 : decode c_K_worthOfLoop 50 = .ok (.ifCond .ge 39, 3) := by decide +kernel
theorem d_K_worthOfLoop_53 : decode c_K_worthOfLoop 53 = .ok (.aload_n 0, 1) := by decide +kernel
theorem d_K_worthOfLoop_54 : decode c_K_worthOfLoop 54 = .ok (.aload_n 0, 1) := by decide +kernel
theorem d_K_worthOfLoop_55 : decode c_K_worthOfLoop 55 = .ok (.aload_n 0, 1) := by decide +kernel
theorem d_K_worthOfLoop_56 : decode c_K_worthOfLoop 56 = .ok (.getfield 9, 3) := by decide +kernel
theorem d_K_worthOfLoop_59 : decode c_K_worthOfLoop 59 = .ok (.iload_n 1, 1) := by decide +kernel
theorem d_K_worthOfLoop_60 : decode c_K_worthOfLoop 60 = .ok (.invokevirtual 72, 3) := by decide +kernel
theorem d_K_worthOfLoop_63 : decode c_K_worthOfLoop 63 = .ok (.invokevirtual 42, 3) := by decide +kernel
theorem d_K_worthOfLoop_66 : decode c_K_worthOfLoop 66 = .ok (.putfield 39, 3) := by decide +kernel
theorem d_K_worthOfLoop_69 : decode c_K_worthOfLoop 69 = .ok (.aload_n 0, 1) := by decide +kernel
theorem d_K_worthOfLoop_70 : decode c_K_worthOfLoop 70 = .ok (.aload_n 0, 1) := by decide +kernel
theorem d_K_worthOfLoop_71 : decode c_K_worthOfLoop 71 = .ok (.getfield 9, 3) := by decide +kernel
theorem d_K_worthOfLoop_74 : decode c_K_worthOfLoop 74 = .ok (.iload_n 1, 1) := by decide +kernel
theorem d_K_worthOfLoop_75 : decode c_K_worthOfLoop 75 = .ok (.invokevirtual 69, 3) := by decide +kernel
theorem d_K_worthOfLoop_78 : decode c_K_worthOfLoop 78 = .ok (.invokevirtual 42, 3) := by decide +kernel
theorem d_K_worthOfLoop_81 : decode c_K_worthOfLoop 81 = .ok (.lstore 4, 2) := by decide +kernel
theorem d_K_worthOfLoop_83 : decode c_K_worthOfLoop 83 = .ok (.iinc 6 1, 3) := by decide +kernel
theorem d_K_worthOfLoop_86 : decode c_K_worthOfLoop 86 = .ok (.goto (-59), 3) := by decide +kernel
theorem d_K_worthOfLoop_89 : decode c_K_worthOfLoop 89 = .ok (.aload_n 0, 1) := by decide +kernel
theorem d_K_worthOfLoop_90 : decode c_K_worthOfLoop 90 = .ok (.getfield 39, 3) := by decide +kernel
theorem d_K_worthOfLoop_93 : decode c_K_worthOfLoop 93 = .ok (.lstore 6, 2) := by decide +kernel
theorem d_K_worthOfLoop_95 : decode c_K_worthOfLoop 95 = .ok (.aload_n 0, 1) := by decide +kernel
theorem d_K_worthOfLoop_96 : decode c_K_worthOfLoop 96 = .ok (.lload_n 2, 1) := by decide +kernel
theorem d_K_worthOfLoop_97 : decode c_K_worthOfLoop 97 = .ok (.putfield 39, 3) := by decide +kernel
theorem d_K_worthOfLoop_100 : decode c_K_worthOfLoop 100 = .ok (.lload 6, 2) := by decide +kernel
theorem d_K_worthOfLoop_102 : decode c_K_worthOfLoop 102 = .ok (.lreturn, 1) := by decide +kernel
theorem d_K_worthOfTwo_0 : decode c_K_worthOfTwo 0 = .ok (.aload_n 0, 1) := by decide +kernel
theorem d_K_worthOfTwo_1 : decode c_K_worthOfTwo 1 = .ok (.aload_n 0, 1) := by decide +kernel
theorem d_K_worthOfTwo_2 : decode c_K_worthOfTwo 2 = .ok (.getfield 9, 3) := by decide +kernel
theorem d_K_worthOfTwo_5 : decode c_K_worthOfTwo 5 = .ok (.iload_n 1, 1) := by decide +kernel
theorem d_K_worthOfTwo_6 : decode c_K_worthOfTwo 6 = .ok (.invokevirtual 69, 3) := by decide +kernel
theorem d_K_worthOfTwo_9 : decode c_K_worthOfTwo 9 = .ok (.invokevirtual 42, 3) := by decide +kernel
theorem d_K_worthOfTwo_12 : decode c_K_worthOfTwo 12 = .ok (.lstore 4, 2) := by decide +kernel
theorem d_K_worthOfTwo_14 : decode c_K_worthOfTwo 14 = .ok (.iload_n 3, 1) := by decide +kernel
theorem d_K_worthOfTwo_15 : decode c_K_worthOfTwo 15 = .ok (.iconst 4, 1) := by decide +kernel
theorem d_K_worthOfTwo_16 : decode c_K_worthOfTwo 16 = .ok (.if_icmp .ne 6, 3) := by decide +kernel
theorem d_K_worthOfTwo_19 : decode c_K_worthOfTwo 19 = .ok (.lload 4, 2) := by decide +kernel
theorem d_K_worthOfTwo_21 : decode c_K_worthOfTwo 21 = .ok (.lreturn, 1) := by decide +kernel
theorem d_K_worthOfTwo_22 : decode c_K_worthOfTwo 22 = .ok (.aload_n 0, 1) := by decide +kernel
theorem d_K_worthOfTwo_23 : decode c_K_worthOfTwo 23 = .ok (.aload_n 0, 1) := by decide +kernel
theorem d_K_worthOfTwo_24 : decode c_K_worthOfTwo 24 = .ok (.getfield 9, 3) := by decide +kernel
theorem d_K_worthOfTwo_27 : decode c_K_worthOfTwo 27 = .ok (.iload_n 1, 1) := by decide +kernel
theorem d_K_worthOfTwo_28 : decode c_K_worthOfTwo 28 = .ok (.invokevirtual 72, 3) := by decide +kernel
theorem d_K_worthOfTwo_31 : decode c_K_worthOfTwo 31 = .ok (.invokevirtual 42, 3) := by decide +kernel
theorem d_K_worthOfTwo_34 : decode c_K_worthOfTwo 34 = .ok (.lstore 6, 2) := by decide +kernel
theorem d_K_worthOfTwo_36 : decode c_K_worthOfTwo 36 = .ok (.iload_n 3, 1) := by decide +kernel
theorem d_K_worthOfTwo_37 : decode c_K_worthOfTwo 37 = .ok (.iconst 2, 1) := by decide +kernel
theorem d_K_worthOfTwo_38 : decode c_K_worthOfTwo 38 = .ok (.if_icmp .ne 7, 3) := by decide +kernel
theorem d_K_worthOfTwo_41 : decode c_K_worthOfTwo 41 = .ok (.iconst 1, 1) := by decide +kernel
theorem d_K_worthOfTwo_42 : decode c_K_worthOfTwo 42 = .ok (.goto 4, 3) := by decide +kernel
theorem d_K_worthOfTwo_45 : decode c_K_worthOfTwo 45 = .ok (.iconst 0, 1) := by decide +kernel
theorem d_K_worthOfTwo_46 : decode c_K_worthOfTwo 46 = .ok (.istore 8, 2) := by decide +kernel
theorem d_K_worthOfTwo_48 : decode c_K_worthOfTwo 48 = .ok (.iload_n 2, 1) := by decide +kernel
theorem d_K_worthOfTwo_49 : decode c_K_worthOfTwo 49 = .ok (.tableswitch 102 3 6 #[31, 50, 69, 75], 31) := by decide +kernel
theorem d_K_worthOfTwo_80 : decode c_K_worthOfTwo 80 = .ok (.iload 8, 2) := by decide +kernel
theorem d_K_worthOfTwo_82 : decode c_K_worthOfTwo 82 = .ok (.ifCond .eq 11, 3) := by decide +kernel
theorem d_K_worthOfTwo_85 : decode c_K_worthOfTwo 85 = .ok (.lload 4, 2) := by decide +kernel
theorem d_K_worthOfTwo_87 : decode c_K_worthOfTwo 87 = .ok (.lload 6, 2) := by decide +kernel
theorem d_K_worthOfTwo_89 : decode c_K_worthOfTwo 89 = .ok (.lsub, 1) := by decide +kernel
theorem d_K_worthOfTwo_90 : decode c_K_worthOfTwo 90 = .ok (.goto 8, 3) := by decide +kernel
theorem d_K_worthOfTwo_93 : decode c_K_worthOfTwo 93 = .ok (.lload 4, 2) := by decide +kernel
theorem d_K_worthOfTwo_95 : decode c_K_worthOfTwo 95 = .ok (.lload 6, 2) := by decide +kernel
theorem d_K_worthOfTwo_97 : decode c_K_worthOfTwo 97 = .ok (.ladd, 1) := by decide +kernel
theorem d_K_worthOfTwo_98 : decode c_K_worthOfTwo 98 = .ok (.lreturn, 1) := by decide +kernel
theorem d_K_worthOfTwo_99 : decode c_K_worthOfTwo 99 = .ok (.iload 8, 2) := by decide +kernel
theorem d_K_worthOfTwo_101 : decode c_K_worthOfTwo 101 = .ok (.ifCond .eq 11, 3) := by decide +kernel
theorem d_K_worthOfTwo_104 : decode c_K_worthOfTwo 104 = .ok (.lload 4, 2) := by decide +kernel
theorem d_K_worthOfTwo_106 : decode c_K_worthOfTwo 106 = .ok (.lload 6, 2) := by decide +kernel
theorem d_K_worthOfTwo_108 : decode c_K_worthOfTwo 108 = .ok (.ladd, 1) := by decide +kernel
theorem d_K_worthOfTwo_109 : decode c_K_worthOfTwo 109 = .ok (.goto 8, 3) := by decide +kernel
theorem d_K_worthOfTwo_112 : decode c_K_worthOfTwo 112 = .ok (.lload 4, 2) := by decide +kernel
theorem d_K_worthOfTwo_114 : decode c_K_worthOfTwo 114 = .ok (.lload 6, 2) := by decide +kernel
theorem d_K_worthOfTwo_116 : decode c_K_worthOfTwo 116 = .ok (.lsub, 1) := by decide +kernel
theorem d_K_worthOfTwo_117 : decode c_K_worthOfTwo 117 = .ok (.lreturn, 1) := by decide +kernel
theorem d_K_worthOfTwo_118 : decode c_K_worthOfTwo 118 = .ok (.lload 4, 2) := by decide +kernel
theorem d_K_worthOfTwo_120 : decode c_K_worthOfTwo 120 = .ok (.lload 6, 2) := by decide +kernel
theorem d_K_worthOfTwo_122 : decode c_K_worthOfTwo 122 = .ok (.lmul, 1) := by decide +kernel
theorem d_K_worthOfTwo_123 : decode c_K_worthOfTwo 123 = .ok (.lreturn, 1) := by decide +kernel
theorem d_K_worthOfTwo_124 : decode c_K_worthOfTwo 124 = .ok (.lload 4, 2) := by decide +kernel
theorem d_K_worthOfTwo_126 : decode c_K_worthOfTwo 126 = .ok (.lload 6, 2) := by decide +kernel
theorem d_K_worthOfTwo_128 : decode c_K_worthOfTwo 128 = .ok (.lcmp, 1) := by decide +kernel
theorem d_K_worthOfTwo_129 : decode c_K_worthOfTwo 129 = .ok (.ifCond .lt 16, 3) := by decide +kernel
theorem d_K_worthOfTwo_132 : decode c_K_worthOfTwo 132 = .ok (.iload_n 3, 1) := by decide +kernel
theorem d_K_worthOfTwo_133 : decode c_K_worthOfTwo 133 = .ok (.iconst 1, 1) := by decide +kernel
theorem d_K_worthOfTwo_134 : decode c_K_worthOfTwo 134 = .ok (.if_icmp .ne 15, 3) := by decide +kernel
theorem d_K_worthOfTwo_137 : decode c_K_worthOfTwo 137 = .ok (.lload 4, 2) := by decide +kernel
theorem d_K_worthOfTwo_139 : decode c_K_worthOfTwo 139 = .ok (.lload 6, 2) := by decide +kernel
theorem d_K_worthOfTwo_141 : decode c_K_worthOfTwo 141 = .ok (.lcmp, 1) := by decide +kernel
theorem d_K_worthOfTwo_142 : decode c_K_worthOfTwo 142 = .ok (.ifCond .ne 7, 3) := by decide +kernel
theorem d_K_worthOfTwo_145 : decode c_K_worthOfTwo 145 = .ok (.lconst 1, 1) := by decide +kernel
theorem d_K_worthOfTwo_146 : decode c_K_worthOfTwo 146 = .ok (.goto 4, 3) := by decide +kernel
theorem d_K_worthOfTwo_149 : decode c_K_worthOfTwo 149 = .ok (.lconst 0, 1) := by decide +kernel
theorem d_K_worthOfTwo_150 : decode c_K_worthOfTwo 150 = .ok (.lreturn, 1) := by decide +kernel
theorem d_K_worthOfTwo_151 : decode c_K_worthOfTwo 151 = .ok (.lload 4, 2) := by decide +kernel
theorem d_K_worthOfTwo_153 : decode c_K_worthOfTwo 153 = .ok (.lload 6, 2) := by decide +kernel
theorem d_K_worthOfTwo_155 : decode c_K_worthOfTwo 155 = .ok (.lcmp, 1) := by decide +kernel
theorem d_K_worthOfTwo_156 : decode c_K_worthOfTwo 156 = .ok (.ifCond .ne 7, 3) := by decide +kernel
theorem d_K_worthOfTwo_159 : decode c_K_worthOfTwo 159 = .ok (.iconst 1, 1) := by decide +kernel
theorem d_K_worthOfTwo_160 : decode c_K_worthOfTwo 160 = .ok (.goto 4, 3) := by decide +kernel
theorem d_K_worthOfTwo_163 : decode c_K_worthOfTwo 163 = .ok (.iconst 0, 1) := by decide +kernel
theorem d_K_worthOfTwo_164 : decode c_K_worthOfTwo 164 = .ok (.iload_n 3, 1) := by decide +kernel
theorem d_K_worthOfTwo_165 : decode c_K_worthOfTwo 165 = .ok (.iconst 5, 1) := by decide +kernel
theorem d_K_worthOfTwo_166 : decode c_K_worthOfTwo 166 = .ok (.if_icmp .ne 7, 3) := by decide +kernel
theorem d_K_worthOfTwo_169 : decode c_K_worthOfTwo 169 = .ok (.iconst 1, 1) := by decide +kernel
theorem d_K_worthOfTwo_170 : decode c_K_worthOfTwo 170 = .ok (.goto 4, 3) := by decide +kernel
theorem d_K_worthOfTwo_173 : decode c_K_worthOfTwo 173 = .ok (.iconst 0, 1) := by decide +kernel
theorem d_K_worthOfTwo_174 : decode c_K_worthOfTwo 174 = .ok (.if_icmp .eq 7, 3) := by decide +kernel
theorem d_K_worthOfTwo_177 : decode c_K_worthOfTwo 177 = .ok (.lconst 1, 1) := by decide +kernel
theorem d_K_worthOfTwo_178 : decode c_K_worthOfTwo 178 = .ok (.goto 4, 3) := by decide +kernel
theorem d_K_worthOfTwo_181 : decode c_K_worthOfTwo 181 = .ok (.lconst 0, 1) := by decide +kernel
theorem d_K_worthOfTwo_182 : decode c_K_worthOfTwo 182 = .ok (.lreturn, 1) := by decide +kernel
theorem d_K_isCut_0 : decode c_K_isCut 0 = .ok (.aload_n 0, 1) := by decide +kernel
theorem d_K_isCut_1 : decode c_K_isCut 1 = .ok (.getfield 25, 3) := by decide +kernel
theorem d_K_isCut_4 : decode c_K_isCut 4 = .ok (.ireturn, 1) := by decide +kernel
theorem d_K_steps_0 : decode c_K_steps 0 = .ok (.aload_n 0, 1) := by decide +kernel
theorem d_K_steps_1 : decode c_K_steps 1 = .ok (.getfield 22, 3) := by decide +kernel
theorem d_K_steps_4 : decode c_K_steps 4 = .ok (.ireturn, 1) := by decide +kernel
theorem d_K_covered_0 : decode c_K_covered 0 = .ok (.aload_n 0, 1) := by decide +kernel
theorem d_K_covered_1 : decode c_K_covered 1 = .ok (.getfield 29, 3) := by decide +kernel
theorem d_K_covered_4 : decode c_K_covered 4 = .ok (.lreturn, 1) := by decide +kernel
theorem d_M_about_0 : decode c_M_about 0 = .ok (.aload_n 0, 1) := by decide +kernel
theorem d_M_about_1 : decode c_M_about 1 = .ok (.getfield 21, 3) := by decide +kernel
theorem d_M_about_4 : decode c_M_about 4 = .ok (.iload_n 1, 1) := by decide +kernel
theorem d_M_about_5 : decode c_M_about 5 = .ok (.invokevirtual 60, 3) := by decide +kernel
theorem d_M_about_8 : decode c_M_about 8 = .ok (.ifCond .ne 5, 3) := by decide +kernel
theorem d_M_about_11 : decode c_M_about 11 = .ok (.iconst (-1), 1) := by decide +kernel
theorem d_M_about_12 : decode c_M_about 12 = .ok (.ireturn, 1) := by decide +kernel
theorem d_M_about_13 : decode c_M_about 13 = .ok (.iload_n 2, 1) := by decide +kernel
theorem d_M_about_14 : decode c_M_about 14 = .ok (.tableswitch 56 0 2 #[26, 35, 44], 26) := by decide +kernel
theorem d_M_about_40 : decode c_M_about 40 = .ok (.aload_n 0, 1) := by decide +kernel
theorem d_M_about_41 : decode c_M_about 41 = .ok (.getfield 21, 3) := by decide +kernel
theorem d_M_about_44 : decode c_M_about 44 = .ok (.iload_n 1, 1) := by decide +kernel
theorem d_M_about_45 : decode c_M_about 45 = .ok (.invokevirtual 61, 3) := by decide +kernel
theorem d_M_about_48 : decode c_M_about 48 = .ok (.ireturn, 1) := by decide +kernel
theorem d_M_about_49 : decode c_M_about 49 = .ok (.aload_n 0, 1) := by decide +kernel
theorem d_M_about_50 : decode c_M_about 50 = .ok (.getfield 21, 3) := by decide +kernel
theorem d_M_about_53 : decode c_M_about 53 = .ok (.iload_n 1, 1) := by decide +kernel
theorem d_M_about_54 : decode c_M_about 54 = .ok (.invokevirtual 65, 3) := by decide +kernel
theorem d_M_about_57 : decode c_M_about 57 = .ok (.ireturn, 1) := by decide +kernel
theorem d_M_about_58 : decode c_M_about 58 = .ok (.aload_n 0, 1) := by decide +kernel
theorem d_M_about_59 : decode c_M_about 59 = .ok (.getfield 21, 3) := by decide +kernel
theorem d_M_about_62 : decode c_M_about 62 = .ok (.iload_n 1, 1) := by decide +kernel
theorem d_M_about_63 : decode c_M_about 63 = .ok (.invokevirtual 68, 3) := by decide +kernel
theorem d_M_about_66 : decode c_M_about 66 = .ok (.invokestatic 72, 3) := by decide +kernel
theorem d_M_about_69 : decode c_M_about 69 = .ok (.ireturn, 1) := by decide +kernel
theorem d_M_about_70 : decode c_M_about 70 = .ok (.iconst (-1), 1) := by decide +kernel
theorem d_M_about_71 : decode c_M_about 71 = .ok (.ireturn, 1) := by decide +kernel
theorem d_U_has_0 : decode c_U_has 0 = .ok (.iload_n 1, 1) := by decide +kernel
theorem d_U_has_1 : decode c_U_has 1 = .ok (.ifCond .lt 15, 3) := by decide +kernel
theorem d_U_has_4 : decode c_U_has 4 = .ok (.iload_n 1, 1) := by decide +kernel
theorem d_U_has_5 : decode c_U_has 5 = .ok (.aload_n 0, 1) := by decide +kernel
theorem d_U_has_6 : decode c_U_has 6 = .ok (.getfield 40, 3) := by decide +kernel
theorem d_U_has_9 : decode c_U_has 9 = .ok (.if_icmp .ge 7, 3) := by decide +kernel
theorem d_U_has_12 : decode c_U_has 12 = .ok (.iconst 1, 1) := by decide +kernel
theorem d_U_has_13 : decode c_U_has 13 = .ok (.goto 4, 3) := by decide +kernel
theorem d_U_has_16 : decode c_U_has 16 = .ok (.iconst 0, 1) := by decide +kernel
theorem d_U_has_17 : decode c_U_has 17 = .ok (.ireturn, 1) := by decide +kernel
theorem d_U_stateOf_0 : decode c_U_stateOf 0 = .ok (.aload_n 0, 1) := by decide +kernel
theorem d_U_stateOf_1 : decode c_U_stateOf 1 = .ok (.getfield 31, 3) := by decide +kernel
theorem d_U_stateOf_4 : decode c_U_stateOf 4 = .ok (.iload_n 1, 1) := by decide +kernel
theorem d_U_stateOf_5 : decode c_U_stateOf 5 = .ok (.iaload, 1) := by decide +kernel
theorem d_U_stateOf_6 : decode c_U_stateOf 6 = .ok (.ireturn, 1) := by decide +kernel
theorem d_U_stepsOf_0 : decode c_U_stepsOf 0 = .ok (.aload_n 0, 1) := by decide +kernel
theorem d_U_stepsOf_1 : decode c_U_stepsOf 1 = .ok (.getfield 34, 3) := by decide +kernel
theorem d_U_stepsOf_4 : decode c_U_stepsOf 4 = .ok (.iload_n 1, 1) := by decide +kernel
theorem d_U_stepsOf_5 : decode c_U_stepsOf 5 = .ok (.iaload, 1) := by decide +kernel
theorem d_U_stepsOf_6 : decode c_U_stepsOf 6 = .ok (.ireturn, 1) := by decide +kernel
theorem d_U_coveredBy_0 : decode c_U_coveredBy 0 = .ok (.aload_n 0, 1) := by decide +kernel
theorem d_U_coveredBy_1 : decode c_U_coveredBy 1 = .ok (.getfield 37, 3) := by decide +kernel
theorem d_U_coveredBy_4 : decode c_U_coveredBy 4 = .ok (.iload_n 1, 1) := by decide +kernel
theorem d_U_coveredBy_5 : decode c_U_coveredBy 5 = .ok (.laload, 1) := by decide +kernel
theorem d_U_coveredBy_6 : decode c_U_coveredBy 6 = .ok (.lreturn, 1) := by decide +kernel
theorem d_J_bitCount_0 : decode c_J_bitCount 0 = .ok (.lload_n 0, 1) := by decide +kernel
theorem d_J_bitCount_1 : decode c_J_bitCount 1 = .ok (.lload_n 0, 1) := by decide +kernel
theorem d_J_bitCount_2 : decode c_J_bitCount 2 = .ok (.iconst 1, 1) := by decide +kernel
theorem d_J_bitCount_3 : decode c_J_bitCount 3 = .ok (.lushr, 1) := by decide +kernel
theorem d_J_bitCount_4 : decode c_J_bitCount 4 = .ok (.ldc2_w 314, 3) := by decide +kernel
theorem d_J_bitCount_7 : decode c_J_bitCount 7 = .ok (.land, 1) := by decide +kernel
theorem d_J_bitCount_8 : decode c_J_bitCount 8 = .ok (.lsub, 1) := by decide +kernel
theorem d_J_bitCount_9 : decode c_J_bitCount 9 = .ok (.lstore_n 0, 1) := by decide +kernel
theorem d_J_bitCount_10 : decode c_J_bitCount 10 = .ok (.lload_n 0, 1) := by decide +kernel
theorem d_J_bitCount_11 : decode c_J_bitCount 11 = .ok (.ldc2_w 316, 3) := by decide +kernel
theorem d_J_bitCount_14 : decode c_J_bitCount 14 = .ok (.land, 1) := by decide +kernel
theorem d_J_bitCount_15 : decode c_J_bitCount 15 = .ok (.lload_n 0, 1) := by decide +kernel
theorem d_J_bitCount_16 : decode c_J_bitCount 16 = .ok (.iconst 2, 1) := by decide +kernel
theorem d_J_bitCount_17 : decode c_J_bitCount 17 = .ok (.lushr, 1) := by decide +kernel
theorem d_J_bitCount_18 : decode c_J_bitCount 18 = .ok (.ldc2_w 316, 3) := by decide +kernel
theorem d_J_bitCount_21 : decode c_J_bitCount 21 = .ok (.land, 1) := by decide +kernel
theorem d_J_bitCount_22 : decode c_J_bitCount 22 = .ok (.ladd, 1) := by decide +kernel
theorem d_J_bitCount_23 : decode c_J_bitCount 23 = .ok (.lstore_n 0, 1) := by decide +kernel
theorem d_J_bitCount_24 : decode c_J_bitCount 24 = .ok (.lload_n 0, 1) := by decide +kernel
theorem d_J_bitCount_25 : decode c_J_bitCount 25 = .ok (.lload_n 0, 1) := by decide +kernel
theorem d_J_bitCount_26 : decode c_J_bitCount 26 = .ok (.iconst 4, 1) := by decide +kernel
theorem d_J_bitCount_27 : decode c_J_bitCount 27 = .ok (.lushr, 1) := by decide +kernel
theorem d_J_bitCount_28 : decode c_J_bitCount 28 = .ok (.ladd, 1) := by decide +kernel
theorem d_J_bitCount_29 : decode c_J_bitCount 29 = .ok (.ldc2_w 318, 3) := by decide +kernel
theorem d_J_bitCount_32 : decode c_J_bitCount 32 = .ok (.land, 1) := by decide +kernel
theorem d_J_bitCount_33 : decode c_J_bitCount 33 = .ok (.lstore_n 0, 1) := by decide +kernel
theorem d_J_bitCount_34 : decode c_J_bitCount 34 = .ok (.lload_n 0, 1) := by decide +kernel
theorem d_J_bitCount_35 : decode c_J_bitCount 35 = .ok (.lload_n 0, 1) := by decide +kernel
theorem d_J_bitCount_36 : decode c_J_bitCount 36 = .ok (.bipush 8, 2) := by decide +kernel
theorem d_J_bitCount_38 : decode c_J_bitCount 38 = .ok (.lushr, 1) := by decide +kernel
theorem d_J_bitCount_39 : decode c_J_bitCount 39 = .ok (.ladd, 1) := by decide +kernel
theorem d_J_bitCount_40 : decode c_J_bitCount 40 = .ok (.lstore_n 0, 1) := by decide +kernel
theorem d_J_bitCount_41 : decode c_J_bitCount 41 = .ok (.lload_n 0, 1) := by decide +kernel
theorem d_J_bitCount_42 : decode c_J_bitCount 42 = .ok (.lload_n 0, 1) := by decide +kernel
theorem d_J_bitCount_43 : decode c_J_bitCount 43 = .ok (.bipush 16, 2) := by decide +kernel
theorem d_J_bitCount_45 : decode c_J_bitCount 45 = .ok (.lushr, 1) := by decide +kernel
theorem d_J_bitCount_46 : decode c_J_bitCount 46 = .ok (.ladd, 1) := by decide +kernel
theorem d_J_bitCount_47 : decode c_J_bitCount 47 = .ok (.lstore_n 0, 1) := by decide +kernel
theorem d_J_bitCount_48 : decode c_J_bitCount 48 = .ok (.lload_n 0, 1) := by decide +kernel
theorem d_J_bitCount_49 : decode c_J_bitCount 49 = .ok (.lload_n 0, 1) := by decide +kernel
theorem d_J_bitCount_50 : decode c_J_bitCount 50 = .ok (.bipush 32, 2) := by decide +kernel
theorem d_J_bitCount_52 : decode c_J_bitCount 52 = .ok (.lushr, 1) := by decide +kernel
theorem d_J_bitCount_53 : decode c_J_bitCount 53 = .ok (.ladd, 1) := by decide +kernel
theorem d_J_bitCount_54 : decode c_J_bitCount 54 = .ok (.lstore_n 0, 1) := by decide +kernel
theorem d_J_bitCount_55 : decode c_J_bitCount 55 = .ok (.lload_n 0, 1) := by decide +kernel
theorem d_J_bitCount_56 : decode c_J_bitCount 56 = .ok (.l2i, 1) := by decide +kernel
theorem d_J_bitCount_57 : decode c_J_bitCount 57 = .ok (.bipush 127, 2) := by decide +kernel
theorem d_J_bitCount_59 : decode c_J_bitCount 59 = .ok (.iand, 1) := by decide +kernel
theorem d_J_bitCount_60 : decode c_J_bitCount 60 = .ok (.ireturn, 1) := by decide +kernel
theorem d_M_make_0 : decode c_M_make 0 = .ok (.iload_n 1, 1) := by decide +kernel
theorem d_M_make_1 : decode c_M_make 1 = .ok (.invokestatic 78, 3) := by decide +kernel
theorem d_M_make_4 : decode c_M_make 4 = .ok (.ifCond .ne 5, 3) := by decide +kernel
theorem d_M_make_7 : decode c_M_make 7 = .ok (.iconst (-1), 1) := by decide +kernel
theorem d_M_make_8 : decode c_M_make 8 = .ok (.ireturn, 1) := by decide +kernel
theorem d_M_make_9 : decode c_M_make 9 = .ok (.aload_n 0, 1) := by decide +kernel
theorem d_M_make_10 : decode c_M_make 10 = .ok (.getfield 21, 3) := by decide +kernel
theorem d_M_make_13 : decode c_M_make 13 = .ok (.invokevirtual 81, 3) := by decide +kernel
theorem d_M_make_16 : decode c_M_make 16 = .ok (.lstore_n 2, 1) := by decide +kernel
theorem d_M_make_17 : decode c_M_make 17 = .ok (.aload_n 0, 1) := by decide +kernel
theorem d_M_make_18 : decode c_M_make 18 = .ok (.getfield 28, 3) := by decide +kernel
theorem d_M_make_21 : decode c_M_make 21 = .ok (.invokevirtual 85, 3) := by decide +kernel
theorem d_M_make_24 : decode c_M_make 24 = .ok (.istore 4, 2) := by decide +kernel
theorem d_M_make_26 : decode c_M_make 26 = .ok (.iconst 0, 1) := by decide +kernel
theorem d_M_make_27 : decode c_M_make 27 = .ok (.istore 5, 2) := by decide +kernel
theorem d_M_make_29 : decode c_M_make 29 = .ok (.iload 5, 2) := by decide +kernel
theorem d_M_make_31 : decode c_M_make 31 = .ok (.aload_n 0, 1) := by decide +kernel
theorem d_M_make_32 : decode c_M_make 32 = .ok (.getfield 10, 3) := by decide +kernel
theorem d_M_make_35 : decode c_M_make 35 = .ok (.invokevirtual 89, 3) := by decide +kernel
theorem d_M_make_38 : decode c_M_make 38 = .ok (.if_icmp .ge 47, 3) := by decide +kernel
theorem d_M_make_41 : decode c_M_make 41 = .ok (.lload_n 2, 1) := by decide +kernel
theorem d_M_make_42 : decode c_M_make 42 = .ok (.iload 5, 2) := by decide +kernel
theorem d_M_make_44 : decode c_M_make 44 = .ok (.invokestatic 90, 3) := by decide +kernel
theorem d_M_make_47 : decode c_M_make 47 = .ok (.land, 1) := by decide +kernel
theorem d_M_make_48 : decode c_M_make 48 = .ok (.lconst 0, 1) := by decide +kernel
theorem d_M_make_49 : decode c_M_make 49 = .ok (.lcmp, 1) := by decide +kernel
theorem d_M_make_50 : decode c_M_make 50 = .ok (.ifCond .eq 29, 3) := by decide +kernel
theorem d_M_make_53 : decode c_M_make 53 = .ok (.iload_n 1, 1) := by decide +kernel
theorem d_M_make_54 : decode c_M_make 54 = .ok (.aload_n 0, 1) := by decide +kernel
theorem d_M_make_55 : decode c_M_make 55 = .ok (.getfield 10, 3) := by decide +kernel
theorem d_M_make_58 : decode c_M_make 58 = .ok (.iload 5, 2) := by decide +kernel
theorem d_M_make_60 : decode c_M_make 60 = .ok (.invokevirtual 93, 3) := by decide +kernel
theorem d_M_make_63 : decode c_M_make 63 = .ok (.invokestatic 96, 3) := by decide +kernel
theorem d_M_make_66 : decode c_M_make 66 = .ok (.ifCond .eq 13, 3) := by decide +kernel
theorem d_M_make_69 : decode c_M_make 69 = .ok (.aload_n 0, 1) := by decide +kernel
theorem d_M_make_70 : decode c_M_make 70 = .ok (.getfield 28, 3) := by decide +kernel
theorem d_M_make_73 : decode c_M_make 73 = .ok (.iload_n 1, 1) := by decide +kernel
theorem d_M_make_74 : decode c_M_make 74 = .ok (.iload 5, 2) := by decide +kernel
theorem d_M_make_76 : decode c_M_make 76 = .ok (.invokevirtual 100, 3) := by decide +kernel
theorem d_M_make_79 : decode c_M_make 79 = .ok (.iinc 5 1, 3) := by decide +kernel
theorem d_M_make_82 : decode c_M_make 82 = .ok (.goto (-53), 3) := by decide +kernel
theorem d_M_make_85 : decode c_M_make 85 = .ok (.aload_n 0, 1) := by decide +kernel
theorem d_M_make_86 : decode c_M_make 86 = .ok (.getfield 28, 3) := by decide +kernel
theorem d_M_make_89 : decode c_M_make 89 = .ok (.invokevirtual 85, 3) := by decide +kernel
theorem d_M_make_92 : decode c_M_make 92 = .ok (.iload 4, 2) := by decide +kernel
theorem d_M_make_94 : decode c_M_make 94 = .ok (.isub, 1) := by decide +kernel
theorem d_M_make_95 : decode c_M_make 95 = .ok (.ireturn, 1) := by decide +kernel
theorem d_M_isMutantKind_0 : decode c_M_isMutantKind 0 = .ok (.iload_n 0, 1) := by decide +kernel
theorem d_M_isMutantKind_1 : decode c_M_isMutantKind 1 = .ok (.ifCond .lt 13, 3) := by decide +kernel
theorem d_M_isMutantKind_4 : decode c_M_isMutantKind 4 = .ok (.iload_n 0, 1) := by decide +kernel
theorem d_M_isMutantKind_5 : decode c_M_isMutantKind 5 = .ok (.bipush 6, 2) := by decide +kernel
theorem d_M_isMutantKind_7 : decode c_M_isMutantKind 7 = .ok (.if_icmp .ge 7, 3) := by decide +kernel
theorem d_M_isMutantKind_10 : decode c_M_isMutantKind 10 = .ok (.iconst 1, 1) := by decide +kernel
theorem d_M_isMutantKind_11 : decode c_M_isMutantKind 11 = .ok (.goto 4, 3) := by decide +kernel
theorem d_M_isMutantKind_14 : decode c_M_isMutantKind 14 = .ok (.iconst 0, 1) := by decide +kernel
theorem d_M_isMutantKind_15 : decode c_M_isMutantKind 15 = .ok (.ireturn, 1) := by decide +kernel
theorem d_U_coveredByPassing_0 : decode c_U_coveredByPassing 0 = .ok (.lconst 0, 1) := by decide +kernel
theorem d_U_coveredByPassing_1 : decode c_U_coveredByPassing 1 = .ok (.lstore_n 1, 1) := by decide +kernel
theorem d_U_coveredByPassing_2 : decode c_U_coveredByPassing 2 = .ok (.iconst 0, 1) := by decide +kernel
theorem d_U_coveredByPassing_3 : decode c_U_coveredByPassing 3 = .ok (.istore_n 3, 1) := by decide +kernel
theorem d_U_coveredByPassing_4 : decode c_U_coveredByPassing 4 = .ok (.iload_n 3, 1) := by decide +kernel
theorem d_U_coveredByPassing_5 : decode c_U_coveredByPassing 5 = .ok (.aload_n 0, 1) := by decide +kernel
theorem d_U_coveredByPassing_6 : decode c_U_coveredByPassing 6 = .ok (.getfield 40, 3) := by decide +kernel
theorem d_U_coveredByPassing_9 : decode c_U_coveredByPassing 9 = .ok (.if_icmp .ge 28, 3) := by decide +kernel
theorem d_U_coveredByPassing_12 : decode c_U_coveredByPassing 12 = .ok (.aload_n 0, 1) := by decide +kernel
theorem d_U_coveredByPassing_13 : decode c_U_coveredByPassing 13 = .ok (.getfield 31, 3) := by decide +kernel
theorem d_U_coveredByPassing_16 : decode c_U_coveredByPassing 16 = .ok (.iload_n 3, 1) := by decide +kernel
theorem d_U_coveredByPassing_17 : decode c_U_coveredByPassing 17 = .ok (.iaload, 1) := by decide +kernel
theorem d_U_coveredByPassing_18 : decode c_U_coveredByPassing 18 = .ok (.iconst 1, 1) := by decide +kernel
theorem d_U_coveredByPassing_19 : decode c_U_coveredByPassing 19 = .ok (.if_icmp .ne 12, 3) := by decide +kernel
theorem d_U_coveredByPassing_22 : decode c_U_coveredByPassing 22 = .ok (.lload_n 1, 1) := by decide +kernel
theorem d_U_coveredByPassing_23 : decode c_U_coveredByPassing 23 = .ok (.aload_n 0, 1) := by decide +kernel
theorem d_U_coveredByPassing_24 : decode c_U_coveredByPassing 24 = .ok (.getfield 37, 3) := by decide +kernel
theorem d_U_coveredByPassing_27 : decode c_U_coveredByPassing 27 = .ok (.iload_n 3, 1) := by decide +kernel
theorem d_U_coveredByPassing_28 : decode c_U_coveredByPassing 28 = .ok (.laload, 1) := by decide +kernel
theorem d_U_coveredByPassing_29 : decode c_U_coveredByPassing 29 = .ok (.lor, 1) := by decide +kernel
theorem d_U_coveredByPassing_30 : decode c_U_coveredByPassing 30 = .ok (.lstore_n 1, 1) := by decide +kernel
theorem d_U_coveredByPassing_31 : decode c_U_coveredByPassing 31 = .ok (.iinc 3 1, 3) := by decide +kernel
theorem d_U_coveredByPassing_34 : decode c_U_coveredByPassing 34 = .ok (.goto (-30), 3) := by decide +kernel
theorem d_U_coveredByPassing_37 : decode c_U_coveredByPassing 37 = .ok (.lload_n 1, 1) := by decide +kernel
theorem d_U_coveredByPassing_38 : decode c_U_coveredByPassing 38 = .ok (.lreturn, 1) := by decide +kernel
theorem d_N_size_0 : decode c_N_size 0 = .ok (.aload_n 0, 1) := by decide +kernel
theorem d_N_size_1 : decode c_N_size 1 = .ok (.getfield 32, 3) := by decide +kernel
theorem d_N_size_4 : decode c_N_size 4 = .ok (.ireturn, 1) := by decide +kernel
theorem d_T_size_0 : decode c_T_size 0 = .ok (.aload_n 0, 1) := by decide +kernel
theorem d_T_size_1 : decode c_T_size 1 = .ok (.getfield 34, 3) := by decide +kernel
theorem d_T_size_4 : decode c_T_size 4 = .ok (.ireturn, 1) := by decide +kernel
theorem d_M_fits_0 : decode c_M_fits 0 = .ok (.iload_n 0, 1) := by decide +kernel
theorem d_M_fits_1 : decode c_M_fits 1 = .ok (.tableswitch 122 0 5 #[39, 49, 61, 77, 89, 110], 39) := by decide +kernel
theorem d_M_fits_40 : decode c_M_fits 40 = .ok (.iload_n 1, 1) := by decide +kernel
theorem d_M_fits_41 : decode c_M_fits 41 = .ok (.ifCond .ne 7, 3) := by decide +kernel
theorem d_M_fits_44 : decode c_M_fits 44 = .ok (.iconst 1, 1) := by decide +kernel
theorem d_M_fits_45 : decode c_M_fits 45 = .ok (.goto 4, 3) := by decide +kernel
theorem d_M_fits_48 : decode c_M_fits 48 = .ok (.iconst 0, 1) := by decide +kernel
theorem d_M_fits_49 : decode c_M_fits 49 = .ok (.ireturn, 1) := by decide +kernel
theorem d_M_fits_50 : decode c_M_fits 50 = .ok (.iload_n 1, 1) := by decide +kernel
theorem d_M_fits_51 : decode c_M_fits 51 = .ok (.bipush 6, 2) := by decide +kernel
theorem d_M_fits_53 : decode c_M_fits 53 = .ok (.if_icmp .ne 7, 3) := by decide +kernel
theorem d_M_fits_56 : decode c_M_fits 56 = .ok (.iconst 1, 1) := by decide +kernel
theorem d_M_fits_57 : decode c_M_fits 57 = .ok (.goto 4, 3) := by decide +kernel
theorem d_M_fits_60 : decode c_M_fits 60 = .ok (.iconst 0, 1) := by decide +kernel
theorem d_M_fits_61 : decode c_M_fits 61 = .ok (.ireturn, 1) := by decide +kernel
theorem d_M_fits_62 : decode c_M_fits 62 = .ok (.iload_n 1, 1) := by decide +kernel
theorem d_M_fits_63 : decode c_M_fits 63 = .ok (.iconst 3, 1) := by decide +kernel
theorem d_M_fits_64 : decode c_M_fits 64 = .ok (.if_icmp .eq 8, 3) := by decide +kernel
theorem d_M_fits_67 : decode c_M_fits 67 = .ok (.iload_n 1, 1) := by decide +kernel
theorem d_M_fits_68 : decode c_M_fits 68 = .ok (.iconst 4, 1) := by decide +kernel
theorem d_M_fits_69 : decode c_M_fits 69 = .ok (.if_icmp .ne 7, 3) := by decide +kernel
theorem d_M_fits_72 : decode c_M_fits 72 = .ok (.iconst 1, 1) := by decide +kernel
theorem d_M_fits_73 : decode c_M_fits 73 = .ok (.goto 4, 3) := by decide +kernel
theorem d_M_fits_76 : decode c_M_fits 76 = .ok (.iconst 0, 1) := by decide +kernel
theorem d_M_fits_77 : decode c_M_fits 77 = .ok (.ireturn, 1) := by decide +kernel
theorem d_M_fits_78 : decode c_M_fits 78 = .ok (.iload_n 1, 1) := by decide +kernel
theorem d_M_fits_79 : decode c_M_fits 79 = .ok (.bipush 8, 2) := by decide +kernel
theorem d_M_fits_81 : decode c_M_fits 81 = .ok (.if_icmp .ne 7, 3) := by decide +kernel
theorem d_M_fits_84 : decode c_M_fits 84 = .ok (.iconst 1, 1) := by decide +kernel
theorem d_M_fits_85 : decode c_M_fits 85 = .ok (.goto 4, 3) := by decide +kernel
theorem d_M_fits_88 : decode c_M_fits 88 = .ok (.iconst 0, 1) := by decide +kernel
theorem d_M_fits_89 : decode c_M_fits 89 = .ok (.ireturn, 1) := by decide +kernel
theorem d_M_fits_90 : decode c_M_fits 90 = .ok (.iload_n 1, 1) := by decide +kernel
theorem d_M_fits_91 : decode c_M_fits 91 = .ok (.iconst 3, 1) := by decide +kernel
theorem d_M_fits_92 : decode c_M_fits 92 = .ok (.if_icmp .eq 13, 3) := by decide +kernel
theorem d_M_fits_95 : decode c_M_fits 95 = .ok (.iload_n 1, 1) := by decide +kernel
theorem d_M_fits_96 : decode c_M_fits 96 = .ok (.iconst 4, 1) := by decide +kernel
theorem d_M_fits_97 : decode c_M_fits 97 = .ok (.if_icmp .eq 8, 3) := by decide +kernel
theorem d_M_fits_100 : decode c_M_fits 100 = .ok (.iload_n 1, 1) := by decide +kernel
theorem d_M_fits_101 : decode c_M_fits 101 = .ok (.iconst 5, 1) := by decide +kernel
theorem d_M_fits_102 : decode c_M_fits 102 = .ok (.if_icmp .ne 7, 3) := by decide +kernel
theorem d_M_fits_105 : decode c_M_fits 105 = .ok (.iconst 1, 1) := by decide +kernel
theorem d_M_fits_106 : decode c_M_fits 106 = .ok (.goto 4, 3) := by decide +kernel
theorem d_M_fits_109 : decode c_M_fits 109 = .ok (.iconst 0, 1) := by decide +kernel
theorem d_M_fits_110 : decode c_M_fits 110 = .ok (.ireturn, 1) := by decide +kernel
theorem d_M_fits_111 : decode c_M_fits 111 = .ok (.iload_n 1, 1) := by decide +kernel
theorem d_M_fits_112 : decode c_M_fits 112 = .ok (.bipush 7, 2) := by decide +kernel
theorem d_M_fits_114 : decode c_M_fits 114 = .ok (.if_icmp .ne 7, 3) := by decide +kernel
theorem d_M_fits_117 : decode c_M_fits 117 = .ok (.iconst 1, 1) := by decide +kernel
theorem d_M_fits_118 : decode c_M_fits 118 = .ok (.goto 4, 3) := by decide +kernel
theorem d_M_fits_121 : decode c_M_fits 121 = .ok (.iconst 0, 1) := by decide +kernel
theorem d_M_fits_122 : decode c_M_fits 122 = .ok (.ireturn, 1) := by decide +kernel
theorem d_M_fits_123 : decode c_M_fits 123 = .ok (.iconst 0, 1) := by decide +kernel
theorem d_M_fits_124 : decode c_M_fits 124 = .ok (.ireturn, 1) := by decide +kernel
theorem d_N_add_0 : decode c_N_add 0 = .ok (.aload_n 0, 1) := by decide +kernel
theorem d_N_add_1 : decode c_N_add 1 = .ok (.getfield 32, 3) := by decide +kernel
theorem d_N_add_4 : decode c_N_add 4 = .ok (.bipush 100, 2) := by decide +kernel
theorem d_N_add_6 : decode c_N_add 6 = .ok (.if_icmp .ge 19, 3) := by decide +kernel
theorem d_N_add_9 : decode c_N_add 9 = .ok (.aload_n 0, 1) := by decide +kernel
theorem d_N_add_10 : decode c_N_add 10 = .ok (.getfield 28, 3) := by decide +kernel
theorem d_N_add_13 : decode c_N_add 13 = .ok (.iload_n 1, 1) := by decide +kernel
theorem d_N_add_14 : decode c_N_add 14 = .ok (.laload, 1) := by decide +kernel
theorem d_N_add_15 : decode c_N_add 15 = .ok (.iload_n 2, 1) := by decide +kernel
theorem d_N_add_16 : decode c_N_add 16 = .ok (.invokestatic 36, 3) := by decide +kernel
theorem d_N_add_19 : decode c_N_add 19 = .ok (.land, 1) := by decide +kernel
theorem d_N_add_20 : decode c_N_add 20 = .ok (.lconst 0, 1) := by decide +kernel
theorem d_N_add_21 : decode c_N_add 21 = .ok (.lcmp, 1) := by decide +kernel
theorem d_N_add_22 : decode c_N_add 22 = .ok (.ifCond .eq 4, 3) := by decide +kernel
theorem d_N_add_25 : decode c_N_add 25 = .ok (.return_, 1) := by decide +kernel
theorem d_N_add_26 : decode c_N_add 26 = .ok (.aload_n 0, 1) := by decide +kernel
theorem d_N_add_27 : decode c_N_add 27 = .ok (.getfield 28, 3) := by decide +kernel
theorem d_N_add_30 : decode c_N_add 30 = .ok (.iload_n 1, 1) := by decide +kernel
theorem d_N_add_31 : decode c_N_add 31 = .ok (.dup2, 1) := by decide +kernel
theorem d_N_add_32 : decode c_N_add 32 = .ok (.laload, 1) := by decide +kernel
theorem d_N_add_33 : decode c_N_add 33 = .ok (.iload_n 2, 1) := by decide +kernel
theorem d_N_add_34 : decode c_N_add 34 = .ok (.invokestatic 36, 3) := by decide +kernel
theorem d_N_add_37 : decode c_N_add 37 = .ok (.lor, 1) := by decide +kernel
theorem d_N_add_38 : decode c_N_add 38 = .ok (.lastore, 1) := by decide +kernel
theorem d_N_add_39 : decode c_N_add 39 = .ok (.aload_n 0, 1) := by decide +kernel
theorem d_N_add_40 : decode c_N_add 40 = .ok (.getfield 15, 3) := by decide +kernel
theorem d_N_add_43 : decode c_N_add 43 = .ok (.aload_n 0, 1) := by decide +kernel
theorem d_N_add_44 : decode c_N_add 44 = .ok (.getfield 32, 3) := by decide +kernel
theorem d_N_add_47 : decode c_N_add 47 = .ok (.iload_n 1, 1) := by decide +kernel
theorem d_N_add_48 : decode c_N_add 48 = .ok (.iastore, 1) := by decide +kernel
theorem d_N_add_49 : decode c_N_add 49 = .ok (.aload_n 0, 1) := by decide +kernel
theorem d_N_add_50 : decode c_N_add 50 = .ok (.getfield 19, 3) := by decide +kernel
theorem d_N_add_53 : decode c_N_add 53 = .ok (.aload_n 0, 1) := by decide +kernel
theorem d_N_add_54 : decode c_N_add 54 = .ok (.getfield 32, 3) := by decide +kernel
theorem d_N_add_57 : decode c_N_add 57 = .ok (.iload_n 2, 1) := by decide +kernel
theorem d_N_add_58 : decode c_N_add 58 = .ok (.iastore, 1) := by decide +kernel
theorem d_N_add_59 : decode c_N_add 59 = .ok (.aload_n 0, 1) := by decide +kernel
theorem d_N_add_60 : decode c_N_add 60 = .ok (.aload_n 0, 1) := by decide +kernel
theorem d_N_add_61 : decode c_N_add 61 = .ok (.getfield 32, 3) := by decide +kernel
theorem d_N_add_64 : decode c_N_add 64 = .ok (.iconst (-1), 1) := by decide +kernel
theorem d_N_add_65 : decode c_N_add 65 = .ok (.iconst (-1), 1) := by decide +kernel
theorem d_N_add_66 : decode c_N_add 66 = .ok (.invokevirtual 40, 3) := by decide +kernel
theorem d_N_add_69 : decode c_N_add 69 = .ok (.aload_n 0, 1) := by decide +kernel
theorem d_N_add_70 : decode c_N_add 70 = .ok (.dup, 1) := by decide +kernel
theorem d_N_add_71 : decode c_N_add 71 = .ok (.getfield 32, 3) := by decide +kernel
theorem d_N_add_74 : decode c_N_add 74 = .ok (.iconst 1, 1) := by decide +kernel
theorem d_N_add_75 : decode c_N_add 75 = .ok (.iadd, 1) := by decide +kernel
theorem d_N_add_76 : decode c_N_add 76 = .ok (.putfield 32, 3) := by decide +kernel
theorem d_N_add_79 : decode c_N_add 79 = .ok (.return_, 1) := by decide +kernel
theorem d_N_settle_0 : decode c_N_settle 0 = .ok (.aload_n 0, 1) := by decide +kernel
theorem d_N_settle_1 : decode c_N_settle 1 = .ok (.getfield 22, 3) := by decide +kernel
theorem d_N_settle_4 : decode c_N_settle 4 = .ok (.iload_n 1, 1) := by decide +kernel
theorem d_N_settle_5 : decode c_N_settle 5 = .ok (.iload_n 2, 1) := by decide +kernel
theorem d_N_settle_6 : decode c_N_settle 6 = .ok (.iastore, 1) := by decide +kernel
theorem d_N_settle_7 : decode c_N_settle 7 = .ok (.aload_n 0, 1) := by decide +kernel
theorem d_N_settle_8 : decode c_N_settle 8 = .ok (.getfield 25, 3) := by decide +kernel
theorem d_N_settle_11 : decode c_N_settle 11 = .ok (.iload_n 1, 1) := by decide +kernel
theorem d_N_settle_12 : decode c_N_settle 12 = .ok (.iload_n 3, 1) := by decide +kernel
theorem d_N_settle_13 : decode c_N_settle 13 = .ok (.iastore, 1) := by decide +kernel
theorem d_N_settle_14 : decode c_N_settle 14 = .ok (.return_, 1) := by decide +kernel
theorem d_M_mutant_0 : decode c_M_mutant 0 = .ok (.aload_n 0, 1) := by decide +kernel
theorem d_M_mutant_1 : decode c_M_mutant 1 = .ok (.getfield 28, 3) := by decide +kernel
theorem d_M_mutant_4 : decode c_M_mutant 4 = .ok (.iload_n 1, 1) := by decide +kernel
theorem d_M_mutant_5 : decode c_M_mutant 5 = .ok (.invokevirtual 103, 3) := by decide +kernel
theorem d_M_mutant_8 : decode c_M_mutant 8 = .ok (.ifCond .ne 5, 3) := by decide +kernel
theorem d_M_mutant_11 : decode c_M_mutant 11 = .ok (.iconst (-1), 1) := by decide +kernel
theorem d_M_mutant_12 : decode c_M_mutant 12 = .ok (.ireturn, 1) := by decide +kernel
theorem d_M_mutant_13 : decode c_M_mutant 13 = .ok (.iload_n 2, 1) := by decide +kernel
theorem d_M_mutant_14 : decode c_M_mutant 14 = .ok (.tableswitch 87 0 4 #[34, 43, 52, 61, 70], 34) := by decide +kernel
theorem d_M_mutant_48 : decode c_M_mutant 48 = .ok (.aload_n 0, 1) := by decide +kernel
theorem d_M_mutant_49 : decode c_M_mutant 49 = .ok (.getfield 28, 3) := by decide +kernel
theorem d_M_mutant_52 : decode c_M_mutant 52 = .ok (.iload_n 1, 1) := by decide +kernel
theorem d_M_mutant_53 : decode c_M_mutant 53 = .ok (.invokevirtual 104, 3) := by decide +kernel
theorem d_M_mutant_56 : decode c_M_mutant 56 = .ok (.ireturn, 1) := by decide +kernel
theorem d_M_mutant_57 : decode c_M_mutant 57 = .ok (.aload_n 0, 1) := by decide +kernel
theorem d_M_mutant_58 : decode c_M_mutant 58 = .ok (.getfield 28, 3) := by decide +kernel
theorem d_M_mutant_61 : decode c_M_mutant 61 = .ok (.iload_n 1, 1) := by decide +kernel
theorem d_M_mutant_62 : decode c_M_mutant 62 = .ok (.invokevirtual 105, 3) := by decide +kernel
theorem d_M_mutant_65 : decode c_M_mutant 65 = .ok (.ireturn, 1) := by decide +kernel
theorem d_M_mutant_66 : decode c_M_mutant 66 = .ok (.aload_n 0, 1) := by decide +kernel
theorem d_M_mutant_67 : decode c_M_mutant 67 = .ok (.getfield 28, 3) := by decide +kernel
theorem d_M_mutant_70 : decode c_M_mutant 70 = .ok (.iload_n 1, 1) := by decide +kernel
theorem d_M_mutant_71 : decode c_M_mutant 71 = .ok (.invokevirtual 108, 3) := by decide +kernel
theorem d_M_mutant_74 : decode c_M_mutant 74 = .ok (.ireturn, 1) := by decide +kernel
theorem d_M_mutant_75 : decode c_M_mutant 75 = .ok (.aload_n 0, 1) := by decide +kernel
theorem d_M_mutant_76 : decode c_M_mutant 76 = .ok (.getfield 28, 3) := by decide +kernel
theorem d_M_mutant_79 : decode c_M_mutant 79 = .ok (.iload_n 1, 1) := by decide +kernel
theorem d_M_mutant_80 : decode c_M_mutant 80 = .ok (.invokevirtual 111, 3) := by decide +kernel
theorem d_M_mutant_83 : decode c_M_mutant 83 = .ok (.ireturn, 1) := by decide +kernel
theorem d_M_mutant_84 : decode c_M_mutant 84 = .ok (.aload_n 0, 1) := by decide +kernel
theorem d_M_mutant_85 : decode c_M_mutant 85 = .ok (.getfield 28, 3) := by decide +kernel
theorem d_M_mutant_88 : decode c_M_mutant 88 = .ok (.iload_n 1, 1) := by decide +kernel
theorem d_M_mutant_89 : decode c_M_mutant 89 = .ok (.invokevirtual 114, 3) := by decide +kernel
theorem d_M_mutant_92 : decode c_M_mutant 92 = .ok (.ifCond .eq 7, 3) := by decide +kernel
theorem d_M_mutant_95 : decode c_M_mutant 95 = .ok (.iconst 1, 1) := by decide +kernel
theorem d_M_mutant_96 : decode c_M_mutant 96 = .ok (.goto 4, 3) := by decide +kernel
theorem d_M_mutant_99 : decode c_M_mutant 99 = .ok (.iconst 0, 1) := by decide +kernel
theorem d_M_mutant_100 : decode c_M_mutant 100 = .ok (.ireturn, 1) := by decide +kernel
theorem d_M_mutant_101 : decode c_M_mutant 101 = .ok (.iconst (-1), 1) := by decide +kernel
theorem d_M_mutant_102 : decode c_M_mutant 102 = .ok (.ireturn, 1) := by decide +kernel
theorem d_N_has_0 : decode c_N_has 0 = .ok (.iload_n 1, 1) := by decide +kernel
theorem d_N_has_1 : decode c_N_has 1 = .ok (.ifCond .lt 15, 3) := by decide +kernel
theorem d_N_has_4 : decode c_N_has 4 = .ok (.iload_n 1, 1) := by decide +kernel
theorem d_N_has_5 : decode c_N_has 5 = .ok (.aload_n 0, 1) := by decide +kernel
theorem d_N_has_6 : decode c_N_has 6 = .ok (.getfield 32, 3) := by decide +kernel
theorem d_N_has_9 : decode c_N_has 9 = .ok (.if_icmp .ge 7, 3) := by decide +kernel
theorem d_N_has_12 : decode c_N_has 12 = .ok (.iconst 1, 1) := by decide +kernel
theorem d_N_has_13 : decode c_N_has 13 = .ok (.goto 4, 3) := by decide +kernel
theorem d_N_has_16 : decode c_N_has 16 = .ok (.iconst 0, 1) := by decide +kernel
theorem d_N_has_17 : decode c_N_has 17 = .ok (.ireturn, 1) := by decide +kernel
theorem d_N_kindOf_0 : decode c_N_kindOf 0 = .ok (.aload_n 0, 1) := by decide +kernel
theorem d_N_kindOf_1 : decode c_N_kindOf 1 = .ok (.getfield 15, 3) := by decide +kernel
theorem d_N_kindOf_4 : decode c_N_kindOf 4 = .ok (.iload_n 1, 1) := by decide +kernel
theorem d_N_kindOf_5 : decode c_N_kindOf 5 = .ok (.iaload, 1) := by decide +kernel
theorem d_N_kindOf_6 : decode c_N_kindOf 6 = .ok (.ireturn, 1) := by decide +kernel
theorem d_N_nodeOf_0 : decode c_N_nodeOf 0 = .ok (.aload_n 0, 1) := by decide +kernel
theorem d_N_nodeOf_1 : decode c_N_nodeOf 1 = .ok (.getfield 19, 3) := by decide +kernel
theorem d_N_nodeOf_4 : decode c_N_nodeOf 4 = .ok (.iload_n 1, 1) := by decide +kernel
theorem d_N_nodeOf_5 : decode c_N_nodeOf 5 = .ok (.iaload, 1) := by decide +kernel
theorem d_N_nodeOf_6 : decode c_N_nodeOf 6 = .ok (.ireturn, 1) := by decide +kernel
theorem d_N_outcomeOf_0 : decode c_N_outcomeOf 0 = .ok (.aload_n 0, 1) := by decide +kernel
theorem d_N_outcomeOf_1 : decode c_N_outcomeOf 1 = .ok (.getfield 22, 3) := by decide +kernel
theorem d_N_outcomeOf_4 : decode c_N_outcomeOf 4 = .ok (.iload_n 1, 1) := by decide +kernel
theorem d_N_outcomeOf_5 : decode c_N_outcomeOf 5 = .ok (.iaload, 1) := by decide +kernel
theorem d_N_outcomeOf_6 : decode c_N_outcomeOf 6 = .ok (.ireturn, 1) := by decide +kernel
theorem d_N_enderOf_0 : decode c_N_enderOf 0 = .ok (.aload_n 0, 1) := by decide +kernel
theorem d_N_enderOf_1 : decode c_N_enderOf 1 = .ok (.getfield 25, 3) := by decide +kernel
theorem d_N_enderOf_4 : decode c_N_enderOf 4 = .ok (.iload_n 1, 1) := by decide +kernel
theorem d_N_enderOf_5 : decode c_N_enderOf 5 = .ok (.iaload, 1) := by decide +kernel
theorem d_N_enderOf_6 : decode c_N_enderOf 6 = .ok (.ireturn, 1) := by decide +kernel
theorem d_N_isAlike_0 : decode c_N_isAlike 0 = .ok (.aload_n 0, 1) := by decide +kernel
