theorem dX0_init_0 : decode cX0_init 0 = .ok (.aload_n 0, 1) := by decide +kernel
theorem dX0_init_1 : decode cX0_init 1 = .ok (.invokespecial 3, 3) := by decide +kernel
theorem dX0_init_4 : decode cX0_init 4 = .ok (.aload_n 0, 1) := by decide +kernel
theorem dX0_init_5 : decode cX0_init 5 = .ok (.bipush 14, 2) := by decide +kernel
theorem dX0_init_7 : decode cX0_init 7 = .ok (.anewarray 9, 3) := by decide +kernel
theorem dX0_init_10 : decode cX0_init 10 = .ok (.putfield 11, 3) := by decide +kernel
theorem dX0_init_13 : decode cX0_init 13 = .ok (.iconst 0, 1) := by decide +kernel
theorem dX0_init_14 : decode cX0_init 14 = .ok (.istore_n 1, 1) := by decide +kernel
theorem dX0_init_15 : decode cX0_init 15 = .ok (.iload_n 1, 1) := by decide +kernel
theorem dX0_init_16 : decode cX0_init 16 = .ok (.bipush 14, 2) := by decide +kernel
theorem dX0_init_18 : decode cX0_init 18 = .ok (.if_icmp .ge 22, 3) := by decide +kernel
theorem dX0_init_21 : decode cX0_init 21 = .ok (.aload_n 0, 1) := by decide +kernel
theorem dX0_init_22 : decode cX0_init 22 = .ok (.getfield 11, 3) := by decide +kernel
theorem dX0_init_25 : decode cX0_init 25 = .ok (.iload_n 1, 1) := by decide +kernel
theorem dX0_init_26 : decode cX0_init 26 = .ok (.new 9, 3) := by decide +kernel
theorem dX0_init_29 : decode cX0_init 29 = .ok (.dup, 1) := by decide +kernel
theorem dX0_init_30 : decode cX0_init 30 = .ok (.invokespecial 17, 3) := by decide +kernel
theorem dX0_init_33 : decode cX0_init 33 = .ok (.aastore, 1) := by decide +kernel
theorem dX0_init_34 : decode cX0_init 34 = .ok (.iinc 1 1, 3) := by decide +kernel
theorem dX0_init_37 : decode cX0_init 37 = .ok (.goto (-22), 3) := by decide +kernel
theorem dX0_init_40 : decode cX0_init 40 = .ok (.return_, 1) := by decide +kernel
theorem dX1_init_0 : decode cX1_init 0 = .ok (.aload_n 0, 1) := by decide +kernel
theorem dX1_init_1 : decode cX1_init 1 = .ok (.invokespecial 3, 3) := by decide +kernel
theorem dX1_init_4 : decode cX1_init 4 = .ok (.aload_n 0, 1) := by decide +kernel
theorem dX1_init_5 : decode cX1_init 5 = .ok (.sipush 310, 3) := by decide +kernel
theorem dX1_init_8 : decode cX1_init 8 = .ok (.newarray .int, 2) := by decide +kernel
theorem dX1_init_10 : decode cX1_init 10 = .ok (.putfield 9, 3) := by decide +kernel
theorem dX1_init_13 : decode cX1_init 13 = .ok (.aload_n 0, 1) := by decide +kernel
theorem dX1_init_14 : decode cX1_init 14 = .ok (.sipush 310, 3) := by decide +kernel
theorem dX1_init_17 : decode cX1_init 17 = .ok (.newarray .int, 2) := by decide +kernel
theorem dX1_init_19 : decode cX1_init 19 = .ok (.putfield 15, 3) := by decide +kernel
theorem dX1_init_22 : decode cX1_init 22 = .ok (.aload_n 0, 1) := by decide +kernel
theorem dX1_init_23 : decode cX1_init 23 = .ok (.ldc2_w 18, 3) := by decide +kernel
theorem dX1_init_26 : decode cX1_init 26 = .ok (.putfield 20, 3) := by decide +kernel
theorem dX1_init_29 : decode cX1_init 29 = .ok (.return_, 1) := by decide +kernel
theorem dX2_init_0 : decode cX2_init 0 = .ok (.aload_n 0, 1) := by decide +kernel
theorem dX2_init_1 : decode cX2_init 1 = .ok (.invokespecial 3, 3) := by decide +kernel
theorem dX2_init_4 : decode cX2_init 4 = .ok (.aload_n 0, 1) := by decide +kernel
theorem dX2_init_5 : decode cX2_init 5 = .ok (.new 9, 3) := by decide +kernel
theorem dX2_init_8 : decode cX2_init 8 = .ok (.dup, 1) := by decide +kernel
theorem dX2_init_9 : decode cX2_init 9 = .ok (.invokespecial 11, 3) := by decide +kernel
theorem dX2_init_12 : decode cX2_init 12 = .ok (.putfield 12, 3) := by decide +kernel
theorem dX2_init_15 : decode cX2_init 15 = .ok (.aload_n 0, 1) := by decide +kernel
theorem dX2_init_16 : decode cX2_init 16 = .ok (.new 18, 3) := by decide +kernel
theorem dX2_init_19 : decode cX2_init 19 = .ok (.dup, 1) := by decide +kernel
theorem dX2_init_20 : decode cX2_init 20 = .ok (.invokespecial 20, 3) := by decide +kernel
theorem dX2_init_23 : decode cX2_init 23 = .ok (.putfield 21, 3) := by decide +kernel
theorem dX2_init_26 : decode cX2_init 26 = .ok (.return_, 1) := by decide +kernel
theorem dX3_init_0 : decode cX3_init 0 = .ok (.aload_n 0, 1) := by decide +kernel
theorem dX3_init_1 : decode cX3_init 1 = .ok (.invokespecial 3, 3) := by decide +kernel
theorem dX3_init_4 : decode cX3_init 4 = .ok (.aload_n 0, 1) := by decide +kernel
theorem dX3_init_5 : decode cX3_init 5 = .ok (.iconst 4, 1) := by decide +kernel
theorem dX3_init_6 : decode cX3_init 6 = .ok (.newarray .int, 2) := by decide +kernel
theorem dX3_init_8 : decode cX3_init 8 = .ok (.putfield 9, 3) := by decide +kernel
theorem dX3_init_11 : decode cX3_init 11 = .ok (.aload_n 0, 1) := by decide +kernel
theorem dX3_init_12 : decode cX3_init 12 = .ok (.iconst 5, 1) := by decide +kernel
theorem dX3_init_13 : decode cX3_init 13 = .ok (.newarray .int, 2) := by decide +kernel
theorem dX3_init_15 : decode cX3_init 15 = .ok (.putfield 15, 3) := by decide +kernel
theorem dX3_init_18 : decode cX3_init 18 = .ok (.return_, 1) := by decide +kernel
theorem dX4_init_0 : decode cX4_init 0 = .ok (.aload_n 0, 1) := by decide +kernel
theorem dX4_init_1 : decode cX4_init 1 = .ok (.invokespecial 3, 3) := by decide +kernel
theorem dX4_init_4 : decode cX4_init 4 = .ok (.aload_n 0, 1) := by decide +kernel
theorem dX4_init_5 : decode cX4_init 5 = .ok (.bipush 40, 2) := by decide +kernel
theorem dX4_init_7 : decode cX4_init 7 = .ok (.newarray .int, 2) := by decide +kernel
theorem dX4_init_9 : decode cX4_init 9 = .ok (.putfield 9, 3) := by decide +kernel
theorem dX4_init_12 : decode cX4_init 12 = .ok (.aload_n 0, 1) := by decide +kernel
theorem dX4_init_13 : decode cX4_init 13 = .ok (.new 15, 3) := by decide +kernel
theorem dX4_init_16 : decode cX4_init 16 = .ok (.dup, 1) := by decide +kernel
theorem dX4_init_17 : decode cX4_init 17 = .ok (.invokespecial 17, 3) := by decide +kernel
theorem dX4_init_20 : decode cX4_init 20 = .ok (.putfield 18, 3) := by decide +kernel
theorem dX4_init_23 : decode cX4_init 23 = .ok (.return_, 1) := by decide +kernel
theorem dX5_init_0 : decode cX5_init 0 = .ok (.aload_n 0, 1) := by decide +kernel
theorem dX5_init_1 : decode cX5_init 1 = .ok (.invokespecial 3, 3) := by decide +kernel
theorem dX5_init_4 : decode cX5_init 4 = .ok (.aload_n 0, 1) := by decide +kernel
theorem dX5_init_5 : decode cX5_init 5 = .ok (.bipush 6, 2) := by decide +kernel
theorem dX5_init_7 : decode cX5_init 7 = .ok (.newarray .int, 2) := by decide +kernel
theorem dX5_init_9 : decode cX5_init 9 = .ok (.putfield 9, 3) := by decide +kernel
theorem dX5_init_12 : decode cX5_init 12 = .ok (.aload_n 0, 1) := by decide +kernel
theorem dX5_init_13 : decode cX5_init 13 = .ok (.bipush 64, 2) := by decide +kernel
theorem dX5_init_15 : decode cX5_init 15 = .ok (.newarray .int, 2) := by decide +kernel
theorem dX5_init_17 : decode cX5_init 17 = .ok (.putfield 15, 3) := by decide +kernel
theorem dX5_init_20 : decode cX5_init 20 = .ok (.aload_n 0, 1) := by decide +kernel
theorem dX5_init_21 : decode cX5_init 21 = .ok (.bipush 64, 2) := by decide +kernel
theorem dX5_init_23 : decode cX5_init 23 = .ok (.newarray .int, 2) := by decide +kernel
theorem dX5_init_25 : decode cX5_init 25 = .ok (.putfield 18, 3) := by decide +kernel
theorem dX5_init_28 : decode cX5_init 28 = .ok (.return_, 1) := by decide +kernel
theorem dX6_init_0 : decode cX6_init 0 = .ok (.aload_n 0, 1) := by decide +kernel
theorem dX6_init_1 : decode cX6_init 1 = .ok (.invokespecial 3, 3) := by decide +kernel
theorem dX6_init_4 : decode cX6_init 4 = .ok (.aload_n 0, 1) := by decide +kernel
theorem dX6_init_5 : decode cX6_init 5 = .ok (.iconst 1, 1) := by decide +kernel
theorem dX6_init_6 : decode cX6_init 6 = .ok (.putfield 9, 3) := by decide +kernel
theorem dX6_init_9 : decode cX6_init 9 = .ok (.aload_n 0, 1) := by decide +kernel
theorem dX6_init_10 : decode cX6_init 10 = .ok (.iconst 1, 1) := by decide +kernel
theorem dX6_init_11 : decode cX6_init 11 = .ok (.putfield 15, 3) := by decide +kernel
theorem dX6_init_14 : decode cX6_init 14 = .ok (.aload_n 0, 1) := by decide +kernel
theorem dX6_init_15 : decode cX6_init 15 = .ok (.iconst 4, 1) := by decide +kernel
theorem dX6_init_16 : decode cX6_init 16 = .ok (.newarray .int, 2) := by decide +kernel
theorem dX6_init_18 : decode cX6_init 18 = .ok (.putfield 18, 3) := by decide +kernel
theorem dX6_init_21 : decode cX6_init 21 = .ok (.aload_n 0, 1) := by decide +kernel
theorem dX6_init_22 : decode cX6_init 22 = .ok (.iconst 5, 1) := by decide +kernel
theorem dX6_init_23 : decode cX6_init 23 = .ok (.newarray .int, 2) := by decide +kernel
theorem dX6_init_25 : decode cX6_init 25 = .ok (.putfield 22, 3) := by decide +kernel
theorem dX6_init_28 : decode cX6_init 28 = .ok (.return_, 1) := by decide +kernel
theorem dX7_init_0 : decode cX7_init 0 = .ok (.aload_n 0, 1) := by decide +kernel
theorem dX7_init_1 : decode cX7_init 1 = .ok (.invokespecial 3, 3) := by decide +kernel
theorem dX7_init_4 : decode cX7_init 4 = .ok (.aload_n 0, 1) := by decide +kernel
theorem dX7_init_5 : decode cX7_init 5 = .ok (.sipush 310, 3) := by decide +kernel
theorem dX7_init_8 : decode cX7_init 8 = .ok (.newarray .int, 2) := by decide +kernel
theorem dX7_init_10 : decode cX7_init 10 = .ok (.putfield 9, 3) := by decide +kernel
theorem dX7_init_13 : decode cX7_init 13 = .ok (.aload_n 0, 1) := by decide +kernel
theorem dX7_init_14 : decode cX7_init 14 = .ok (.sipush 310, 3) := by decide +kernel
theorem dX7_init_17 : decode cX7_init 17 = .ok (.newarray .int, 2) := by decide +kernel
theorem dX7_init_19 : decode cX7_init 19 = .ok (.putfield 15, 3) := by decide +kernel
theorem dX7_init_22 : decode cX7_init 22 = .ok (.aload_n 0, 1) := by decide +kernel
theorem dX7_init_23 : decode cX7_init 23 = .ok (.bipush (-9), 2) := by decide +kernel
theorem dX7_init_25 : decode cX7_init 25 = .ok (.putfield 18, 3) := by decide +kernel
theorem dX7_init_28 : decode cX7_init 28 = .ok (.aload_n 0, 1) := by decide +kernel
theorem dX7_init_29 : decode cX7_init 29 = .ok (.iconst (-1), 1) := by decide +kernel
theorem dX7_init_30 : decode cX7_init 30 = .ok (.putfield 22, 3) := by decide +kernel
theorem dX7_init_33 : decode cX7_init 33 = .ok (.return_, 1) := by decide +kernel
theorem dX8_init_0 : decode cX8_init 0 = .ok (.aload_n 0, 1) := by decide +kernel
theorem dX8_init_1 : decode cX8_init 1 = .ok (.invokespecial 1, 3) := by decide +kernel
theorem dX8_init_4 : decode cX8_init 4 = .ok (.aload_n 0, 1) := by decide +kernel
theorem dX8_init_5 : decode cX8_init 5 = .ok (.new 7, 3) := by decide +kernel
theorem dX8_init_8 : decode cX8_init 8 = .ok (.dup, 1) := by decide +kernel
theorem dX8_init_9 : decode cX8_init 9 = .ok (.invokespecial 9, 3) := by decide +kernel
theorem dX8_init_12 : decode cX8_init 12 = .ok (.putfield 10, 3) := by decide +kernel
theorem dX8_init_15 : decode cX8_init 15 = .ok (.aload_n 0, 1) := by decide +kernel
theorem dX8_init_16 : decode cX8_init 16 = .ok (.new 7, 3) := by decide +kernel
theorem dX8_init_19 : decode cX8_init 19 = .ok (.dup, 1) := by decide +kernel
theorem dX8_init_20 : decode cX8_init 20 = .ok (.invokespecial 9, 3) := by decide +kernel
theorem dX8_init_23 : decode cX8_init 23 = .ok (.putfield 16, 3) := by decide +kernel
theorem dX8_init_26 : decode cX8_init 26 = .ok (.aload_n 0, 1) := by decide +kernel
theorem dX8_init_27 : decode cX8_init 27 = .ok (.new 19, 3) := by decide +kernel
theorem dX8_init_30 : decode cX8_init 30 = .ok (.dup, 1) := by decide +kernel
theorem dX8_init_31 : decode cX8_init 31 = .ok (.invokespecial 21, 3) := by decide +kernel
theorem dX8_init_34 : decode cX8_init 34 = .ok (.putfield 22, 3) := by decide +kernel
theorem dX8_init_37 : decode cX8_init 37 = .ok (.aload_n 0, 1) := by decide +kernel
theorem dX8_init_38 : decode cX8_init 38 = .ok (.new 26, 3) := by decide +kernel
theorem dX8_init_41 : decode cX8_init 41 = .ok (.dup, 1) := by decide +kernel
theorem dX8_init_42 : decode cX8_init 42 = .ok (.invokespecial 28, 3) := by decide +kernel
theorem dX8_init_45 : decode cX8_init 45 = .ok (.putfield 29, 3) := by decide +kernel
theorem dX8_init_48 : decode cX8_init 48 = .ok (.aload_n 0, 1) := by decide +kernel
theorem dX8_init_49 : decode cX8_init 49 = .ok (.new 33, 3) := by decide +kernel
theorem dX8_init_52 : decode cX8_init 52 = .ok (.dup, 1) := by decide +kernel
theorem dX8_init_53 : decode cX8_init 53 = .ok (.invokespecial 35, 3) := by decide +kernel
theorem dX8_init_56 : decode cX8_init 56 = .ok (.putfield 36, 3) := by decide +kernel
theorem dX8_init_59 : decode cX8_init 59 = .ok (.aload_n 0, 1) := by decide +kernel
theorem dX8_init_60 : decode cX8_init 60 = .ok (.new 40, 3) := by decide +kernel
theorem dX8_init_63 : decode cX8_init 63 = .ok (.dup, 1) := by decide +kernel
theorem dX8_init_64 : decode cX8_init 64 = .ok (.invokespecial 42, 3) := by decide +kernel
theorem dX8_init_67 : decode cX8_init 67 = .ok (.putfield 43, 3) := by decide +kernel
theorem dX8_init_70 : decode cX8_init 70 = .ok (.aload_n 0, 1) := by decide +kernel
theorem dX8_init_71 : decode cX8_init 71 = .ok (.new 47, 3) := by decide +kernel
theorem dX8_init_74 : decode cX8_init 74 = .ok (.dup, 1) := by decide +kernel
theorem dX8_init_75 : decode cX8_init 75 = .ok (.invokespecial 49, 3) := by decide +kernel
theorem dX8_init_78 : decode cX8_init 78 = .ok (.putfield 50, 3) := by decide +kernel
theorem dX8_init_81 : decode cX8_init 81 = .ok (.aload_n 0, 1) := by decide +kernel
theorem dX8_init_82 : decode cX8_init 82 = .ok (.iconst 2, 1) := by decide +kernel
theorem dX8_init_83 : decode cX8_init 83 = .ok (.anewarray 54, 3) := by decide +kernel
theorem dX8_init_86 : decode cX8_init 86 = .ok (.putfield 56, 3) := by decide +kernel
theorem dX8_init_89 : decode cX8_init 89 = .ok (.aload_n 0, 1) := by decide +kernel
theorem dX8_init_90 : decode cX8_init 90 = .ok (.iconst 2, 1) := by decide +kernel
theorem dX8_init_91 : decode cX8_init 91 = .ok (.newarray .boolean, 2) := by decide +kernel
theorem dX8_init_93 : decode cX8_init 93 = .ok (.putfield 60, 3) := by decide +kernel
theorem dX8_init_96 : decode cX8_init 96 = .ok (.iconst 0, 1) := by decide +kernel
theorem dX8_init_97 : decode cX8_init 97 = .ok (.istore_n 1, 1) := by decide +kernel
theorem dX8_init_98 : decode cX8_init 98 = .ok (.iload_n 1, 1) := by decide +kernel
theorem dX8_init_99 : decode cX8_init 99 = .ok (.iconst 2, 1) := by decide +kernel
theorem dX8_init_100 : decode cX8_init 100 = .ok (.if_icmp .ge 22, 3) := by decide +kernel
theorem dX8_init_103 : decode cX8_init 103 = .ok (.aload_n 0, 1) := by decide +kernel
theorem dX8_init_104 : decode cX8_init 104 = .ok (.getfield 56, 3) := by decide +kernel
theorem dX8_init_107 : decode cX8_init 107 = .ok (.iload_n 1, 1) := by decide +kernel
theorem dX8_init_108 : decode cX8_init 108 = .ok (.new 54, 3) := by decide +kernel
theorem dX8_init_111 : decode cX8_init 111 = .ok (.dup, 1) := by decide +kernel
theorem dX8_init_112 : decode cX8_init 112 = .ok (.invokespecial 64, 3) := by decide +kernel
theorem dX8_init_115 : decode cX8_init 115 = .ok (.aastore, 1) := by decide +kernel
theorem dX8_init_116 : decode cX8_init 116 = .ok (.iinc 1 1, 3) := by decide +kernel
theorem dX8_init_119 : decode cX8_init 119 = .ok (.goto (-21), 3) := by decide +kernel
theorem dX8_init_122 : decode cX8_init 122 = .ok (.aload_n 0, 1) := by decide +kernel
theorem dX8_init_123 : decode cX8_init 123 = .ok (.getfield 10, 3) := by decide +kernel
theorem dX8_init_126 : decode cX8_init 126 = .ok (.invokevirtual 65, 3) := by decide +kernel
theorem dX8_init_129 : decode cX8_init 129 = .ok (.return_, 1) := by decide +kernel
theorem dX9_init_0 : decode cX9_init 0 = .ok (.aload_n 0, 1) := by decide +kernel
theorem dX9_init_1 : decode cX9_init 1 = .ok (.invokespecial 1, 3) := by decide +kernel
theorem dX9_init_4 : decode cX9_init 4 = .ok (.aload_n 0, 1) := by decide +kernel
theorem dX9_init_5 : decode cX9_init 5 = .ok (.bipush 40, 2) := by decide +kernel
theorem dX9_init_7 : decode cX9_init 7 = .ok (.newarray .int, 2) := by decide +kernel
theorem dX9_init_9 : decode cX9_init 9 = .ok (.putfield 7, 3) := by decide +kernel
theorem dX9_init_12 : decode cX9_init 12 = .ok (.aload_n 0, 1) := by decide +kernel
theorem dX9_init_13 : decode cX9_init 13 = .ok (.bipush 32, 2) := by decide +kernel
theorem dX9_init_15 : decode cX9_init 15 = .ok (.newarray .int, 2) := by decide +kernel
theorem dX9_init_17 : decode cX9_init 17 = .ok (.putfield 13, 3) := by decide +kernel
theorem dX9_init_20 : decode cX9_init 20 = .ok (.aload_n 0, 1) := by decide +kernel
theorem dX9_init_21 : decode cX9_init 21 = .ok (.bipush 32, 2) := by decide +kernel
theorem dX9_init_23 : decode cX9_init 23 = .ok (.newarray .int, 2) := by decide +kernel
theorem dX9_init_25 : decode cX9_init 25 = .ok (.putfield 16, 3) := by decide +kernel
theorem dX9_init_28 : decode cX9_init 28 = .ok (.aload_n 0, 1) := by decide +kernel
theorem dX9_init_29 : decode cX9_init 29 = .ok (.bipush 32, 2) := by decide +kernel
theorem dX9_init_31 : decode cX9_init 31 = .ok (.newarray .int, 2) := by decide +kernel
theorem dX9_init_33 : decode cX9_init 33 = .ok (.putfield 19, 3) := by decide +kernel
theorem dX9_init_36 : decode cX9_init 36 = .ok (.aload_n 0, 1) := by decide +kernel
theorem dX9_init_37 : decode cX9_init 37 = .ok (.sipush 448, 3) := by decide +kernel
theorem dX9_init_40 : decode cX9_init 40 = .ok (.newarray .int, 2) := by decide +kernel
theorem dX9_init_42 : decode cX9_init 42 = .ok (.putfield 22, 3) := by decide +kernel
theorem dX9_init_45 : decode cX9_init 45 = .ok (.aload_n 0, 1) := by decide +kernel
theorem dX9_init_46 : decode cX9_init 46 = .ok (.bipush 64, 2) := by decide +kernel
theorem dX9_init_48 : decode cX9_init 48 = .ok (.newarray .int, 2) := by decide +kernel
theorem dX9_init_50 : decode cX9_init 50 = .ok (.putfield 25, 3) := by decide +kernel
theorem dX9_init_53 : decode cX9_init 53 = .ok (.aload_n 0, 1) := by decide +kernel
theorem dX9_init_54 : decode cX9_init 54 = .ok (.iconst 2, 1) := by decide +kernel
theorem dX9_init_55 : decode cX9_init 55 = .ok (.newarray .boolean, 2) := by decide +kernel
theorem dX9_init_57 : decode cX9_init 57 = .ok (.putfield 28, 3) := by decide +kernel
theorem dX9_init_60 : decode cX9_init 60 = .ok (.aload_n 0, 1) := by decide +kernel
theorem dX9_init_61 : decode cX9_init 61 = .ok (.bipush 6, 2) := by decide +kernel
theorem dX9_init_63 : decode cX9_init 63 = .ok (.newarray .int, 2) := by decide +kernel
theorem dX9_init_65 : decode cX9_init 65 = .ok (.putfield 32, 3) := by decide +kernel
theorem dX9_init_68 : decode cX9_init 68 = .ok (.aload_n 0, 1) := by decide +kernel
theorem dX9_init_69 : decode cX9_init 69 = .ok (.bipush 6, 2) := by decide +kernel
theorem dX9_init_71 : decode cX9_init 71 = .ok (.newarray .int, 2) := by decide +kernel
theorem dX9_init_73 : decode cX9_init 73 = .ok (.putfield 35, 3) := by decide +kernel
theorem dX9_init_76 : decode cX9_init 76 = .ok (.aload_n 0, 1) := by decide +kernel
theorem dX9_init_77 : decode cX9_init 77 = .ok (.bipush 40, 2) := by decide +kernel
theorem dX9_init_79 : decode cX9_init 79 = .ok (.newarray .int, 2) := by decide +kernel
theorem dX9_init_81 : decode cX9_init 81 = .ok (.putfield 38, 3) := by decide +kernel
theorem dX9_init_84 : decode cX9_init 84 = .ok (.aload_n 0, 1) := by decide +kernel
theorem dX9_init_85 : decode cX9_init 85 = .ok (.iconst 4, 1) := by decide +kernel
theorem dX9_init_86 : decode cX9_init 86 = .ok (.newarray .int, 2) := by decide +kernel
theorem dX9_init_88 : decode cX9_init 88 = .ok (.putfield 41, 3) := by decide +kernel
theorem dX9_init_91 : decode cX9_init 91 = .ok (.aload_n 0, 1) := by decide +kernel
theorem dX9_init_92 : decode cX9_init 92 = .ok (.sipush 1000, 3) := by decide +kernel
theorem dX9_init_95 : decode cX9_init 95 = .ok (.newarray .int, 2) := by decide +kernel
theorem dX9_init_97 : decode cX9_init 97 = .ok (.putfield 44, 3) := by decide +kernel
theorem dX9_init_100 : decode cX9_init 100 = .ok (.aload_n 0, 1) := by decide +kernel
theorem dX9_init_101 : decode cX9_init 101 = .ok (.sipush 1000, 3) := by decide +kernel
theorem dX9_init_104 : decode cX9_init 104 = .ok (.newarray .int, 2) := by decide +kernel
theorem dX9_init_106 : decode cX9_init 106 = .ok (.putfield 47, 3) := by decide +kernel
theorem dX9_init_109 : decode cX9_init 109 = .ok (.aload_n 0, 1) := by decide +kernel
theorem dX9_init_110 : decode cX9_init 110 = .ok (.sipush 1000, 3) := by decide +kernel
theorem dX9_init_113 : decode cX9_init 113 = .ok (.newarray .int, 2) := by decide +kernel
theorem dX9_init_115 : decode cX9_init 115 = .ok (.putfield 50, 3) := by decide +kernel
theorem dX9_init_118 : decode cX9_init 118 = .ok (.aload_n 0, 1) := by decide +kernel
theorem dX9_init_119 : decode cX9_init 119 = .ok (.iconst 4, 1) := by decide +kernel
theorem dX9_init_120 : decode cX9_init 120 = .ok (.newarray .int, 2) := by decide +kernel
theorem dX9_init_122 : decode cX9_init 122 = .ok (.putfield 53, 3) := by decide +kernel
theorem dX9_init_125 : decode cX9_init 125 = .ok (.aload_n 0, 1) := by decide +kernel
theorem dX9_init_126 : decode cX9_init 126 = .ok (.iconst 5, 1) := by decide +kernel
theorem dX9_init_127 : decode cX9_init 127 = .ok (.newarray .int, 2) := by decide +kernel
theorem dX9_init_129 : decode cX9_init 129 = .ok (.putfield 56, 3) := by decide +kernel
theorem dX9_init_132 : decode cX9_init 132 = .ok (.aload_n 0, 1) := by decide +kernel
theorem dX9_init_133 : decode cX9_init 133 = .ok (.bipush 6, 2) := by decide +kernel
theorem dX9_init_135 : decode cX9_init 135 = .ok (.newarray .int, 2) := by decide +kernel
theorem dX9_init_137 : decode cX9_init 137 = .ok (.putfield 59, 3) := by decide +kernel
theorem dX9_init_140 : decode cX9_init 140 = .ok (.aload_n 0, 1) := by decide +kernel
theorem dX9_init_141 : decode cX9_init 141 = .ok (.bipush 64, 2) := by decide +kernel
theorem dX9_init_143 : decode cX9_init 143 = .ok (.newarray .int, 2) := by decide +kernel
theorem dX9_init_145 : decode cX9_init 145 = .ok (.putfield 62, 3) := by decide +kernel
theorem dX9_init_148 : decode cX9_init 148 = .ok (.aload_n 0, 1) := by decide +kernel
theorem dX9_init_149 : decode cX9_init 149 = .ok (.getfield 16, 3) := by decide +kernel
theorem dX9_init_152 : decode cX9_init 152 = .ok (.iconst 0, 1) := by decide +kernel
theorem dX9_init_153 : decode cX9_init 153 = .ok (.iconst 1, 1) := by decide +kernel
theorem dX9_init_154 : decode cX9_init 154 = .ok (.iastore, 1) := by decide +kernel
theorem dX9_init_155 : decode cX9_init 155 = .ok (.aload_n 0, 1) := by decide +kernel
theorem dX9_init_156 : decode cX9_init 156 = .ok (.getfield 16, 3) := by decide +kernel
theorem dX9_init_159 : decode cX9_init 159 = .ok (.iconst 1, 1) := by decide +kernel
theorem dX9_init_160 : decode cX9_init 160 = .ok (.iconst 1, 1) := by decide +kernel
theorem dX9_init_161 : decode cX9_init 161 = .ok (.iastore, 1) := by decide +kernel
theorem dX9_init_162 : decode cX9_init 162 = .ok (.return_, 1) := by decide +kernel
abbrev mX0_init : mD := (yX0_init, cX0_init, 2, none)
abbrev mX1_init : mD := (yX1_init, cX1_init, 1, none)
abbrev mX2_init : mD := (yX2_init, cX2_init, 1, none)
abbrev mX3_init : mD := (yX3_init, cX3_init, 1, none)
abbrev mX4_init : mD := (yX4_init, cX4_init, 1, none)
abbrev mX5_init : mD := (yX5_init, cX5_init, 1, none)
abbrev mX6_init : mD := (yX6_init, cX6_init, 1, none)
abbrev mX7_init : mD := (yX7_init, cX7_init, 1, none)
abbrev mX8_init : mD := (yX8_init, cX8_init, 2, none)
abbrev mX9_init : mD := (yX9_init, cX9_init, 1, none)
theorem lo_X6_3 : Cond.methodLink RX6 3 Lib.objectInit ∈ mTb := mt (i := 33) (by decide +kernel) rfl
theorem oi_im : Cond.instanceMethod Lib.objectInit ∈ mTb := mt (i := 20) (by decide +kernel) rfl
theorem oi_code : Cond.code Lib.objectInit ⟨#[0xb1]⟩ 1 none ∈ mTb := mt (i := 21) (by decide +kernel) rfl
theorem ac_int : Cond.arrayClass .int ∈ mTb := mt (i := 75) (by decide +kernel) rfl
theorem lo_X1_3 : Cond.methodLink RX1 3 Lib.objectInit ∈ mTb := mt (i := 81) (by decide +kernel) rfl
theorem kl_X1_18 : Cond.constantLong RX1 18 (-9) ∈ mTb := mt (i := 82) (by decide +kernel) rfl
theorem lo_X2_3 : Cond.methodLink RX2 3 Lib.objectInit ∈ mTb := mt (i := 27) (by decide +kernel) rfl
theorem ck_X2_9 : Cond.classLink RX2 9 RX6 ∈ mTb := mt (i := 28) (by decide +kernel) rfl
theorem it_X6 : Cond.instantiable RX6 7 ∈ mTb := mt (i := 29) (by decide +kernel) rfl
theorem ini_X6 : Cond.initialized RX6 ∈ mTb := mt (i := 3) (by decide +kernel) rfl
theorem ln_X2_11 : Cond.methodLinkNest RX2 11 yX6_init "TwoViews" ∈ tables_1 := List.mem_of_getElem? (i := 30) (by decide +kernel)
theorem ok_X6_init : mOk mX6_init 0 := ⟨by decide +kernel, by decide, mt (i := 32) (by decide +kernel) rfl, mt (i := 3) (by decide +kernel) rfl⟩
theorem im_X6_init : Cond.instanceMethod yX6_init ∈ mTb := mt (i := 31) (by decide +kernel) rfl
theorem ck_X2_18 : Cond.classLink RX2 18 RX1 ∈ mTb := mt (i := 76) (by decide +kernel) rfl
theorem it_X1 : Cond.instantiable RX1 10 ∈ mTb := mt (i := 77) (by decide +kernel) rfl
theorem ini_X1 : Cond.initialized RX1 ∈ mTb := mt (i := 4) (by decide +kernel) rfl
theorem ln_X2_20 : Cond.methodLinkNest RX2 20 yX1_init "TwoViews" ∈ tables_1 := List.mem_of_getElem? (i := 78) (by decide +kernel)
theorem ok_X1_init : mOk mX1_init 0 := ⟨by decide +kernel, by decide, mt (i := 80) (by decide +kernel) rfl, mt (i := 4) (by decide +kernel) rfl⟩
theorem im_X1_init : Cond.instanceMethod yX1_init ∈ mTb := mt (i := 79) (by decide +kernel) rfl
theorem lo_X4_3 : Cond.methodLink RX4 3 Lib.objectInit ∈ mTb := mt (i := 141) (by decide +kernel) rfl
theorem ck_X4_15 : Cond.classLink RX4 15 RX6 ∈ mTb := mt (i := 142) (by decide +kernel) rfl
theorem ln_X4_17 : Cond.methodLinkNest RX4 17 yX6_init "TwoViews" ∈ tables_1 := List.mem_of_getElem? (i := 143) (by decide +kernel)
theorem lo_X0_3 : Cond.methodLink RX0 3 Lib.objectInit ∈ mTb := mt (i := 161) (by decide +kernel) rfl
theorem ck_X0_9 : Cond.classLink RX0 9 "TwoViews$Sheet" ∈ mTb := mt (i := 162) (by decide +kernel) rfl
theorem ln_X0_17 : Cond.methodLinkNest RX0 17 yX6_init "TwoViews" ∈ tables_1 := List.mem_of_getElem? (i := 164) (by decide +kernel)
theorem lo_X3_3 : Cond.methodLink RX3 3 Lib.objectInit ∈ mTb := mt (i := 181) (by decide +kernel) rfl
theorem lo_X7_3 : Cond.methodLink RX7 3 Lib.objectInit ∈ mTb := mt (i := 194) (by decide +kernel) rfl
theorem lo_X5_3 : Cond.methodLink RX5 3 Lib.objectInit ∈ mTb := mt (i := 217) (by decide +kernel) rfl
theorem lo_X8_1 : Cond.methodLink RX8 1 Lib.objectInit ∈ mTb := mt (i := 19) (by decide +kernel) rfl
theorem ck_X8_7 : Cond.classLink RX8 7 RX2 ∈ mTb := mt (i := 22) (by decide +kernel) rfl
theorem it_X2 : Cond.instantiable RX2 2 ∈ mTb := mt (i := 23) (by decide +kernel) rfl
theorem ini_X2 : Cond.initialized RX2 ∈ mTb := mt (i := 2) (by decide +kernel) rfl
theorem ln_X8_9 : Cond.methodLinkNest RX8 9 yX2_init "TwoViews" ∈ tables_1 := List.mem_of_getElem? (i := 24) (by decide +kernel)
theorem ok_X2_init : mOk mX2_init 0 := ⟨by decide +kernel, by decide, mt (i := 26) (by decide +kernel) rfl, mt (i := 2) (by decide +kernel) rfl⟩
theorem im_X2_init : Cond.instanceMethod yX2_init ∈ mTb := mt (i := 25) (by decide +kernel) rfl
theorem ck_X8_19 : Cond.classLink RX8 19 RX4 ∈ mTb := mt (i := 136) (by decide +kernel) rfl
theorem it_X4 : Cond.instantiable RX4 3 ∈ mTb := mt (i := 137) (by decide +kernel) rfl
theorem ini_X4 : Cond.initialized RX4 ∈ mTb := mt (i := 5) (by decide +kernel) rfl
theorem ln_X8_21 : Cond.methodLinkNest RX8 21 yX4_init "TwoViews" ∈ tables_1 := List.mem_of_getElem? (i := 138) (by decide +kernel)
theorem ok_X4_init : mOk mX4_init 0 := ⟨by decide +kernel, by decide, mt (i := 140) (by decide +kernel) rfl, mt (i := 5) (by decide +kernel) rfl⟩
theorem im_X4_init : Cond.instanceMethod yX4_init ∈ mTb := mt (i := 139) (by decide +kernel) rfl
theorem ck_X8_26 : Cond.classLink RX8 26 RX0 ∈ mTb := mt (i := 156) (by decide +kernel) rfl
theorem it_X0 : Cond.instantiable RX0 3 ∈ mTb := mt (i := 157) (by decide +kernel) rfl
theorem ini_X0 : Cond.initialized RX0 ∈ mTb := mt (i := 6) (by decide +kernel) rfl
theorem lk_X8_28 : Cond.methodLink RX8 28 yX0_init ∈ mTb := mt (i := 158) (by decide +kernel) rfl
theorem ok_X0_init : mOk mX0_init 0 := ⟨by decide +kernel, by decide, mt (i := 160) (by decide +kernel) rfl, mt (i := 6) (by decide +kernel) rfl⟩
theorem im_X0_init : Cond.instanceMethod yX0_init ∈ mTb := mt (i := 159) (by decide +kernel) rfl
theorem ck_X8_33 : Cond.classLink RX8 33 RX3 ∈ mTb := mt (i := 176) (by decide +kernel) rfl
theorem it_X3 : Cond.instantiable RX3 2 ∈ mTb := mt (i := 177) (by decide +kernel) rfl
theorem ini_X3 : Cond.initialized RX3 ∈ mTb := mt (i := 7) (by decide +kernel) rfl
theorem ln_X8_35 : Cond.methodLinkNest RX8 35 yX3_init "TwoViews" ∈ tables_1 := List.mem_of_getElem? (i := 178) (by decide +kernel)
theorem ok_X3_init : mOk mX3_init 0 := ⟨by decide +kernel, by decide, mt (i := 180) (by decide +kernel) rfl, mt (i := 7) (by decide +kernel) rfl⟩
theorem im_X3_init : Cond.instanceMethod yX3_init ∈ mTb := mt (i := 179) (by decide +kernel) rfl
theorem ck_X8_40 : Cond.classLink RX8 40 RX7 ∈ mTb := mt (i := 189) (by decide +kernel) rfl
theorem it_X7 : Cond.instantiable RX7 5 ∈ mTb := mt (i := 190) (by decide +kernel) rfl
theorem ini_X7 : Cond.initialized RX7 ∈ mTb := mt (i := 8) (by decide +kernel) rfl
theorem ln_X8_42 : Cond.methodLinkNest RX8 42 yX7_init "TwoViews" ∈ tables_1 := List.mem_of_getElem? (i := 191) (by decide +kernel)
theorem ok_X7_init : mOk mX7_init 0 := ⟨by decide +kernel, by decide, mt (i := 193) (by decide +kernel) rfl, mt (i := 8) (by decide +kernel) rfl⟩
theorem im_X7_init : Cond.instanceMethod yX7_init ∈ mTb := mt (i := 192) (by decide +kernel) rfl
theorem ck_X8_47 : Cond.classLink RX8 47 RX5 ∈ mTb := mt (i := 212) (by decide +kernel) rfl
theorem it_X5 : Cond.instantiable RX5 4 ∈ mTb := mt (i := 213) (by decide +kernel) rfl
theorem ini_X5 : Cond.initialized RX5 ∈ mTb := mt (i := 9) (by decide +kernel) rfl
theorem ln_X8_49 : Cond.methodLinkNest RX8 49 yX5_init "TwoViews" ∈ tables_1 := List.mem_of_getElem? (i := 214) (by decide +kernel)
theorem ok_X5_init : mOk mX5_init 0 := ⟨by decide +kernel, by decide, mt (i := 216) (by decide +kernel) rfl, mt (i := 9) (by decide +kernel) rfl⟩
theorem im_X5_init : Cond.instanceMethod yX5_init ∈ mTb := mt (i := 215) (by decide +kernel) rfl
theorem ck_X8_54 : Cond.classLink RX8 54 "TwoViews$Sheet" ∈ mTb := mt (i := 232) (by decide +kernel) rfl
theorem ac_bool : Cond.arrayClass .boolean ∈ mTb := mt (i := 329) (by decide +kernel) rfl
theorem ln_X8_64 : Cond.methodLinkNest RX8 64 yX6_init "TwoViews" ∈ tables_1 := List.mem_of_getElem? (i := 233) (by decide +kernel)
theorem lo_X9_1 : Cond.methodLink RX9 1 Lib.objectInit ∈ mTb := mt (i := 801) (by decide +kernel) rfl
