theorem dX0_add_0 : decode cX0_add 0 = .ok (.aload_n 0, 1) := by decide +kernel
theorem dX0_add_1 : decode cX0_add 1 = .ok (.getfield 11, 3) := by decide +kernel
theorem dX0_add_4 : decode cX0_add 4 = .ok (.aload_n 0, 1) := by decide +kernel
theorem dX0_add_5 : decode cX0_add 5 = .ok (.getfield 18, 3) := by decide +kernel
theorem dX0_add_8 : decode cX0_add 8 = .ok (.aaload, 1) := by decide +kernel
theorem dX0_add_9 : decode cX0_add 9 = .ok (.aload_n 1, 1) := by decide +kernel
theorem dX0_add_10 : decode cX0_add 10 = .ok (.invokevirtual 22, 3) := by decide +kernel
theorem dX0_add_13 : decode cX0_add 13 = .ok (.aload_n 0, 1) := by decide +kernel
theorem dX0_add_14 : decode cX0_add 14 = .ok (.aload_n 0, 1) := by decide +kernel
theorem dX0_add_15 : decode cX0_add 15 = .ok (.getfield 18, 3) := by decide +kernel
theorem dX0_add_18 : decode cX0_add 18 = .ok (.iconst 1, 1) := by decide +kernel
theorem dX0_add_19 : decode cX0_add 19 = .ok (.iadd, 1) := by decide +kernel
theorem dX0_add_20 : decode cX0_add 20 = .ok (.bipush 14, 2) := by decide +kernel
theorem dX0_add_22 : decode cX0_add 22 = .ok (.if_icmp .ge 12, 3) := by decide +kernel
theorem dX0_add_25 : decode cX0_add 25 = .ok (.aload_n 0, 1) := by decide +kernel
theorem dX0_add_26 : decode cX0_add 26 = .ok (.getfield 18, 3) := by decide +kernel
theorem dX0_add_29 : decode cX0_add 29 = .ok (.iconst 1, 1) := by decide +kernel
theorem dX0_add_30 : decode cX0_add 30 = .ok (.iadd, 1) := by decide +kernel
theorem dX0_add_31 : decode cX0_add 31 = .ok (.goto 4, 3) := by decide +kernel
theorem dX0_add_34 : decode cX0_add 34 = .ok (.iconst 0, 1) := by decide +kernel
theorem dX0_add_35 : decode cX0_add 35 = .ok (.putfield 18, 3) := by decide +kernel
theorem dX0_add_38 : decode cX0_add 38 = .ok (.aload_n 0, 1) := by decide +kernel
theorem dX0_add_39 : decode cX0_add 39 = .ok (.aload_n 0, 1) := by decide +kernel
theorem dX0_add_40 : decode cX0_add 40 = .ok (.getfield 26, 3) := by decide +kernel
theorem dX0_add_43 : decode cX0_add 43 = .ok (.iconst 1, 1) := by decide +kernel
theorem dX0_add_44 : decode cX0_add 44 = .ok (.iadd, 1) := by decide +kernel
theorem dX0_add_45 : decode cX0_add 45 = .ok (.bipush 14, 2) := by decide +kernel
theorem dX0_add_47 : decode cX0_add 47 = .ok (.invokestatic 29, 3) := by decide +kernel
theorem dX0_add_50 : decode cX0_add 50 = .ok (.putfield 26, 3) := by decide +kernel
theorem dX0_add_53 : decode cX0_add 53 = .ok (.return_, 1) := by decide +kernel
theorem dX0_takeBack_0 : decode cX0_takeBack 0 = .ok (.aload_n 0, 1) := by decide +kernel
theorem dX0_takeBack_1 : decode cX0_takeBack 1 = .ok (.getfield 26, 3) := by decide +kernel
theorem dX0_takeBack_4 : decode cX0_takeBack 4 = .ok (.ifCond .le 48, 3) := by decide +kernel
theorem dX0_takeBack_7 : decode cX0_takeBack 7 = .ok (.aload_n 0, 1) := by decide +kernel
theorem dX0_takeBack_8 : decode cX0_takeBack 8 = .ok (.aload_n 0, 1) := by decide +kernel
theorem dX0_takeBack_9 : decode cX0_takeBack 9 = .ok (.getfield 18, 3) := by decide +kernel
theorem dX0_takeBack_12 : decode cX0_takeBack 12 = .ok (.ifCond .le 12, 3) := by decide +kernel
theorem dX0_takeBack_15 : decode cX0_takeBack 15 = .ok (.aload_n 0, 1) := by decide +kernel
theorem dX0_takeBack_16 : decode cX0_takeBack 16 = .ok (.getfield 18, 3) := by decide +kernel
theorem dX0_takeBack_19 : decode cX0_takeBack 19 = .ok (.iconst 1, 1) := by decide +kernel
theorem dX0_takeBack_20 : decode cX0_takeBack 20 = .ok (.isub, 1) := by decide +kernel
theorem dX0_takeBack_21 : decode cX0_takeBack 21 = .ok (.goto 5, 3) := by decide +kernel
theorem dX0_takeBack_24 : decode cX0_takeBack 24 = .ok (.bipush 13, 2) := by decide +kernel
theorem dX0_takeBack_26 : decode cX0_takeBack 26 = .ok (.putfield 18, 3) := by decide +kernel
theorem dX0_takeBack_29 : decode cX0_takeBack 29 = .ok (.aload_n 0, 1) := by decide +kernel
theorem dX0_takeBack_30 : decode cX0_takeBack 30 = .ok (.dup, 1) := by decide +kernel
theorem dX0_takeBack_31 : decode cX0_takeBack 31 = .ok (.getfield 26, 3) := by decide +kernel
theorem dX0_takeBack_34 : decode cX0_takeBack 34 = .ok (.iconst 1, 1) := by decide +kernel
theorem dX0_takeBack_35 : decode cX0_takeBack 35 = .ok (.isub, 1) := by decide +kernel
theorem dX0_takeBack_36 : decode cX0_takeBack 36 = .ok (.putfield 26, 3) := by decide +kernel
theorem dX0_takeBack_39 : decode cX0_takeBack 39 = .ok (.aload_n 1, 1) := by decide +kernel
theorem dX0_takeBack_40 : decode cX0_takeBack 40 = .ok (.aload_n 0, 1) := by decide +kernel
theorem dX0_takeBack_41 : decode cX0_takeBack 41 = .ok (.getfield 11, 3) := by decide +kernel
theorem dX0_takeBack_44 : decode cX0_takeBack 44 = .ok (.aload_n 0, 1) := by decide +kernel
theorem dX0_takeBack_45 : decode cX0_takeBack 45 = .ok (.getfield 18, 3) := by decide +kernel
theorem dX0_takeBack_48 : decode cX0_takeBack 48 = .ok (.aaload, 1) := by decide +kernel
theorem dX0_takeBack_49 : decode cX0_takeBack 49 = .ok (.invokevirtual 22, 3) := by decide +kernel
theorem dX0_takeBack_52 : decode cX0_takeBack 52 = .ok (.return_, 1) := by decide +kernel
theorem dX1_listFor_0 : decode cX1_listFor 0 = .ok (.aload_n 1, 1) := by decide +kernel
theorem dX1_listFor_1 : decode cX1_listFor 1 = .ok (.invokevirtual 24, 3) := by decide +kernel
theorem dX1_listFor_4 : decode cX1_listFor 4 = .ok (.lstore_n 2, 1) := by decide +kernel
theorem dX1_listFor_5 : decode cX1_listFor 5 = .ok (.lload_n 2, 1) := by decide +kernel
theorem dX1_listFor_6 : decode cX1_listFor 6 = .ok (.aload_n 0, 1) := by decide +kernel
theorem dX1_listFor_7 : decode cX1_listFor 7 = .ok (.getfield 20, 3) := by decide +kernel
theorem dX1_listFor_10 : decode cX1_listFor 10 = .ok (.lcmp, 1) := by decide +kernel
theorem dX1_listFor_11 : decode cX1_listFor 11 = .ok (.ifCond .ne 26, 3) := by decide +kernel
theorem dX1_listFor_14 : decode cX1_listFor 14 = .ok (.aload_n 1, 1) := by decide +kernel
theorem dX1_listFor_15 : decode cX1_listFor 15 = .ok (.getfield 30, 3) := by decide +kernel
theorem dX1_listFor_18 : decode cX1_listFor 18 = .ok (.aload_n 0, 1) := by decide +kernel
theorem dX1_listFor_19 : decode cX1_listFor 19 = .ok (.getfield 34, 3) := by decide +kernel
theorem dX1_listFor_22 : decode cX1_listFor 22 = .ok (.if_icmp .ne 15, 3) := by decide +kernel
theorem dX1_listFor_25 : decode cX1_listFor 25 = .ok (.aload_n 1, 1) := by decide +kernel
theorem dX1_listFor_26 : decode cX1_listFor 26 = .ok (.getfield 37, 3) := by decide +kernel
theorem dX1_listFor_29 : decode cX1_listFor 29 = .ok (.aload_n 0, 1) := by decide +kernel
theorem dX1_listFor_30 : decode cX1_listFor 30 = .ok (.getfield 40, 3) := by decide +kernel
theorem dX1_listFor_33 : decode cX1_listFor 33 = .ok (.if_icmp .ne 4, 3) := by decide +kernel
theorem dX1_listFor_36 : decode cX1_listFor 36 = .ok (.return_, 1) := by decide +kernel
theorem dX1_listFor_37 : decode cX1_listFor 37 = .ok (.lload_n 2, 1) := by decide +kernel
theorem dX1_listFor_38 : decode cX1_listFor 38 = .ok (.aload_n 0, 1) := by decide +kernel
theorem dX1_listFor_39 : decode cX1_listFor 39 = .ok (.getfield 20, 3) := by decide +kernel
theorem dX1_listFor_42 : decode cX1_listFor 42 = .ok (.lcmp, 1) := by decide +kernel
theorem dX1_listFor_43 : decode cX1_listFor 43 = .ok (.ifCond .eq 30, 3) := by decide +kernel
theorem dX1_listFor_46 : decode cX1_listFor 46 = .ok (.aload_n 0, 1) := by decide +kernel
theorem dX1_listFor_47 : decode cX1_listFor 47 = .ok (.iconst 0, 1) := by decide +kernel
theorem dX1_listFor_48 : decode cX1_listFor 48 = .ok (.putfield 43, 3) := by decide +kernel
theorem dX1_listFor_51 : decode cX1_listFor 51 = .ok (.aload_n 0, 1) := by decide +kernel
theorem dX1_listFor_52 : decode cX1_listFor 52 = .ok (.aload_n 1, 1) := by decide +kernel
theorem dX1_listFor_53 : decode cX1_listFor 53 = .ok (.iconst 0, 1) := by decide +kernel
theorem dX1_listFor_54 : decode cX1_listFor 54 = .ok (.iconst 0, 1) := by decide +kernel
theorem dX1_listFor_55 : decode cX1_listFor 55 = .ok (.aload_n 1, 1) := by decide +kernel
theorem dX1_listFor_56 : decode cX1_listFor 56 = .ok (.iconst 1, 1) := by decide +kernel
theorem dX1_listFor_57 : decode cX1_listFor 57 = .ok (.invokestatic 46, 3) := by decide +kernel
theorem dX1_listFor_60 : decode cX1_listFor 60 = .ok (.aload_n 1, 1) := by decide +kernel
theorem dX1_listFor_61 : decode cX1_listFor 61 = .ok (.iconst 2, 1) := by decide +kernel
theorem dX1_listFor_62 : decode cX1_listFor 62 = .ok (.invokestatic 46, 3) := by decide +kernel
theorem dX1_listFor_65 : decode cX1_listFor 65 = .ok (.aload_n 1, 1) := by decide +kernel
theorem dX1_listFor_66 : decode cX1_listFor 66 = .ok (.iconst 4, 1) := by decide +kernel
theorem dX1_listFor_67 : decode cX1_listFor 67 = .ok (.invokestatic 46, 3) := by decide +kernel
theorem dX1_listFor_70 : decode cX1_listFor 70 = .ok (.invokestatic 50, 3) := by decide +kernel
theorem dX1_listFor_73 : decode cX1_listFor 73 = .ok (.aload_n 0, 1) := by decide +kernel
theorem dX1_listFor_74 : decode cX1_listFor 74 = .ok (.aload_n 1, 1) := by decide +kernel
theorem dX1_listFor_75 : decode cX1_listFor 75 = .ok (.invokevirtual 54, 3) := by decide +kernel
theorem dX1_listFor_78 : decode cX1_listFor 78 = .ok (.aload_n 0, 1) := by decide +kernel
theorem dX1_listFor_79 : decode cX1_listFor 79 = .ok (.lload_n 2, 1) := by decide +kernel
theorem dX1_listFor_80 : decode cX1_listFor 80 = .ok (.putfield 20, 3) := by decide +kernel
theorem dX1_listFor_83 : decode cX1_listFor 83 = .ok (.aload_n 0, 1) := by decide +kernel
theorem dX1_listFor_84 : decode cX1_listFor 84 = .ok (.aload_n 1, 1) := by decide +kernel
theorem dX1_listFor_85 : decode cX1_listFor 85 = .ok (.getfield 30, 3) := by decide +kernel
theorem dX1_listFor_88 : decode cX1_listFor 88 = .ok (.putfield 34, 3) := by decide +kernel
theorem dX1_listFor_91 : decode cX1_listFor 91 = .ok (.aload_n 0, 1) := by decide +kernel
theorem dX1_listFor_92 : decode cX1_listFor 92 = .ok (.aload_n 1, 1) := by decide +kernel
theorem dX1_listFor_93 : decode cX1_listFor 93 = .ok (.getfield 37, 3) := by decide +kernel
theorem dX1_listFor_96 : decode cX1_listFor 96 = .ok (.putfield 40, 3) := by decide +kernel
theorem dX1_listFor_99 : decode cX1_listFor 99 = .ok (.aload_n 0, 1) := by decide +kernel
theorem dX1_listFor_100 : decode cX1_listFor 100 = .ok (.dup, 1) := by decide +kernel
theorem dX1_listFor_101 : decode cX1_listFor 101 = .ok (.getfield 58, 3) := by decide +kernel
theorem dX1_listFor_104 : decode cX1_listFor 104 = .ok (.iconst 1, 1) := by decide +kernel
theorem dX1_listFor_105 : decode cX1_listFor 105 = .ok (.iadd, 1) := by decide +kernel
theorem dX1_listFor_106 : decode cX1_listFor 106 = .ok (.putfield 58, 3) := by decide +kernel
theorem dX1_listFor_109 : decode cX1_listFor 109 = .ok (.return_, 1) := by decide +kernel
theorem dX1_columnsWith_0 : decode cX1_columnsWith 0 = .ok (.iconst 0, 1) := by decide +kernel
theorem dX1_columnsWith_1 : decode cX1_columnsWith 1 = .ok (.istore_n 2, 1) := by decide +kernel
theorem dX1_columnsWith_2 : decode cX1_columnsWith 2 = .ok (.iconst 0, 1) := by decide +kernel
theorem dX1_columnsWith_3 : decode cX1_columnsWith 3 = .ok (.istore_n 3, 1) := by decide +kernel
theorem dX1_columnsWith_4 : decode cX1_columnsWith 4 = .ok (.iload_n 3, 1) := by decide +kernel
theorem dX1_columnsWith_5 : decode cX1_columnsWith 5 = .ok (.aload_n 0, 1) := by decide +kernel
theorem dX1_columnsWith_6 : decode cX1_columnsWith 6 = .ok (.getfield 61, 3) := by decide +kernel
theorem dX1_columnsWith_9 : decode cX1_columnsWith 9 = .ok (.if_icmp .ge 27, 3) := by decide +kernel
theorem dX1_columnsWith_12 : decode cX1_columnsWith 12 = .ok (.aload_n 0, 1) := by decide +kernel
theorem dX1_columnsWith_13 : decode cX1_columnsWith 13 = .ok (.iconst 1, 1) := by decide +kernel
theorem dX1_columnsWith_14 : decode cX1_columnsWith 14 = .ok (.iload_n 3, 1) := by decide +kernel
theorem dX1_columnsWith_15 : decode cX1_columnsWith 15 = .ok (.invokevirtual 64, 3) := by decide +kernel
theorem dX1_columnsWith_18 : decode cX1_columnsWith 18 = .ok (.iload_n 1, 1) := by decide +kernel
theorem dX1_columnsWith_19 : decode cX1_columnsWith 19 = .ok (.iand, 1) := by decide +kernel
theorem dX1_columnsWith_20 : decode cX1_columnsWith 20 = .ok (.ifCond .eq 10, 3) := by decide +kernel
theorem dX1_columnsWith_23 : decode cX1_columnsWith 23 = .ok (.iload_n 2, 1) := by decide +kernel
theorem dX1_columnsWith_24 : decode cX1_columnsWith 24 = .ok (.iload_n 3, 1) := by decide +kernel
theorem dX1_columnsWith_25 : decode cX1_columnsWith 25 = .ok (.invokestatic 68, 3) := by decide +kernel
theorem dX1_columnsWith_28 : decode cX1_columnsWith 28 = .ok (.ior, 1) := by decide +kernel
theorem dX1_columnsWith_29 : decode cX1_columnsWith 29 = .ok (.istore_n 2, 1) := by decide +kernel
theorem dX1_columnsWith_30 : decode cX1_columnsWith 30 = .ok (.iinc 3 1, 3) := by decide +kernel
theorem dX1_columnsWith_33 : decode cX1_columnsWith 33 = .ok (.goto (-29), 3) := by decide +kernel
theorem dX1_columnsWith_36 : decode cX1_columnsWith 36 = .ok (.iload_n 2, 1) := by decide +kernel
theorem dX1_columnsWith_37 : decode cX1_columnsWith 37 = .ok (.ireturn, 1) := by decide +kernel
theorem dX1_addFrom_0 : decode cX1_addFrom 0 = .ok (.aload_n 1, 1) := by decide +kernel
theorem dX1_addFrom_1 : decode cX1_addFrom 1 = .ok (.iload_n 2, 1) := by decide +kernel
theorem dX1_addFrom_2 : decode cX1_addFrom 2 = .ok (.invokevirtual 72, 3) := by decide +kernel
theorem dX1_addFrom_5 : decode cX1_addFrom 5 = .ok (.ifCond .ne 9, 3) := by decide +kernel
theorem dX1_addFrom_8 : decode cX1_addFrom 8 = .ok (.aload_n 0, 1) := by decide +kernel
theorem dX1_addFrom_9 : decode cX1_addFrom 9 = .ok (.iload_n 3, 1) := by decide +kernel
theorem dX1_addFrom_10 : decode cX1_addFrom 10 = .ok (.invokevirtual 76, 3) := by decide +kernel
theorem dX1_addFrom_13 : decode cX1_addFrom 13 = .ok (.return_, 1) := by decide +kernel
theorem dX1_addFrom_14 : decode cX1_addFrom 14 = .ok (.aload_n 1, 1) := by decide +kernel
theorem dX1_addFrom_15 : decode cX1_addFrom 15 = .ok (.iconst 0, 1) := by decide +kernel
theorem dX1_addFrom_16 : decode cX1_addFrom 16 = .ok (.iload_n 2, 1) := by decide +kernel
theorem dX1_addFrom_17 : decode cX1_addFrom 17 = .ok (.invokevirtual 64, 3) := by decide +kernel
theorem dX1_addFrom_20 : decode cX1_addFrom 20 = .ok (.istore 7, 2) := by decide +kernel
theorem dX1_addFrom_22 : decode cX1_addFrom 22 = .ok (.iload 7, 2) := by decide +kernel
theorem dX1_addFrom_24 : decode cX1_addFrom 24 = .ok (.ifCond .lt 9, 3) := by decide +kernel
theorem dX1_addFrom_27 : decode cX1_addFrom 27 = .ok (.iload 7, 2) := by decide +kernel
theorem dX1_addFrom_29 : decode cX1_addFrom 29 = .ok (.iconst 5, 1) := by decide +kernel
theorem dX1_addFrom_30 : decode cX1_addFrom 30 = .ok (.if_icmp .le 4, 3) := by decide +kernel
theorem dX1_addFrom_33 : decode cX1_addFrom 33 = .ok (.return_, 1) := by decide +kernel
theorem dX1_addFrom_34 : decode cX1_addFrom 34 = .ok (.aload_n 1, 1) := by decide +kernel
theorem dX1_addFrom_35 : decode cX1_addFrom 35 = .ok (.getfield 80, 3) := by decide +kernel
theorem dX1_addFrom_38 : decode cX1_addFrom 38 = .ok (.iload_n 2, 1) := by decide +kernel
theorem dX1_addFrom_39 : decode cX1_addFrom 39 = .ok (.isub, 1) := by decide +kernel
theorem dX1_addFrom_40 : decode cX1_addFrom 40 = .ok (.istore 8, 2) := by decide +kernel
theorem dX1_addFrom_42 : decode cX1_addFrom 42 = .ok (.iload 8, 2) := by decide +kernel
theorem dX1_addFrom_44 : decode cX1_addFrom 44 = .ok (.iconst 1, 1) := by decide +kernel
theorem dX1_addFrom_45 : decode cX1_addFrom 45 = .ok (.iand, 1) := by decide +kernel
theorem dX1_addFrom_46 : decode cX1_addFrom 46 = .ok (.ifCond .eq 8, 3) := by decide +kernel
theorem dX1_addFrom_49 : decode cX1_addFrom 49 = .ok (.iload 4, 2) := by decide +kernel
theorem dX1_addFrom_51 : decode cX1_addFrom 51 = .ok (.goto 7, 3) := by decide +kernel
theorem dX1_addFrom_54 : decode cX1_addFrom 54 = .ok (.iload 4, 2) := by decide +kernel
theorem dX1_addFrom_56 : decode cX1_addFrom 56 = .ok (.iconst (-1), 1) := by decide +kernel
theorem dX1_addFrom_57 : decode cX1_addFrom 57 = .ok (.ixor, 1) := by decide +kernel
theorem dX1_addFrom_58 : decode cX1_addFrom 58 = .ok (.iload 8, 2) := by decide +kernel
theorem dX1_addFrom_60 : decode cX1_addFrom 60 = .ok (.iconst 2, 1) := by decide +kernel
theorem dX1_addFrom_61 : decode cX1_addFrom 61 = .ok (.iand, 1) := by decide +kernel
theorem dX1_addFrom_62 : decode cX1_addFrom 62 = .ok (.ifCond .eq 8, 3) := by decide +kernel
theorem dX1_addFrom_65 : decode cX1_addFrom 65 = .ok (.iload 5, 2) := by decide +kernel
theorem dX1_addFrom_67 : decode cX1_addFrom 67 = .ok (.goto 7, 3) := by decide +kernel
theorem dX1_addFrom_70 : decode cX1_addFrom 70 = .ok (.iload 5, 2) := by decide +kernel
theorem dX1_addFrom_72 : decode cX1_addFrom 72 = .ok (.iconst (-1), 1) := by decide +kernel
theorem dX1_addFrom_73 : decode cX1_addFrom 73 = .ok (.ixor, 1) := by decide +kernel
theorem dX1_addFrom_74 : decode cX1_addFrom 74 = .ok (.iand, 1) := by decide +kernel
theorem dX1_addFrom_75 : decode cX1_addFrom 75 = .ok (.iload 8, 2) := by decide +kernel
theorem dX1_addFrom_77 : decode cX1_addFrom 77 = .ok (.iconst 4, 1) := by decide +kernel
theorem dX1_addFrom_78 : decode cX1_addFrom 78 = .ok (.iand, 1) := by decide +kernel
theorem dX1_addFrom_79 : decode cX1_addFrom 79 = .ok (.ifCond .eq 8, 3) := by decide +kernel
theorem dX1_addFrom_82 : decode cX1_addFrom 82 = .ok (.iload 6, 2) := by decide +kernel
theorem dX1_addFrom_84 : decode cX1_addFrom 84 = .ok (.goto 7, 3) := by decide +kernel
theorem dX1_addFrom_87 : decode cX1_addFrom 87 = .ok (.iload 6, 2) := by decide +kernel
theorem dX1_addFrom_89 : decode cX1_addFrom 89 = .ok (.iconst (-1), 1) := by decide +kernel
theorem dX1_addFrom_90 : decode cX1_addFrom 90 = .ok (.ixor, 1) := by decide +kernel
theorem dX1_addFrom_91 : decode cX1_addFrom 91 = .ok (.iand, 1) := by decide +kernel
theorem dX1_addFrom_92 : decode cX1_addFrom 92 = .ok (.istore 9, 2) := by decide +kernel
theorem dX1_addFrom_94 : decode cX1_addFrom 94 = .ok (.iload 4, 2) := by decide +kernel
theorem dX1_addFrom_96 : decode cX1_addFrom 96 = .ok (.iload 5, 2) := by decide +kernel
theorem dX1_addFrom_98 : decode cX1_addFrom 98 = .ok (.ior, 1) := by decide +kernel
theorem dX1_addFrom_99 : decode cX1_addFrom 99 = .ok (.iload 6, 2) := by decide +kernel
theorem dX1_addFrom_101 : decode cX1_addFrom 101 = .ok (.ior, 1) := by decide +kernel
theorem dX1_addFrom_102 : decode cX1_addFrom 102 = .ok (.istore 10, 2) := by decide +kernel
theorem dX1_addFrom_104 : decode cX1_addFrom 104 = .ok (.getstatic 83, 3) := by decide +kernel
theorem dX1_addFrom_107 : decode cX1_addFrom 107 = .ok (.iload 7, 2) := by decide +kernel
theorem dX1_addFrom_109 : decode cX1_addFrom 109 = .ok (.iaload, 1) := by decide +kernel
theorem dX1_addFrom_110 : decode cX1_addFrom 110 = .ok (.istore 11, 2) := by decide +kernel
theorem dX1_addFrom_112 : decode cX1_addFrom 112 = .ok (.iload 11, 2) := by decide +kernel
theorem dX1_addFrom_114 : decode cX1_addFrom 114 = .ok (.getstatic 83, 3) := by decide +kernel
theorem dX1_addFrom_117 : decode cX1_addFrom 117 = .ok (.iload 7, 2) := by decide +kernel
theorem dX1_addFrom_119 : decode cX1_addFrom 119 = .ok (.iconst 1, 1) := by decide +kernel
theorem dX1_addFrom_120 : decode cX1_addFrom 120 = .ok (.iadd, 1) := by decide +kernel
theorem dX1_addFrom_121 : decode cX1_addFrom 121 = .ok (.iaload, 1) := by decide +kernel
theorem dX1_addFrom_122 : decode cX1_addFrom 122 = .ok (.if_icmp .ge 91, 3) := by decide +kernel
theorem dX1_addFrom_125 : decode cX1_addFrom 125 = .ok (.getstatic 86, 3) := by decide +kernel
theorem dX1_addFrom_128 : decode cX1_addFrom 128 = .ok (.iload 11, 2) := by decide +kernel
theorem dX1_addFrom_130 : decode cX1_addFrom 130 = .ok (.iaload, 1) := by decide +kernel
theorem dX1_addFrom_131 : decode cX1_addFrom 131 = .ok (.istore 12, 2) := by decide +kernel
theorem dX1_addFrom_133 : decode cX1_addFrom 133 = .ok (.iload 12, 2) := by decide +kernel
theorem dX1_addFrom_135 : decode cX1_addFrom 135 = .ok (.iload 9, 2) := by decide +kernel
theorem dX1_addFrom_137 : decode cX1_addFrom 137 = .ok (.iand, 1) := by decide +kernel
theorem dX1_addFrom_138 : decode cX1_addFrom 138 = .ok (.iload 9, 2) := by decide +kernel
theorem dX1_addFrom_140 : decode cX1_addFrom 140 = .ok (.if_icmp .ne 67, 3) := by decide +kernel
theorem dX1_addFrom_143 : decode cX1_addFrom 143 = .ok (.iload 12, 2) := by decide +kernel
theorem dX1_addFrom_145 : decode cX1_addFrom 145 = .ok (.iload 10, 2) := by decide +kernel
theorem dX1_addFrom_147 : decode cX1_addFrom 147 = .ok (.iconst (-1), 1) := by decide +kernel
theorem dX1_addFrom_148 : decode cX1_addFrom 148 = .ok (.ixor, 1) := by decide +kernel
theorem dX1_addFrom_149 : decode cX1_addFrom 149 = .ok (.iand, 1) := by decide +kernel
theorem dX1_addFrom_150 : decode cX1_addFrom 150 = .ok (.ifCond .ne 57, 3) := by decide +kernel
theorem dX1_addFrom_153 : decode cX1_addFrom 153 = .ok (.iload 12, 2) := by decide +kernel
theorem dX1_addFrom_155 : decode cX1_addFrom 155 = .ok (.iload 4, 2) := by decide +kernel
theorem dX1_addFrom_157 : decode cX1_addFrom 157 = .ok (.iconst (-1), 1) := by decide +kernel
theorem dX1_addFrom_158 : decode cX1_addFrom 158 = .ok (.ixor, 1) := by decide +kernel
theorem dX1_addFrom_159 : decode cX1_addFrom 159 = .ok (.iand, 1) := by decide +kernel
theorem dX1_addFrom_160 : decode cX1_addFrom 160 = .ok (.istore 13, 2) := by decide +kernel
theorem dX1_addFrom_162 : decode cX1_addFrom 162 = .ok (.iload 13, 2) := by decide +kernel
theorem dX1_addFrom_164 : decode cX1_addFrom 164 = .ok (.iload 5, 2) := by decide +kernel
theorem dX1_addFrom_166 : decode cX1_addFrom 166 = .ok (.iconst (-1), 1) := by decide +kernel
theorem dX1_addFrom_167 : decode cX1_addFrom 167 = .ok (.ixor, 1) := by decide +kernel
theorem dX1_addFrom_168 : decode cX1_addFrom 168 = .ok (.iand, 1) := by decide +kernel
theorem dX1_addFrom_169 : decode cX1_addFrom 169 = .ok (.istore 14, 2) := by decide +kernel
theorem dX1_addFrom_171 : decode cX1_addFrom 171 = .ok (.iload_n 3, 1) := by decide +kernel
theorem dX1_addFrom_172 : decode cX1_addFrom 172 = .ok (.aload_n 1, 1) := by decide +kernel
theorem dX1_addFrom_173 : decode cX1_addFrom 173 = .ok (.iload 12, 2) := by decide +kernel
theorem dX1_addFrom_175 : decode cX1_addFrom 175 = .ok (.iload_n 2, 1) := by decide +kernel
theorem dX1_addFrom_176 : decode cX1_addFrom 176 = .ok (.invokevirtual 89, 3) := by decide +kernel
theorem dX1_addFrom_179 : decode cX1_addFrom 179 = .ok (.ior, 1) := by decide +kernel
theorem dX1_addFrom_180 : decode cX1_addFrom 180 = .ok (.istore 15, 2) := by decide +kernel
theorem dX1_addFrom_182 : decode cX1_addFrom 182 = .ok (.aload_n 0, 1) := by decide +kernel
theorem dX1_addFrom_183 : decode cX1_addFrom 183 = .ok (.aload_n 1, 1) := by decide +kernel
theorem dX1_addFrom_184 : decode cX1_addFrom 184 = .ok (.iload_n 2, 1) := by decide +kernel
theorem dX1_addFrom_185 : decode cX1_addFrom 185 = .ok (.iconst 1, 1) := by decide +kernel
theorem dX1_addFrom_186 : decode cX1_addFrom 186 = .ok (.iadd, 1) := by decide +kernel
theorem dX1_addFrom_187 : decode cX1_addFrom 187 = .ok (.iload 15, 2) := by decide +kernel
theorem dX1_addFrom_189 : decode cX1_addFrom 189 = .ok (.iload 4, 2) := by decide +kernel
theorem dX1_addFrom_191 : decode cX1_addFrom 191 = .ok (.iload 12, 2) := by decide +kernel
theorem dX1_addFrom_193 : decode cX1_addFrom 193 = .ok (.ixor, 1) := by decide +kernel
theorem dX1_addFrom_194 : decode cX1_addFrom 194 = .ok (.iload 5, 2) := by decide +kernel
theorem dX1_addFrom_196 : decode cX1_addFrom 196 = .ok (.iload 13, 2) := by decide +kernel
theorem dX1_addFrom_198 : decode cX1_addFrom 198 = .ok (.ixor, 1) := by decide +kernel
theorem dX1_addFrom_199 : decode cX1_addFrom 199 = .ok (.iload 6, 2) := by decide +kernel
theorem dX1_addFrom_201 : decode cX1_addFrom 201 = .ok (.iload 14, 2) := by decide +kernel
theorem dX1_addFrom_203 : decode cX1_addFrom 203 = .ok (.ixor, 1) := by decide +kernel
theorem dX1_addFrom_204 : decode cX1_addFrom 204 = .ok (.invokestatic 50, 3) := by decide +kernel
theorem dX1_addFrom_207 : decode cX1_addFrom 207 = .ok (.iinc 11 1, 3) := by decide +kernel
theorem dX1_addFrom_210 : decode cX1_addFrom 210 = .ok (.goto (-98), 3) := by decide +kernel
theorem dX1_addFrom_213 : decode cX1_addFrom 213 = .ok (.return_, 1) := by decide +kernel
theorem dX1_addUnpinned_0 : decode cX1_addUnpinned 0 = .ok (.aload_n 0, 1) := by decide +kernel
theorem dX1_addUnpinned_1 : decode cX1_addUnpinned 1 = .ok (.getfield 43, 3) := by decide +kernel
theorem dX1_addUnpinned_4 : decode cX1_addUnpinned 4 = .ok (.sipush 310, 3) := by decide +kernel
theorem dX1_addUnpinned_7 : decode cX1_addUnpinned 7 = .ok (.if_icmp .ge 23, 3) := by decide +kernel
theorem dX1_addUnpinned_10 : decode cX1_addUnpinned 10 = .ok (.aload_n 0, 1) := by decide +kernel
theorem dX1_addUnpinned_11 : decode cX1_addUnpinned 11 = .ok (.getfield 9, 3) := by decide +kernel
theorem dX1_addUnpinned_14 : decode cX1_addUnpinned 14 = .ok (.aload_n 0, 1) := by decide +kernel
theorem dX1_addUnpinned_15 : decode cX1_addUnpinned 15 = .ok (.getfield 43, 3) := by decide +kernel
theorem dX1_addUnpinned_18 : decode cX1_addUnpinned 18 = .ok (.iload_n 1, 1) := by decide +kernel
theorem dX1_addUnpinned_19 : decode cX1_addUnpinned 19 = .ok (.iastore, 1) := by decide +kernel
theorem dX1_addUnpinned_20 : decode cX1_addUnpinned 20 = .ok (.aload_n 0, 1) := by decide +kernel
theorem dX1_addUnpinned_21 : decode cX1_addUnpinned 21 = .ok (.dup, 1) := by decide +kernel
theorem dX1_addUnpinned_22 : decode cX1_addUnpinned 22 = .ok (.getfield 43, 3) := by decide +kernel
theorem dX1_addUnpinned_25 : decode cX1_addUnpinned 25 = .ok (.iconst 1, 1) := by decide +kernel
theorem dX1_addUnpinned_26 : decode cX1_addUnpinned 26 = .ok (.iadd, 1) := by decide +kernel
theorem dX1_addUnpinned_27 : decode cX1_addUnpinned 27 = .ok (.putfield 43, 3) := by decide +kernel
theorem dX1_addUnpinned_30 : decode cX1_addUnpinned 30 = .ok (.return_, 1) := by decide +kernel
theorem dX1_narrowTo_0 : decode cX1_narrowTo 0 = .ok (.aload_n 0, 1) := by decide +kernel
theorem dX1_narrowTo_1 : decode cX1_narrowTo 1 = .ok (.iconst 0, 1) := by decide +kernel
theorem dX1_narrowTo_2 : decode cX1_narrowTo 2 = .ok (.putfield 92, 3) := by decide +kernel
theorem dX1_narrowTo_5 : decode cX1_narrowTo 5 = .ok (.aload_n 0, 1) := by decide +kernel
theorem dX1_narrowTo_6 : decode cX1_narrowTo 6 = .ok (.iconst (-1), 1) := by decide +kernel
theorem dX1_narrowTo_7 : decode cX1_narrowTo 7 = .ok (.putfield 95, 3) := by decide +kernel
theorem dX1_narrowTo_10 : decode cX1_narrowTo 10 = .ok (.aload_n 0, 1) := by decide +kernel
theorem dX1_narrowTo_11 : decode cX1_narrowTo 11 = .ok (.iconst 0, 1) := by decide +kernel
theorem dX1_narrowTo_12 : decode cX1_narrowTo 12 = .ok (.putfield 98, 3) := by decide +kernel
theorem dX1_narrowTo_15 : decode cX1_narrowTo 15 = .ok (.iconst 0, 1) := by decide +kernel
theorem dX1_narrowTo_16 : decode cX1_narrowTo 16 = .ok (.istore_n 2, 1) := by decide +kernel
theorem dX1_narrowTo_17 : decode cX1_narrowTo 17 = .ok (.iload_n 2, 1) := by decide +kernel
theorem dX1_narrowTo_18 : decode cX1_narrowTo 18 = .ok (.aload_n 0, 1) := by decide +kernel
theorem dX1_narrowTo_19 : decode cX1_narrowTo 19 = .ok (.getfield 43, 3) := by decide +kernel
theorem dX1_narrowTo_22 : decode cX1_narrowTo 22 = .ok (.if_icmp .ge 69, 3) := by decide +kernel
theorem dX1_narrowTo_25 : decode cX1_narrowTo 25 = .ok (.aload_n 0, 1) := by decide +kernel
theorem dX1_narrowTo_26 : decode cX1_narrowTo 26 = .ok (.getfield 9, 3) := by decide +kernel
theorem dX1_narrowTo_29 : decode cX1_narrowTo 29 = .ok (.iload_n 2, 1) := by decide +kernel
theorem dX1_narrowTo_30 : decode cX1_narrowTo 30 = .ok (.iaload, 1) := by decide +kernel
theorem dX1_narrowTo_31 : decode cX1_narrowTo 31 = .ok (.istore_n 3, 1) := by decide +kernel
theorem dX1_narrowTo_32 : decode cX1_narrowTo 32 = .ok (.iload_n 3, 1) := by decide +kernel
theorem dX1_narrowTo_33 : decode cX1_narrowTo 33 = .ok (.aload_n 1, 1) := by decide +kernel
theorem dX1_narrowTo_34 : decode cX1_narrowTo 34 = .ok (.getfield 30, 3) := by decide +kernel
theorem dX1_narrowTo_37 : decode cX1_narrowTo 37 = .ok (.iand, 1) := by decide +kernel
theorem dX1_narrowTo_38 : decode cX1_narrowTo 38 = .ok (.aload_n 1, 1) := by decide +kernel
theorem dX1_narrowTo_39 : decode cX1_narrowTo 39 = .ok (.getfield 37, 3) := by decide +kernel
theorem dX1_narrowTo_42 : decode cX1_narrowTo 42 = .ok (.if_icmp .ne 43, 3) := by decide +kernel
theorem dX1_narrowTo_45 : decode cX1_narrowTo 45 = .ok (.aload_n 0, 1) := by decide +kernel
theorem dX1_narrowTo_46 : decode cX1_narrowTo 46 = .ok (.getfield 15, 3) := by decide +kernel
theorem dX1_narrowTo_49 : decode cX1_narrowTo 49 = .ok (.aload_n 0, 1) := by decide +kernel
theorem dX1_narrowTo_50 : decode cX1_narrowTo 50 = .ok (.getfield 92, 3) := by decide +kernel
theorem dX1_narrowTo_53 : decode cX1_narrowTo 53 = .ok (.iload_n 3, 1) := by decide +kernel
theorem dX1_narrowTo_54 : decode cX1_narrowTo 54 = .ok (.iastore, 1) := by decide +kernel
theorem dX1_narrowTo_55 : decode cX1_narrowTo 55 = .ok (.aload_n 0, 1) := by decide +kernel
theorem dX1_narrowTo_56 : decode cX1_narrowTo 56 = .ok (.dup, 1) := by decide +kernel
theorem dX1_narrowTo_57 : decode cX1_narrowTo 57 = .ok (.getfield 92, 3) := by decide +kernel
theorem dX1_narrowTo_60 : decode cX1_narrowTo 60 = .ok (.iconst 1, 1) := by decide +kernel
theorem dX1_narrowTo_61 : decode cX1_narrowTo 61 = .ok (.iadd, 1) := by decide +kernel
theorem dX1_narrowTo_62 : decode cX1_narrowTo 62 = .ok (.putfield 92, 3) := by decide +kernel
theorem dX1_narrowTo_65 : decode cX1_narrowTo 65 = .ok (.aload_n 0, 1) := by decide +kernel
theorem dX1_narrowTo_66 : decode cX1_narrowTo 66 = .ok (.dup, 1) := by decide +kernel
theorem dX1_narrowTo_67 : decode cX1_narrowTo 67 = .ok (.getfield 95, 3) := by decide +kernel
theorem dX1_narrowTo_70 : decode cX1_narrowTo 70 = .ok (.iload_n 3, 1) := by decide +kernel
theorem dX1_narrowTo_71 : decode cX1_narrowTo 71 = .ok (.iand, 1) := by decide +kernel
theorem dX1_narrowTo_72 : decode cX1_narrowTo 72 = .ok (.putfield 95, 3) := by decide +kernel
theorem dX1_narrowTo_75 : decode cX1_narrowTo 75 = .ok (.aload_n 0, 1) := by decide +kernel
theorem dX1_narrowTo_76 : decode cX1_narrowTo 76 = .ok (.dup, 1) := by decide +kernel
theorem dX1_narrowTo_77 : decode cX1_narrowTo 77 = .ok (.getfield 98, 3) := by decide +kernel
theorem dX1_narrowTo_80 : decode cX1_narrowTo 80 = .ok (.iload_n 3, 1) := by decide +kernel
theorem dX1_narrowTo_81 : decode cX1_narrowTo 81 = .ok (.ior, 1) := by decide +kernel
theorem dX1_narrowTo_82 : decode cX1_narrowTo 82 = .ok (.putfield 98, 3) := by decide +kernel
theorem dX1_narrowTo_85 : decode cX1_narrowTo 85 = .ok (.iinc 2 1, 3) := by decide +kernel
theorem dX1_narrowTo_88 : decode cX1_narrowTo 88 = .ok (.goto (-71), 3) := by decide +kernel
theorem dX1_narrowTo_91 : decode cX1_narrowTo 91 = .ok (.return_, 1) := by decide +kernel
theorem dX1_numberOf_0 : decode cX1_numberOf 0 = .ok (.iconst 0, 1) := by decide +kernel
theorem dX1_numberOf_1 : decode cX1_numberOf 1 = .ok (.istore_n 2, 1) := by decide +kernel
theorem dX1_numberOf_2 : decode cX1_numberOf 2 = .ok (.sipush 256, 3) := by decide +kernel
theorem dX1_numberOf_5 : decode cX1_numberOf 5 = .ok (.istore_n 3, 1) := by decide +kernel
theorem dX1_numberOf_6 : decode cX1_numberOf 6 = .ok (.iload_n 3, 1) := by decide +kernel
theorem dX1_numberOf_7 : decode cX1_numberOf 7 = .ok (.ifCond .le 38, 3) := by decide +kernel
theorem dX1_numberOf_10 : decode cX1_numberOf 10 = .ok (.iload_n 2, 1) := by decide +kernel
theorem dX1_numberOf_11 : decode cX1_numberOf 11 = .ok (.iload_n 3, 1) := by decide +kernel
theorem dX1_numberOf_12 : decode cX1_numberOf 12 = .ok (.iadd, 1) := by decide +kernel
theorem dX1_numberOf_13 : decode cX1_numberOf 13 = .ok (.istore 4, 2) := by decide +kernel
theorem dX1_numberOf_15 : decode cX1_numberOf 15 = .ok (.iload 4, 2) := by decide +kernel
theorem dX1_numberOf_17 : decode cX1_numberOf 17 = .ok (.aload_n 0, 1) := by decide +kernel
theorem dX1_numberOf_18 : decode cX1_numberOf 18 = .ok (.getfield 92, 3) := by decide +kernel
theorem dX1_numberOf_21 : decode cX1_numberOf 21 = .ok (.if_icmp .ge 17, 3) := by decide +kernel
theorem dX1_numberOf_24 : decode cX1_numberOf 24 = .ok (.aload_n 0, 1) := by decide +kernel
theorem dX1_numberOf_25 : decode cX1_numberOf 25 = .ok (.getfield 15, 3) := by decide +kernel
theorem dX1_numberOf_28 : decode cX1_numberOf 28 = .ok (.iload 4, 2) := by decide +kernel
theorem dX1_numberOf_30 : decode cX1_numberOf 30 = .ok (.iaload, 1) := by decide +kernel
theorem dX1_numberOf_31 : decode cX1_numberOf 31 = .ok (.iload_n 1, 1) := by decide +kernel
theorem dX1_numberOf_32 : decode cX1_numberOf 32 = .ok (.if_icmp .gt 6, 3) := by decide +kernel
theorem dX1_numberOf_35 : decode cX1_numberOf 35 = .ok (.iload 4, 2) := by decide +kernel
theorem dX1_numberOf_37 : decode cX1_numberOf 37 = .ok (.istore_n 2, 1) := by decide +kernel
theorem dX1_numberOf_38 : decode cX1_numberOf 38 = .ok (.iload_n 3, 1) := by decide +kernel
theorem dX1_numberOf_39 : decode cX1_numberOf 39 = .ok (.iconst 2, 1) := by decide +kernel
theorem dX1_numberOf_40 : decode cX1_numberOf 40 = .ok (.idiv, 1) := by decide +kernel
theorem dX1_numberOf_41 : decode cX1_numberOf 41 = .ok (.istore_n 3, 1) := by decide +kernel
theorem dX1_numberOf_42 : decode cX1_numberOf 42 = .ok (.goto (-36), 3) := by decide +kernel
theorem dX1_numberOf_45 : decode cX1_numberOf 45 = .ok (.iload_n 2, 1) := by decide +kernel
theorem dX1_numberOf_46 : decode cX1_numberOf 46 = .ok (.aload_n 0, 1) := by decide +kernel
theorem dX1_numberOf_47 : decode cX1_numberOf 47 = .ok (.getfield 92, 3) := by decide +kernel
theorem dX1_numberOf_50 : decode cX1_numberOf 50 = .ok (.if_icmp .ge 17, 3) := by decide +kernel
theorem dX1_numberOf_53 : decode cX1_numberOf 53 = .ok (.aload_n 0, 1) := by decide +kernel
theorem dX1_numberOf_54 : decode cX1_numberOf 54 = .ok (.getfield 15, 3) := by decide +kernel
theorem dX1_numberOf_57 : decode cX1_numberOf 57 = .ok (.iload_n 2, 1) := by decide +kernel
theorem dX1_numberOf_58 : decode cX1_numberOf 58 = .ok (.iaload, 1) := by decide +kernel
theorem dX1_numberOf_59 : decode cX1_numberOf 59 = .ok (.iload_n 1, 1) := by decide +kernel
theorem dX1_numberOf_60 : decode cX1_numberOf 60 = .ok (.if_icmp .ne 7, 3) := by decide +kernel
theorem dX1_numberOf_63 : decode cX1_numberOf 63 = .ok (.iload_n 2, 1) := by decide +kernel
theorem dX1_numberOf_64 : decode cX1_numberOf 64 = .ok (.goto 5, 3) := by decide +kernel
theorem dX1_numberOf_67 : decode cX1_numberOf 67 = .ok (.bipush (-9), 2) := by decide +kernel
theorem dX1_numberOf_69 : decode cX1_numberOf 69 = .ok (.ireturn, 1) := by decide +kernel
theorem dX1_openCells_0 : decode cX1_openCells 0 = .ok (.aload_n 0, 1) := by decide +kernel
theorem dX1_openCells_1 : decode cX1_openCells 1 = .ok (.getfield 98, 3) := by decide +kernel
theorem dX1_openCells_4 : decode cX1_openCells 4 = .ok (.aload_n 0, 1) := by decide +kernel
theorem dX1_openCells_5 : decode cX1_openCells 5 = .ok (.getfield 95, 3) := by decide +kernel
theorem dX1_openCells_8 : decode cX1_openCells 8 = .ok (.iconst (-1), 1) := by decide +kernel
theorem dX1_openCells_9 : decode cX1_openCells 9 = .ok (.ixor, 1) := by decide +kernel
theorem dX1_openCells_10 : decode cX1_openCells 10 = .ok (.iand, 1) := by decide +kernel
theorem dX1_openCells_11 : decode cX1_openCells 11 = .ok (.ireturn, 1) := by decide +kernel
theorem dX1_sureAt_0 : decode cX1_sureAt 0 = .ok (.aload_n 0, 1) := by decide +kernel
theorem dX1_sureAt_1 : decode cX1_sureAt 1 = .ok (.getfield 92, 3) := by decide +kernel
theorem dX1_sureAt_4 : decode cX1_sureAt 4 = .ok (.ifCond .ne 6, 3) := by decide +kernel
theorem dX1_sureAt_7 : decode cX1_sureAt 7 = .ok (.bipush (-9), 2) := by decide +kernel
theorem dX1_sureAt_9 : decode cX1_sureAt 9 = .ok (.ireturn, 1) := by decide +kernel
theorem dX1_sureAt_10 : decode cX1_sureAt 10 = .ok (.aload_n 0, 1) := by decide +kernel
theorem dX1_sureAt_11 : decode cX1_sureAt 11 = .ok (.invokevirtual 101, 3) := by decide +kernel
theorem dX1_sureAt_14 : decode cX1_sureAt 14 = .ok (.iload_n 1, 1) := by decide +kernel
theorem dX1_sureAt_15 : decode cX1_sureAt 15 = .ok (.invokestatic 105, 3) := by decide +kernel
theorem dX1_sureAt_18 : decode cX1_sureAt 18 = .ok (.iconst 1, 1) := by decide +kernel
theorem dX1_sureAt_19 : decode cX1_sureAt 19 = .ok (.if_icmp .ne 7, 3) := by decide +kernel
theorem dX1_sureAt_22 : decode cX1_sureAt 22 = .ok (.iconst 2, 1) := by decide +kernel
theorem dX1_sureAt_23 : decode cX1_sureAt 23 = .ok (.goto 11, 3) := by decide +kernel
theorem dX1_sureAt_26 : decode cX1_sureAt 26 = .ok (.aload_n 0, 1) := by decide +kernel
theorem dX1_sureAt_27 : decode cX1_sureAt 27 = .ok (.getfield 95, 3) := by decide +kernel
theorem dX1_sureAt_30 : decode cX1_sureAt 30 = .ok (.iload_n 1, 1) := by decide +kernel
theorem dX1_sureAt_31 : decode cX1_sureAt 31 = .ok (.invokestatic 105, 3) := by decide +kernel
theorem dX1_sureAt_34 : decode cX1_sureAt 34 = .ok (.ireturn, 1) := by decide +kernel
theorem dX1_yesAt_0 : decode cX1_yesAt 0 = .ok (.iload_n 1, 1) := by decide +kernel
theorem dX1_yesAt_1 : decode cX1_yesAt 1 = .ok (.invokestatic 108, 3) := by decide +kernel
theorem dX1_yesAt_4 : decode cX1_yesAt 4 = .ok (.istore_n 2, 1) := by decide +kernel
theorem dX1_yesAt_5 : decode cX1_yesAt 5 = .ok (.iconst 0, 1) := by decide +kernel
theorem dX1_yesAt_6 : decode cX1_yesAt 6 = .ok (.istore_n 3, 1) := by decide +kernel
theorem dX1_yesAt_7 : decode cX1_yesAt 7 = .ok (.iconst 0, 1) := by decide +kernel
theorem dX1_yesAt_8 : decode cX1_yesAt 8 = .ok (.istore 4, 2) := by decide +kernel
theorem dX1_yesAt_10 : decode cX1_yesAt 10 = .ok (.iload 4, 2) := by decide +kernel
theorem dX1_yesAt_12 : decode cX1_yesAt 12 = .ok (.aload_n 0, 1) := by decide +kernel
theorem dX1_yesAt_13 : decode cX1_yesAt 13 = .ok (.getfield 92, 3) := by decide +kernel
theorem dX1_yesAt_16 : decode cX1_yesAt 16 = .ok (.if_icmp .ge 29, 3) := by decide +kernel
theorem dX1_yesAt_19 : decode cX1_yesAt 19 = .ok (.iload_n 3, 1) := by decide +kernel
theorem dX1_yesAt_20 : decode cX1_yesAt 20 = .ok (.aload_n 0, 1) := by decide +kernel
theorem dX1_yesAt_21 : decode cX1_yesAt 21 = .ok (.getfield 15, 3) := by decide +kernel
theorem dX1_yesAt_24 : decode cX1_yesAt 24 = .ok (.iload 4, 2) := by decide +kernel
theorem dX1_yesAt_26 : decode cX1_yesAt 26 = .ok (.iaload, 1) := by decide +kernel
theorem dX1_yesAt_27 : decode cX1_yesAt 27 = .ok (.iload_n 2, 1) := by decide +kernel
theorem dX1_yesAt_28 : decode cX1_yesAt 28 = .ok (.iand, 1) := by decide +kernel
theorem dX1_yesAt_29 : decode cX1_yesAt 29 = .ok (.ifCond .eq 7, 3) := by decide +kernel
theorem dX1_yesAt_32 : decode cX1_yesAt 32 = .ok (.iconst 1, 1) := by decide +kernel
theorem dX1_yesAt_33 : decode cX1_yesAt 33 = .ok (.goto 4, 3) := by decide +kernel
theorem dX1_yesAt_36 : decode cX1_yesAt 36 = .ok (.iconst 0, 1) := by decide +kernel
theorem dX1_yesAt_37 : decode cX1_yesAt 37 = .ok (.iadd, 1) := by decide +kernel
theorem dX1_yesAt_38 : decode cX1_yesAt 38 = .ok (.istore_n 3, 1) := by decide +kernel
theorem dX1_yesAt_39 : decode cX1_yesAt 39 = .ok (.iinc 4 1, 3) := by decide +kernel
theorem dX1_yesAt_42 : decode cX1_yesAt 42 = .ok (.goto (-32), 3) := by decide +kernel
theorem dX1_yesAt_45 : decode cX1_yesAt 45 = .ok (.iload_n 3, 1) := by decide +kernel
theorem dX1_yesAt_46 : decode cX1_yesAt 46 = .ok (.ireturn, 1) := by decide +kernel
theorem dX2_settle_0 : decode cX2_settle 0 = .ok (.aload_n 0, 1) := by decide +kernel
theorem dX2_settle_1 : decode cX2_settle 1 = .ok (.getfield 21, 3) := by decide +kernel
theorem dX2_settle_4 : decode cX2_settle 4 = .ok (.aload_n 0, 1) := by decide +kernel
theorem dX2_settle_5 : decode cX2_settle 5 = .ok (.getfield 12, 3) := by decide +kernel
theorem dX2_settle_8 : decode cX2_settle 8 = .ok (.invokevirtual 25, 3) := by decide +kernel
theorem dX2_settle_11 : decode cX2_settle 11 = .ok (.aload_n 0, 1) := by decide +kernel
theorem dX2_settle_12 : decode cX2_settle 12 = .ok (.getfield 21, 3) := by decide +kernel
theorem dX2_settle_15 : decode cX2_settle 15 = .ok (.aload_n 0, 1) := by decide +kernel
theorem dX2_settle_16 : decode cX2_settle 16 = .ok (.getfield 12, 3) := by decide +kernel
theorem dX2_settle_19 : decode cX2_settle 19 = .ok (.getfield 29, 3) := by decide +kernel
theorem dX2_settle_22 : decode cX2_settle 22 = .ok (.invokevirtual 33, 3) := by decide +kernel
theorem dX2_settle_25 : decode cX2_settle 25 = .ok (.bipush (-9), 2) := by decide +kernel
theorem dX2_settle_27 : decode cX2_settle 27 = .ok (.if_icmp .ne 33, 3) := by decide +kernel
theorem dX2_settle_30 : decode cX2_settle 30 = .ok (.aload_n 0, 1) := by decide +kernel
theorem dX2_settle_31 : decode cX2_settle 31 = .ok (.getfield 12, 3) := by decide +kernel
theorem dX2_settle_34 : decode cX2_settle 34 = .ok (.aload_n 0, 1) := by decide +kernel
theorem dX2_settle_35 : decode cX2_settle 35 = .ok (.getfield 21, 3) := by decide +kernel
theorem dX2_settle_38 : decode cX2_settle 38 = .ok (.getfield 37, 3) := by decide +kernel
theorem dX2_settle_41 : decode cX2_settle 41 = .ok (.ifCond .le 15, 3) := by decide +kernel
theorem dX2_settle_44 : decode cX2_settle 44 = .ok (.aload_n 0, 1) := by decide +kernel
theorem dX2_settle_45 : decode cX2_settle 45 = .ok (.getfield 21, 3) := by decide +kernel
theorem dX2_settle_48 : decode cX2_settle 48 = .ok (.getfield 40, 3) := by decide +kernel
theorem dX2_settle_51 : decode cX2_settle 51 = .ok (.iconst 0, 1) := by decide +kernel
theorem dX2_settle_52 : decode cX2_settle 52 = .ok (.iaload, 1) := by decide +kernel
theorem dX2_settle_53 : decode cX2_settle 53 = .ok (.goto 4, 3) := by decide +kernel
theorem dX2_settle_56 : decode cX2_settle 56 = .ok (.iconst (-1), 1) := by decide +kernel
theorem dX2_settle_57 : decode cX2_settle 57 = .ok (.putfield 29, 3) := by decide +kernel
theorem dX2_settle_60 : decode cX2_settle 60 = .ok (.return_, 1) := by decide +kernel
theorem dX2_planeAt_0 : decode cX2_planeAt 0 = .ok (.aload_n 0, 1) := by decide +kernel
theorem dX2_planeAt_1 : decode cX2_planeAt 1 = .ok (.getfield 12, 3) := by decide +kernel
theorem dX2_planeAt_4 : decode cX2_planeAt 4 = .ok (.getfield 29, 3) := by decide +kernel
theorem dX2_planeAt_7 : decode cX2_planeAt 7 = .ok (.iconst (-1), 1) := by decide +kernel
theorem dX2_planeAt_8 : decode cX2_planeAt 8 = .ok (.if_icmp .ne 8, 3) := by decide +kernel
theorem dX2_planeAt_11 : decode cX2_planeAt 11 = .ok (.bipush (-9), 2) := by decide +kernel
theorem dX2_planeAt_13 : decode cX2_planeAt 13 = .ok (.goto 14, 3) := by decide +kernel
theorem dX2_planeAt_16 : decode cX2_planeAt 16 = .ok (.aload_n 0, 1) := by decide +kernel
theorem dX2_planeAt_17 : decode cX2_planeAt 17 = .ok (.getfield 12, 3) := by decide +kernel
theorem dX2_planeAt_20 : decode cX2_planeAt 20 = .ok (.getfield 29, 3) := by decide +kernel
theorem dX2_planeAt_23 : decode cX2_planeAt 23 = .ok (.iload_n 1, 1) := by decide +kernel
theorem dX2_planeAt_24 : decode cX2_planeAt 24 = .ok (.invokestatic 44, 3) := by decide +kernel
theorem dX2_planeAt_27 : decode cX2_planeAt 27 = .ok (.ireturn, 1) := by decide +kernel
theorem dX2_switchRefusal_0 : decode cX2_switchRefusal 0 = .ok (.aload_n 0, 1) := by decide +kernel
theorem dX2_switchRefusal_1 : decode cX2_switchRefusal 1 = .ok (.getfield 12, 3) := by decide +kernel
theorem dX2_switchRefusal_4 : decode cX2_switchRefusal 4 = .ok (.iload_n 1, 1) := by decide +kernel
theorem dX2_switchRefusal_5 : decode cX2_switchRefusal 5 = .ok (.invokevirtual 48, 3) := by decide +kernel
theorem dX2_switchRefusal_8 : decode cX2_switchRefusal 8 = .ok (.ifCond .eq 37, 3) := by decide +kernel
theorem dX2_switchRefusal_11 : decode cX2_switchRefusal 11 = .ok (.aload_n 0, 1) := by decide +kernel
theorem dX2_switchRefusal_12 : decode cX2_switchRefusal 12 = .ok (.getfield 12, 3) := by decide +kernel
theorem dX2_switchRefusal_15 : decode cX2_switchRefusal 15 = .ok (.iload_n 2, 1) := by decide +kernel
theorem dX2_switchRefusal_16 : decode cX2_switchRefusal 16 = .ok (.invokevirtual 48, 3) := by decide +kernel
theorem dX2_switchRefusal_19 : decode cX2_switchRefusal 19 = .ok (.ifCond .eq 26, 3) := by decide +kernel
theorem dX2_switchRefusal_22 : decode cX2_switchRefusal 22 = .ok (.aload_n 0, 1) := by decide +kernel
theorem dX2_switchRefusal_23 : decode cX2_switchRefusal 23 = .ok (.getfield 12, 3) := by decide +kernel
theorem dX2_switchRefusal_26 : decode cX2_switchRefusal 26 = .ok (.iload_n 3, 1) := by decide +kernel
theorem dX2_switchRefusal_27 : decode cX2_switchRefusal 27 = .ok (.invokevirtual 52, 3) := by decide +kernel
theorem dX2_switchRefusal_30 : decode cX2_switchRefusal 30 = .ok (.ifCond .eq 15, 3) := by decide +kernel
theorem dX2_switchRefusal_33 : decode cX2_switchRefusal 33 = .ok (.aload_n 0, 1) := by decide +kernel
theorem dX2_switchRefusal_34 : decode cX2_switchRefusal 34 = .ok (.getfield 12, 3) := by decide +kernel
theorem dX2_switchRefusal_37 : decode cX2_switchRefusal 37 = .ok (.iload 4, 2) := by decide +kernel
theorem dX2_switchRefusal_39 : decode cX2_switchRefusal 39 = .ok (.invokevirtual 52, 3) := by decide +kernel
theorem dX2_switchRefusal_42 : decode cX2_switchRefusal 42 = .ok (.ifCond .ne 5, 3) := by decide +kernel
theorem dX2_switchRefusal_45 : decode cX2_switchRefusal 45 = .ok (.iconst (-1), 1) := by decide +kernel
theorem dX2_switchRefusal_46 : decode cX2_switchRefusal 46 = .ok (.ireturn, 1) := by decide +kernel
theorem dX2_switchRefusal_47 : decode cX2_switchRefusal 47 = .ok (.aload_n 0, 1) := by decide +kernel
theorem dX2_switchRefusal_48 : decode cX2_switchRefusal 48 = .ok (.getfield 12, 3) := by decide +kernel
theorem dX2_switchRefusal_51 : decode cX2_switchRefusal 51 = .ok (.getfield 29, 3) := by decide +kernel
theorem dX2_switchRefusal_54 : decode cX2_switchRefusal 54 = .ok (.iconst (-1), 1) := by decide +kernel
theorem dX2_switchRefusal_55 : decode cX2_switchRefusal 55 = .ok (.if_icmp .eq 29, 3) := by decide +kernel
theorem dX2_switchRefusal_58 : decode cX2_switchRefusal 58 = .ok (.aload_n 0, 1) := by decide +kernel
theorem dX2_switchRefusal_59 : decode cX2_switchRefusal 59 = .ok (.getfield 12, 3) := by decide +kernel
theorem dX2_switchRefusal_62 : decode cX2_switchRefusal 62 = .ok (.aload_n 0, 1) := by decide +kernel
theorem dX2_switchRefusal_63 : decode cX2_switchRefusal 63 = .ok (.getfield 12, 3) := by decide +kernel
theorem dX2_switchRefusal_66 : decode cX2_switchRefusal 66 = .ok (.getfield 29, 3) := by decide +kernel
theorem dX2_switchRefusal_69 : decode cX2_switchRefusal 69 = .ok (.iload_n 1, 1) := by decide +kernel
theorem dX2_switchRefusal_70 : decode cX2_switchRefusal 70 = .ok (.iload_n 2, 1) := by decide +kernel
theorem dX2_switchRefusal_71 : decode cX2_switchRefusal 71 = .ok (.iload_n 3, 1) := by decide +kernel
theorem dX2_switchRefusal_72 : decode cX2_switchRefusal 72 = .ok (.iload 4, 2) := by decide +kernel
theorem dX2_switchRefusal_74 : decode cX2_switchRefusal 74 = .ok (.invokevirtual 55, 3) := by decide +kernel
theorem dX2_switchRefusal_77 : decode cX2_switchRefusal 77 = .ok (.ifCond .eq 7, 3) := by decide +kernel
theorem dX2_switchRefusal_80 : decode cX2_switchRefusal 80 = .ok (.iconst 1, 1) := by decide +kernel
theorem dX2_switchRefusal_81 : decode cX2_switchRefusal 81 = .ok (.goto 4, 3) := by decide +kernel
theorem dX2_switchRefusal_84 : decode cX2_switchRefusal 84 = .ok (.iconst 0, 1) := by decide +kernel
theorem dX2_switchRefusal_85 : decode cX2_switchRefusal 85 = .ok (.istore 5, 2) := by decide +kernel
theorem dX2_switchRefusal_87 : decode cX2_switchRefusal 87 = .ok (.iload 5, 2) := by decide +kernel
theorem dX2_switchRefusal_89 : decode cX2_switchRefusal 89 = .ok (.ifCond .eq 7, 3) := by decide +kernel
theorem dX2_switchRefusal_92 : decode cX2_switchRefusal 92 = .ok (.iconst 0, 1) := by decide +kernel
theorem dX2_switchRefusal_93 : decode cX2_switchRefusal 93 = .ok (.goto 5, 3) := by decide +kernel
theorem dX2_switchRefusal_96 : decode cX2_switchRefusal 96 = .ok (.bipush (-3), 2) := by decide +kernel
theorem dX2_switchRefusal_98 : decode cX2_switchRefusal 98 = .ok (.ireturn, 1) := by decide +kernel
theorem dX2_makeSwitch_0 : decode cX2_makeSwitch 0 = .ok (.aload_n 0, 1) := by decide +kernel
theorem dX2_makeSwitch_1 : decode cX2_makeSwitch 1 = .ok (.getfield 12, 3) := by decide +kernel
theorem dX2_makeSwitch_4 : decode cX2_makeSwitch 4 = .ok (.aload_n 0, 1) := by decide +kernel
theorem dX2_makeSwitch_5 : decode cX2_makeSwitch 5 = .ok (.getfield 12, 3) := by decide +kernel
theorem dX2_makeSwitch_8 : decode cX2_makeSwitch 8 = .ok (.aload_n 0, 1) := by decide +kernel
theorem dX2_makeSwitch_9 : decode cX2_makeSwitch 9 = .ok (.getfield 12, 3) := by decide +kernel
theorem dX2_makeSwitch_12 : decode cX2_makeSwitch 12 = .ok (.getfield 29, 3) := by decide +kernel
theorem dX2_makeSwitch_15 : decode cX2_makeSwitch 15 = .ok (.iload_n 1, 1) := by decide +kernel
theorem dX2_makeSwitch_16 : decode cX2_makeSwitch 16 = .ok (.iload_n 2, 1) := by decide +kernel
theorem dX2_makeSwitch_17 : decode cX2_makeSwitch 17 = .ok (.iload_n 3, 1) := by decide +kernel
theorem dX2_makeSwitch_18 : decode cX2_makeSwitch 18 = .ok (.iload 4, 2) := by decide +kernel
theorem dX2_makeSwitch_20 : decode cX2_makeSwitch 20 = .ok (.invokevirtual 59, 3) := by decide +kernel
theorem dX2_makeSwitch_23 : decode cX2_makeSwitch 23 = .ok (.putfield 29, 3) := by decide +kernel
theorem dX2_makeSwitch_26 : decode cX2_makeSwitch 26 = .ok (.return_, 1) := by decide +kernel
theorem dX2_totalRefusal_0 : decode cX2_totalRefusal 0 = .ok (.iload_n 1, 1) := by decide +kernel
theorem dX2_totalRefusal_1 : decode cX2_totalRefusal 1 = .ok (.ifCond .eq 11, 3) := by decide +kernel
theorem dX2_totalRefusal_4 : decode cX2_totalRefusal 4 = .ok (.iload_n 1, 1) := by decide +kernel
theorem dX2_totalRefusal_5 : decode cX2_totalRefusal 5 = .ok (.iconst 1, 1) := by decide +kernel
theorem dX2_totalRefusal_6 : decode cX2_totalRefusal 6 = .ok (.if_icmp .eq 6, 3) := by decide +kernel
theorem dX2_totalRefusal_9 : decode cX2_totalRefusal 9 = .ok (.bipush (-2), 2) := by decide +kernel
theorem dX2_totalRefusal_11 : decode cX2_totalRefusal 11 = .ok (.ireturn, 1) := by decide +kernel
theorem dX2_totalRefusal_12 : decode cX2_totalRefusal 12 = .ok (.aload_n 0, 1) := by decide +kernel
theorem dX2_totalRefusal_13 : decode cX2_totalRefusal 13 = .ok (.getfield 12, 3) := by decide +kernel
theorem dX2_totalRefusal_16 : decode cX2_totalRefusal 16 = .ok (.iload_n 1, 1) := by decide +kernel
theorem dX2_totalRefusal_17 : decode cX2_totalRefusal 17 = .ok (.iload_n 2, 1) := by decide +kernel
theorem dX2_totalRefusal_18 : decode cX2_totalRefusal 18 = .ok (.invokevirtual 63, 3) := by decide +kernel
theorem dX2_totalRefusal_21 : decode cX2_totalRefusal 21 = .ok (.ifCond .ne 5, 3) := by decide +kernel
theorem dX2_totalRefusal_24 : decode cX2_totalRefusal 24 = .ok (.iconst (-1), 1) := by decide +kernel
theorem dX2_totalRefusal_25 : decode cX2_totalRefusal 25 = .ok (.ireturn, 1) := by decide +kernel
theorem dX2_totalRefusal_26 : decode cX2_totalRefusal 26 = .ok (.iload_n 3, 1) := by decide +kernel
theorem dX2_totalRefusal_27 : decode cX2_totalRefusal 27 = .ok (.ifCond .lt 15, 3) := by decide +kernel
theorem dX2_totalRefusal_30 : decode cX2_totalRefusal 30 = .ok (.iload_n 3, 1) := by decide +kernel
theorem dX2_totalRefusal_31 : decode cX2_totalRefusal 31 = .ok (.aload_n 0, 1) := by decide +kernel
theorem dX2_totalRefusal_32 : decode cX2_totalRefusal 32 = .ok (.getfield 12, 3) := by decide +kernel
theorem dX2_totalRefusal_35 : decode cX2_totalRefusal 35 = .ok (.iload_n 1, 1) := by decide +kernel
theorem dX2_totalRefusal_36 : decode cX2_totalRefusal 36 = .ok (.invokevirtual 67, 3) := by decide +kernel
theorem dX2_totalRefusal_39 : decode cX2_totalRefusal 39 = .ok (.if_icmp .le 8, 3) := by decide +kernel
theorem dX2_totalRefusal_42 : decode cX2_totalRefusal 42 = .ok (.bipush (-2), 2) := by decide +kernel
theorem dX2_totalRefusal_44 : decode cX2_totalRefusal 44 = .ok (.goto 4, 3) := by decide +kernel
theorem dX2_totalRefusal_47 : decode cX2_totalRefusal 47 = .ok (.iconst 0, 1) := by decide +kernel
theorem dX2_totalRefusal_48 : decode cX2_totalRefusal 48 = .ok (.ireturn, 1) := by decide +kernel
theorem dX2_pinRefusal_0 : decode cX2_pinRefusal 0 = .ok (.aload_n 0, 1) := by decide +kernel
theorem dX2_pinRefusal_1 : decode cX2_pinRefusal 1 = .ok (.getfield 12, 3) := by decide +kernel
theorem dX2_pinRefusal_4 : decode cX2_pinRefusal 4 = .ok (.iload_n 1, 1) := by decide +kernel
theorem dX2_pinRefusal_5 : decode cX2_pinRefusal 5 = .ok (.invokevirtual 70, 3) := by decide +kernel
theorem dX2_pinRefusal_8 : decode cX2_pinRefusal 8 = .ok (.ifCond .ne 5, 3) := by decide +kernel
theorem dX2_pinRefusal_11 : decode cX2_pinRefusal 11 = .ok (.iconst (-1), 1) := by decide +kernel
theorem dX2_pinRefusal_12 : decode cX2_pinRefusal 12 = .ok (.ireturn, 1) := by decide +kernel
theorem dX2_pinRefusal_13 : decode cX2_pinRefusal 13 = .ok (.iload_n 2, 1) := by decide +kernel
theorem dX2_pinRefusal_14 : decode cX2_pinRefusal 14 = .ok (.ifCond .lt 8, 3) := by decide +kernel
theorem dX2_pinRefusal_17 : decode cX2_pinRefusal 17 = .ok (.iload_n 2, 1) := by decide +kernel
theorem dX2_pinRefusal_18 : decode cX2_pinRefusal 18 = .ok (.iconst 2, 1) := by decide +kernel
theorem dX2_pinRefusal_19 : decode cX2_pinRefusal 19 = .ok (.if_icmp .le 6, 3) := by decide +kernel
theorem dX2_pinRefusal_22 : decode cX2_pinRefusal 22 = .ok (.bipush (-2), 2) := by decide +kernel
theorem dX2_pinRefusal_24 : decode cX2_pinRefusal 24 = .ok (.ireturn, 1) := by decide +kernel
theorem dX2_pinRefusal_25 : decode cX2_pinRefusal 25 = .ok (.iload_n 2, 1) := by decide +kernel
theorem dX2_pinRefusal_26 : decode cX2_pinRefusal 26 = .ok (.ifCond .eq 18, 3) := by decide +kernel
theorem dX2_pinRefusal_29 : decode cX2_pinRefusal 29 = .ok (.aload_n 0, 1) := by decide +kernel
theorem dX2_pinRefusal_30 : decode cX2_pinRefusal 30 = .ok (.getfield 12, 3) := by decide +kernel
theorem dX2_pinRefusal_33 : decode cX2_pinRefusal 33 = .ok (.iload_n 1, 1) := by decide +kernel
theorem dX2_pinRefusal_34 : decode cX2_pinRefusal 34 = .ok (.invokevirtual 73, 3) := by decide +kernel
theorem dX2_pinRefusal_37 : decode cX2_pinRefusal 37 = .ok (.ifCond .ne 7, 3) := by decide +kernel
theorem dX2_pinRefusal_40 : decode cX2_pinRefusal 40 = .ok (.iconst 1, 1) := by decide +kernel
theorem dX2_pinRefusal_41 : decode cX2_pinRefusal 41 = .ok (.goto 4, 3) := by decide +kernel
theorem dX2_pinRefusal_44 : decode cX2_pinRefusal 44 = .ok (.iconst 0, 1) := by decide +kernel
theorem dX2_pinRefusal_45 : decode cX2_pinRefusal 45 = .ok (.istore_n 3, 1) := by decide +kernel
theorem dX2_pinRefusal_46 : decode cX2_pinRefusal 46 = .ok (.iload_n 3, 1) := by decide +kernel
theorem dX2_pinRefusal_47 : decode cX2_pinRefusal 47 = .ok (.ifCond .eq 20, 3) := by decide +kernel
theorem dX2_pinRefusal_50 : decode cX2_pinRefusal 50 = .ok (.aload_n 0, 1) := by decide +kernel
theorem dX2_pinRefusal_51 : decode cX2_pinRefusal 51 = .ok (.getfield 12, 3) := by decide +kernel
theorem dX2_pinRefusal_54 : decode cX2_pinRefusal 54 = .ok (.invokevirtual 76, 3) := by decide +kernel
theorem dX2_pinRefusal_57 : decode cX2_pinRefusal 57 = .ok (.bipush 6, 2) := by decide +kernel
theorem dX2_pinRefusal_59 : decode cX2_pinRefusal 59 = .ok (.if_icmp .lt 8, 3) := by decide +kernel
theorem dX2_pinRefusal_62 : decode cX2_pinRefusal 62 = .ok (.bipush (-4), 2) := by decide +kernel
theorem dX2_pinRefusal_64 : decode cX2_pinRefusal 64 = .ok (.goto 4, 3) := by decide +kernel
theorem dX2_pinRefusal_67 : decode cX2_pinRefusal 67 = .ok (.iconst 0, 1) := by decide +kernel
theorem dX2_pinRefusal_68 : decode cX2_pinRefusal 68 = .ok (.ireturn, 1) := by decide +kernel
theorem dX2_takes_0 : decode cX2_takes 0 = .ok (.iload_n 1, 1) := by decide +kernel
theorem dX2_takes_1 : decode cX2_takes 1 = .ok (.sipush 10000, 3) := by decide +kernel
theorem dX2_takes_4 : decode cX2_takes 4 = .ok (.idiv, 1) := by decide +kernel
theorem dX2_takes_5 : decode cX2_takes 5 = .ok (.istore_n 2, 1) := by decide +kernel
theorem dX2_takes_6 : decode cX2_takes 6 = .ok (.iload_n 1, 1) := by decide +kernel
theorem dX2_takes_7 : decode cX2_takes 7 = .ok (.sipush 1000, 3) := by decide +kernel
theorem dX2_takes_10 : decode cX2_takes 10 = .ok (.idiv, 1) := by decide +kernel
theorem dX2_takes_11 : decode cX2_takes 11 = .ok (.bipush 10, 2) := by decide +kernel
theorem dX2_takes_13 : decode cX2_takes 13 = .ok (.irem, 1) := by decide +kernel
theorem dX2_takes_14 : decode cX2_takes 14 = .ok (.istore_n 3, 1) := by decide +kernel
theorem dX2_takes_15 : decode cX2_takes 15 = .ok (.iload_n 1, 1) := by decide +kernel
theorem dX2_takes_16 : decode cX2_takes 16 = .ok (.bipush 100, 2) := by decide +kernel
theorem dX2_takes_18 : decode cX2_takes 18 = .ok (.idiv, 1) := by decide +kernel
theorem dX2_takes_19 : decode cX2_takes 19 = .ok (.bipush 10, 2) := by decide +kernel
theorem dX2_takes_21 : decode cX2_takes 21 = .ok (.irem, 1) := by decide +kernel
theorem dX2_takes_22 : decode cX2_takes 22 = .ok (.istore 4, 2) := by decide +kernel
theorem dX2_takes_24 : decode cX2_takes 24 = .ok (.iload_n 1, 1) := by decide +kernel
theorem dX2_takes_25 : decode cX2_takes 25 = .ok (.bipush 10, 2) := by decide +kernel
theorem dX2_takes_27 : decode cX2_takes 27 = .ok (.idiv, 1) := by decide +kernel
theorem dX2_takes_28 : decode cX2_takes 28 = .ok (.bipush 10, 2) := by decide +kernel
theorem dX2_takes_30 : decode cX2_takes 30 = .ok (.irem, 1) := by decide +kernel
theorem dX2_takes_31 : decode cX2_takes 31 = .ok (.istore 5, 2) := by decide +kernel
theorem dX2_takes_33 : decode cX2_takes 33 = .ok (.iload_n 1, 1) := by decide +kernel
theorem dX2_takes_34 : decode cX2_takes 34 = .ok (.bipush 10, 2) := by decide +kernel
theorem dX2_takes_36 : decode cX2_takes 36 = .ok (.irem, 1) := by decide +kernel
theorem dX2_takes_37 : decode cX2_takes 37 = .ok (.istore 6, 2) := by decide +kernel
theorem dX2_takes_39 : decode cX2_takes 39 = .ok (.iload_n 2, 1) := by decide +kernel
theorem dX2_takes_40 : decode cX2_takes 40 = .ok (.tableswitch 227 1 6 #[40, 52, 79, 102, 146, 193], 40) := by decide +kernel
theorem dX2_takes_80 : decode cX2_takes 80 = .ok (.aload_n 0, 1) := by decide +kernel
theorem dX2_takes_81 : decode cX2_takes 81 = .ok (.iload_n 3, 1) := by decide +kernel
theorem dX2_takes_82 : decode cX2_takes 82 = .ok (.iload 4, 2) := by decide +kernel
theorem dX2_takes_84 : decode cX2_takes 84 = .ok (.iload 5, 2) := by decide +kernel
theorem dX2_takes_86 : decode cX2_takes 86 = .ok (.iload 6, 2) := by decide +kernel
theorem dX2_takes_88 : decode cX2_takes 88 = .ok (.invokevirtual 80, 3) := by decide +kernel
theorem dX2_takes_91 : decode cX2_takes 91 = .ok (.ireturn, 1) := by decide +kernel
theorem dX2_takes_92 : decode cX2_takes 92 = .ok (.iload 5, 2) := by decide +kernel
theorem dX2_takes_94 : decode cX2_takes 94 = .ok (.ifCond .ne 23, 3) := by decide +kernel
theorem dX2_takes_97 : decode cX2_takes 97 = .ok (.aload_n 0, 1) := by decide +kernel
theorem dX2_takes_98 : decode cX2_takes 98 = .ok (.bipush 10, 2) := by decide +kernel
theorem dX2_takes_100 : decode cX2_takes 100 = .ok (.iload_n 3, 1) := by decide +kernel
theorem dX2_takes_101 : decode cX2_takes 101 = .ok (.imul, 1) := by decide +kernel
theorem dX2_takes_102 : decode cX2_takes 102 = .ok (.iload 4, 2) := by decide +kernel
theorem dX2_takes_104 : decode cX2_takes 104 = .ok (.iadd, 1) := by decide +kernel
theorem dX2_takes_105 : decode cX2_takes 105 = .ok (.iload 6, 2) := by decide +kernel
theorem dX2_takes_107 : decode cX2_takes 107 = .ok (.invokevirtual 84, 3) := by decide +kernel
theorem dX2_takes_110 : decode cX2_takes 110 = .ok (.ifCond .eq 7, 3) := by decide +kernel
theorem dX2_takes_113 : decode cX2_takes 113 = .ok (.iconst 1, 1) := by decide +kernel
theorem dX2_takes_114 : decode cX2_takes 114 = .ok (.goto 4, 3) := by decide +kernel
theorem dX2_takes_117 : decode cX2_takes 117 = .ok (.iconst 0, 1) := by decide +kernel
theorem dX2_takes_118 : decode cX2_takes 118 = .ok (.ireturn, 1) := by decide +kernel
theorem dX2_takes_119 : decode cX2_takes 119 = .ok (.iload 5, 2) := by decide +kernel
theorem dX2_takes_121 : decode cX2_takes 121 = .ok (.ifCond .ne 19, 3) := by decide +kernel
theorem dX2_takes_124 : decode cX2_takes 124 = .ok (.aload_n 0, 1) := by decide +kernel
theorem dX2_takes_125 : decode cX2_takes 125 = .ok (.iload_n 3, 1) := by decide +kernel
theorem dX2_takes_126 : decode cX2_takes 126 = .ok (.iload 4, 2) := by decide +kernel
theorem dX2_takes_128 : decode cX2_takes 128 = .ok (.iload 6, 2) := by decide +kernel
theorem dX2_takes_130 : decode cX2_takes 130 = .ok (.invokevirtual 87, 3) := by decide +kernel
theorem dX2_takes_133 : decode cX2_takes 133 = .ok (.ifCond .eq 7, 3) := by decide +kernel
theorem dX2_takes_136 : decode cX2_takes 136 = .ok (.iconst 1, 1) := by decide +kernel
theorem dX2_takes_137 : decode cX2_takes 137 = .ok (.goto 4, 3) := by decide +kernel
theorem dX2_takes_140 : decode cX2_takes 140 = .ok (.iconst 0, 1) := by decide +kernel
theorem dX2_takes_141 : decode cX2_takes 141 = .ok (.ireturn, 1) := by decide +kernel
theorem dX2_takes_142 : decode cX2_takes 142 = .ok (.iload 5, 2) := by decide +kernel
theorem dX2_takes_144 : decode cX2_takes 144 = .ok (.ifCond .ne 40, 3) := by decide +kernel
theorem dX2_takes_147 : decode cX2_takes 147 = .ok (.aload_n 0, 1) := by decide +kernel
theorem dX2_takes_148 : decode cX2_takes 148 = .ok (.getfield 12, 3) := by decide +kernel
theorem dX2_takes_151 : decode cX2_takes 151 = .ok (.bipush 10, 2) := by decide +kernel
theorem dX2_takes_153 : decode cX2_takes 153 = .ok (.iload_n 3, 1) := by decide +kernel
theorem dX2_takes_154 : decode cX2_takes 154 = .ok (.imul, 1) := by decide +kernel
theorem dX2_takes_155 : decode cX2_takes 155 = .ok (.iload 4, 2) := by decide +kernel
theorem dX2_takes_157 : decode cX2_takes 157 = .ok (.iadd, 1) := by decide +kernel
theorem dX2_takes_158 : decode cX2_takes 158 = .ok (.invokevirtual 70, 3) := by decide +kernel
theorem dX2_takes_161 : decode cX2_takes 161 = .ok (.ifCond .eq 23, 3) := by decide +kernel
theorem dX2_takes_164 : decode cX2_takes 164 = .ok (.aload_n 0, 1) := by decide +kernel
theorem dX2_takes_165 : decode cX2_takes 165 = .ok (.bipush 10, 2) := by decide +kernel
theorem dX2_takes_167 : decode cX2_takes 167 = .ok (.iload_n 3, 1) := by decide +kernel
theorem dX2_takes_168 : decode cX2_takes 168 = .ok (.imul, 1) := by decide +kernel
theorem dX2_takes_169 : decode cX2_takes 169 = .ok (.iload 4, 2) := by decide +kernel
theorem dX2_takes_171 : decode cX2_takes 171 = .ok (.iadd, 1) := by decide +kernel
theorem dX2_takes_172 : decode cX2_takes 172 = .ok (.invokevirtual 91, 3) := by decide +kernel
theorem dX2_takes_175 : decode cX2_takes 175 = .ok (.iload 6, 2) := by decide +kernel
theorem dX2_takes_177 : decode cX2_takes 177 = .ok (.if_icmp .ne 7, 3) := by decide +kernel
theorem dX2_takes_180 : decode cX2_takes 180 = .ok (.iconst 1, 1) := by decide +kernel
theorem dX2_takes_181 : decode cX2_takes 181 = .ok (.goto 4, 3) := by decide +kernel
theorem dX2_takes_184 : decode cX2_takes 184 = .ok (.iconst 0, 1) := by decide +kernel
theorem dX2_takes_185 : decode cX2_takes 185 = .ok (.ireturn, 1) := by decide +kernel
theorem dX2_takes_186 : decode cX2_takes 186 = .ok (.iload 5, 2) := by decide +kernel
theorem dX2_takes_188 : decode cX2_takes 188 = .ok (.ifCond .ne 43, 3) := by decide +kernel
theorem dX2_takes_191 : decode cX2_takes 191 = .ok (.aload_n 0, 1) := by decide +kernel
theorem dX2_takes_192 : decode cX2_takes 192 = .ok (.getfield 12, 3) := by decide +kernel
theorem dX2_takes_195 : decode cX2_takes 195 = .ok (.bipush 10, 2) := by decide +kernel
theorem dX2_takes_197 : decode cX2_takes 197 = .ok (.iload_n 3, 1) := by decide +kernel
theorem dX2_takes_198 : decode cX2_takes 198 = .ok (.imul, 1) := by decide +kernel
theorem dX2_takes_199 : decode cX2_takes 199 = .ok (.iload 4, 2) := by decide +kernel
theorem dX2_takes_201 : decode cX2_takes 201 = .ok (.iadd, 1) := by decide +kernel
theorem dX2_takes_202 : decode cX2_takes 202 = .ok (.invokevirtual 70, 3) := by decide +kernel
theorem dX2_takes_205 : decode cX2_takes 205 = .ok (.ifCond .eq 26, 3) := by decide +kernel
theorem dX2_takes_208 : decode cX2_takes 208 = .ok (.aload_n 0, 1) := by decide +kernel
theorem dX2_takes_209 : decode cX2_takes 209 = .ok (.getfield 21, 3) := by decide +kernel
theorem dX2_takes_212 : decode cX2_takes 212 = .ok (.bipush 10, 2) := by decide +kernel
theorem dX2_takes_214 : decode cX2_takes 214 = .ok (.iload_n 3, 1) := by decide +kernel
theorem dX2_takes_215 : decode cX2_takes 215 = .ok (.imul, 1) := by decide +kernel
theorem dX2_takes_216 : decode cX2_takes 216 = .ok (.iload 4, 2) := by decide +kernel
theorem dX2_takes_218 : decode cX2_takes 218 = .ok (.iadd, 1) := by decide +kernel
theorem dX2_takes_219 : decode cX2_takes 219 = .ok (.invokevirtual 94, 3) := by decide +kernel
theorem dX2_takes_222 : decode cX2_takes 222 = .ok (.iload 6, 2) := by decide +kernel
theorem dX2_takes_224 : decode cX2_takes 224 = .ok (.if_icmp .ne 7, 3) := by decide +kernel
theorem dX2_takes_227 : decode cX2_takes 227 = .ok (.iconst 1, 1) := by decide +kernel
theorem dX2_takes_228 : decode cX2_takes 228 = .ok (.goto 4, 3) := by decide +kernel
theorem dX2_takes_231 : decode cX2_takes 231 = .ok (.iconst 0, 1) := by decide +kernel
theorem dX2_takes_232 : decode cX2_takes 232 = .ok (.ireturn, 1) := by decide +kernel
theorem dX2_takes_233 : decode cX2_takes 233 = .ok (.iload_n 3, 1) := by decide +kernel
theorem dX2_takes_234 : decode cX2_takes 234 = .ok (.ifCond .ne 31, 3) := by decide +kernel
theorem dX2_takes_237 : decode cX2_takes 237 = .ok (.aload_n 0, 1) := by decide +kernel
theorem dX2_takes_238 : decode cX2_takes 238 = .ok (.getfield 21, 3) := by decide +kernel
theorem dX2_takes_241 : decode cX2_takes 241 = .ok (.getfield 37, 3) := by decide +kernel
theorem dX2_takes_244 : decode cX2_takes 244 = .ok (.bipush 100, 2) := by decide +kernel
theorem dX2_takes_246 : decode cX2_takes 246 = .ok (.iload 4, 2) := by decide +kernel
theorem dX2_takes_248 : decode cX2_takes 248 = .ok (.imul, 1) := by decide +kernel
theorem dX2_takes_249 : decode cX2_takes 249 = .ok (.bipush 10, 2) := by decide +kernel
theorem dX2_takes_251 : decode cX2_takes 251 = .ok (.iload 5, 2) := by decide +kernel
theorem dX2_takes_253 : decode cX2_takes 253 = .ok (.imul, 1) := by decide +kernel
theorem dX2_takes_254 : decode cX2_takes 254 = .ok (.iadd, 1) := by decide +kernel
theorem dX2_takes_255 : decode cX2_takes 255 = .ok (.iload 6, 2) := by decide +kernel
theorem dX2_takes_257 : decode cX2_takes 257 = .ok (.iadd, 1) := by decide +kernel
theorem dX2_takes_258 : decode cX2_takes 258 = .ok (.if_icmp .lt 7, 3) := by decide +kernel
theorem dX2_takes_261 : decode cX2_takes 261 = .ok (.iconst 1, 1) := by decide +kernel
theorem dX2_takes_262 : decode cX2_takes 262 = .ok (.goto 4, 3) := by decide +kernel
theorem dX2_takes_265 : decode cX2_takes 265 = .ok (.iconst 0, 1) := by decide +kernel
theorem dX2_takes_266 : decode cX2_takes 266 = .ok (.ireturn, 1) := by decide +kernel
theorem dX2_takes_267 : decode cX2_takes 267 = .ok (.iconst 0, 1) := by decide +kernel
theorem dX2_takes_268 : decode cX2_takes 268 = .ok (.ireturn, 1) := by decide +kernel
theorem dX2_takesSwitch_0 : decode cX2_takesSwitch 0 = .ok (.aload_n 0, 1) := by decide +kernel
theorem dX2_takesSwitch_1 : decode cX2_takesSwitch 1 = .ok (.iload_n 1, 1) := by decide +kernel
theorem dX2_takesSwitch_2 : decode cX2_takesSwitch 2 = .ok (.iload_n 2, 1) := by decide +kernel
theorem dX2_takesSwitch_3 : decode cX2_takesSwitch 3 = .ok (.iload_n 3, 1) := by decide +kernel
theorem dX2_takesSwitch_4 : decode cX2_takesSwitch 4 = .ok (.iload 4, 2) := by decide +kernel
theorem dX2_takesSwitch_6 : decode cX2_takesSwitch 6 = .ok (.invokevirtual 97, 3) := by decide +kernel
theorem dX2_takesSwitch_9 : decode cX2_takesSwitch 9 = .ok (.ifCond .ne 7, 3) := by decide +kernel
theorem dX2_takesSwitch_12 : decode cX2_takesSwitch 12 = .ok (.iconst 1, 1) := by decide +kernel
theorem dX2_takesSwitch_13 : decode cX2_takesSwitch 13 = .ok (.goto 4, 3) := by decide +kernel
theorem dX2_takesSwitch_16 : decode cX2_takesSwitch 16 = .ok (.iconst 0, 1) := by decide +kernel
theorem dX2_takesSwitch_17 : decode cX2_takesSwitch 17 = .ok (.istore 5, 2) := by decide +kernel
theorem dX2_takesSwitch_19 : decode cX2_takesSwitch 19 = .ok (.iload 5, 2) := by decide +kernel
theorem dX2_takesSwitch_21 : decode cX2_takesSwitch 21 = .ok (.ifCond .eq 12, 3) := by decide +kernel
theorem dX2_takesSwitch_24 : decode cX2_takesSwitch 24 = .ok (.aload_n 0, 1) := by decide +kernel
theorem dX2_takesSwitch_25 : decode cX2_takesSwitch 25 = .ok (.iload_n 1, 1) := by decide +kernel
theorem dX2_takesSwitch_26 : decode cX2_takesSwitch 26 = .ok (.iload_n 2, 1) := by decide +kernel
theorem dX2_takesSwitch_27 : decode cX2_takesSwitch 27 = .ok (.iload_n 3, 1) := by decide +kernel
theorem dX2_takesSwitch_28 : decode cX2_takesSwitch 28 = .ok (.iload 4, 2) := by decide +kernel
theorem dX2_takesSwitch_30 : decode cX2_takesSwitch 30 = .ok (.invokevirtual 101, 3) := by decide +kernel
theorem dX2_takesSwitch_33 : decode cX2_takesSwitch 33 = .ok (.iload 5, 2) := by decide +kernel
theorem dX2_takesSwitch_35 : decode cX2_takesSwitch 35 = .ok (.ireturn, 1) := by decide +kernel
theorem dX2_takesPin_0 : decode cX2_takesPin 0 = .ok (.aload_n 0, 1) := by decide +kernel
theorem dX2_takesPin_1 : decode cX2_takesPin 1 = .ok (.iload_n 1, 1) := by decide +kernel
theorem dX2_takesPin_2 : decode cX2_takesPin 2 = .ok (.iload_n 2, 1) := by decide +kernel
theorem dX2_takesPin_3 : decode cX2_takesPin 3 = .ok (.invokevirtual 105, 3) := by decide +kernel
theorem dX2_takesPin_6 : decode cX2_takesPin 6 = .ok (.ifCond .ne 7, 3) := by decide +kernel
theorem dX2_takesPin_9 : decode cX2_takesPin 9 = .ok (.iconst 1, 1) := by decide +kernel
theorem dX2_takesPin_10 : decode cX2_takesPin 10 = .ok (.goto 4, 3) := by decide +kernel
theorem dX2_takesPin_13 : decode cX2_takesPin 13 = .ok (.iconst 0, 1) := by decide +kernel
theorem dX2_takesPin_14 : decode cX2_takesPin 14 = .ok (.istore_n 3, 1) := by decide +kernel
theorem dX2_takesPin_15 : decode cX2_takesPin 15 = .ok (.iload_n 3, 1) := by decide +kernel
theorem dX2_takesPin_16 : decode cX2_takesPin 16 = .ok (.ifCond .eq 16, 3) := by decide +kernel
theorem dX2_takesPin_19 : decode cX2_takesPin 19 = .ok (.aload_n 0, 1) := by decide +kernel
theorem dX2_takesPin_20 : decode cX2_takesPin 20 = .ok (.getfield 12, 3) := by decide +kernel
theorem dX2_takesPin_23 : decode cX2_takesPin 23 = .ok (.iload_n 1, 1) := by decide +kernel
theorem dX2_takesPin_24 : decode cX2_takesPin 24 = .ok (.iload_n 2, 1) := by decide +kernel
theorem dX2_takesPin_25 : decode cX2_takesPin 25 = .ok (.invokevirtual 108, 3) := by decide +kernel
theorem dX2_takesPin_28 : decode cX2_takesPin 28 = .ok (.aload_n 0, 1) := by decide +kernel
theorem dX2_takesPin_29 : decode cX2_takesPin 29 = .ok (.invokevirtual 112, 3) := by decide +kernel
theorem dX2_takesPin_32 : decode cX2_takesPin 32 = .ok (.iload_n 3, 1) := by decide +kernel
theorem dX2_takesPin_33 : decode cX2_takesPin 33 = .ok (.ireturn, 1) := by decide +kernel
theorem dX2_takesTotal_0 : decode cX2_takesTotal 0 = .ok (.aload_n 0, 1) := by decide +kernel
theorem dX2_takesTotal_1 : decode cX2_takesTotal 1 = .ok (.iload_n 1, 1) := by decide +kernel
theorem dX2_takesTotal_2 : decode cX2_takesTotal 2 = .ok (.iload_n 2, 1) := by decide +kernel
theorem dX2_takesTotal_3 : decode cX2_takesTotal 3 = .ok (.iload_n 3, 1) := by decide +kernel
theorem dX2_takesTotal_4 : decode cX2_takesTotal 4 = .ok (.invokevirtual 115, 3) := by decide +kernel
theorem dX2_takesTotal_7 : decode cX2_takesTotal 7 = .ok (.ifCond .ne 7, 3) := by decide +kernel
theorem dX2_takesTotal_10 : decode cX2_takesTotal 10 = .ok (.iconst 1, 1) := by decide +kernel
theorem dX2_takesTotal_11 : decode cX2_takesTotal 11 = .ok (.goto 4, 3) := by decide +kernel
theorem dX2_takesTotal_14 : decode cX2_takesTotal 14 = .ok (.iconst 0, 1) := by decide +kernel
theorem dX2_takesTotal_15 : decode cX2_takesTotal 15 = .ok (.istore 4, 2) := by decide +kernel
theorem dX2_takesTotal_17 : decode cX2_takesTotal 17 = .ok (.iload 4, 2) := by decide +kernel
theorem dX2_takesTotal_19 : decode cX2_takesTotal 19 = .ok (.ifCond .eq 17, 3) := by decide +kernel
theorem dX2_takesTotal_22 : decode cX2_takesTotal 22 = .ok (.aload_n 0, 1) := by decide +kernel
theorem dX2_takesTotal_23 : decode cX2_takesTotal 23 = .ok (.getfield 12, 3) := by decide +kernel
theorem dX2_takesTotal_26 : decode cX2_takesTotal 26 = .ok (.iload_n 1, 1) := by decide +kernel
theorem dX2_takesTotal_27 : decode cX2_takesTotal 27 = .ok (.iload_n 2, 1) := by decide +kernel
theorem dX2_takesTotal_28 : decode cX2_takesTotal 28 = .ok (.iload_n 3, 1) := by decide +kernel
theorem dX2_takesTotal_29 : decode cX2_takesTotal 29 = .ok (.invokevirtual 119, 3) := by decide +kernel
theorem dX2_takesTotal_32 : decode cX2_takesTotal 32 = .ok (.aload_n 0, 1) := by decide +kernel
theorem dX2_takesTotal_33 : decode cX2_takesTotal 33 = .ok (.invokevirtual 112, 3) := by decide +kernel
theorem dX2_takesTotal_36 : decode cX2_takesTotal 36 = .ok (.iload 4, 2) := by decide +kernel
theorem dX2_takesTotal_38 : decode cX2_takesTotal 38 = .ok (.ireturn, 1) := by decide +kernel
theorem dX2_findKey_0 : decode cX2_findKey 0 = .ok (.aload_n 0, 1) := by decide +kernel
theorem dX2_findKey_1 : decode cX2_findKey 1 = .ok (.getfield 12, 3) := by decide +kernel
theorem dX2_findKey_4 : decode cX2_findKey 4 = .ok (.getfield 29, 3) := by decide +kernel
theorem dX2_findKey_7 : decode cX2_findKey 7 = .ok (.iconst (-1), 1) := by decide +kernel
theorem dX2_findKey_8 : decode cX2_findKey 8 = .ok (.if_icmp .ne 6, 3) := by decide +kernel
theorem dX2_findKey_11 : decode cX2_findKey 11 = .ok (.bipush (-9), 2) := by decide +kernel
theorem dX2_findKey_13 : decode cX2_findKey 13 = .ok (.ireturn, 1) := by decide +kernel
theorem dX2_findKey_14 : decode cX2_findKey 14 = .ok (.aload_n 0, 1) := by decide +kernel
theorem dX2_findKey_15 : decode cX2_findKey 15 = .ok (.getfield 21, 3) := by decide +kernel
theorem dX2_findKey_18 : decode cX2_findKey 18 = .ok (.getfield 37, 3) := by decide +kernel
theorem dX2_findKey_21 : decode cX2_findKey 21 = .ok (.iconst 1, 1) := by decide +kernel
theorem dX2_findKey_22 : decode cX2_findKey 22 = .ok (.if_icmp .ne 5, 3) := by decide +kernel
theorem dX2_findKey_25 : decode cX2_findKey 25 = .ok (.iconst 0, 1) := by decide +kernel
theorem dX2_findKey_26 : decode cX2_findKey 26 = .ok (.ireturn, 1) := by decide +kernel
theorem dX2_findKey_27 : decode cX2_findKey 27 = .ok (.aload_n 0, 1) := by decide +kernel
theorem dX2_findKey_28 : decode cX2_findKey 28 = .ok (.iconst 0, 1) := by decide +kernel
theorem dX2_findKey_29 : decode cX2_findKey 29 = .ok (.invokevirtual 123, 3) := by decide +kernel
theorem dX2_findKey_32 : decode cX2_findKey 32 = .ok (.invokestatic 126, 3) := by decide +kernel
theorem dX2_findKey_35 : decode cX2_findKey 35 = .ok (.istore_n 1, 1) := by decide +kernel
theorem dX2_findKey_36 : decode cX2_findKey 36 = .ok (.iload_n 1, 1) := by decide +kernel
theorem dX2_findKey_37 : decode cX2_findKey 37 = .ok (.bipush (-9), 2) := by decide +kernel
theorem dX2_findKey_39 : decode cX2_findKey 39 = .ok (.if_icmp .eq 7, 3) := by decide +kernel
theorem dX2_findKey_42 : decode cX2_findKey 42 = .ok (.iload_n 1, 1) := by decide +kernel
theorem dX2_findKey_43 : decode cX2_findKey 43 = .ok (.iconst 1, 1) := by decide +kernel
theorem dX2_findKey_44 : decode cX2_findKey 44 = .ok (.iadd, 1) := by decide +kernel
theorem dX2_findKey_45 : decode cX2_findKey 45 = .ok (.ireturn, 1) := by decide +kernel
theorem dX2_findKey_46 : decode cX2_findKey 46 = .ok (.aload_n 0, 1) := by decide +kernel
theorem dX2_findKey_47 : decode cX2_findKey 47 = .ok (.invokevirtual 129, 3) := by decide +kernel
theorem dX2_findKey_50 : decode cX2_findKey 50 = .ok (.istore_n 2, 1) := by decide +kernel
theorem dX2_findKey_51 : decode cX2_findKey 51 = .ok (.iload_n 2, 1) := by decide +kernel
theorem dX2_findKey_52 : decode cX2_findKey 52 = .ok (.bipush (-9), 2) := by decide +kernel
theorem dX2_findKey_54 : decode cX2_findKey 54 = .ok (.if_icmp .eq 7, 3) := by decide +kernel
theorem dX2_findKey_57 : decode cX2_findKey 57 = .ok (.iload_n 2, 1) := by decide +kernel
theorem dX2_findKey_58 : decode cX2_findKey 58 = .ok (.goto 7, 3) := by decide +kernel
theorem dX2_findKey_61 : decode cX2_findKey 61 = .ok (.aload_n 0, 1) := by decide +kernel
theorem dX2_findKey_62 : decode cX2_findKey 62 = .ok (.invokevirtual 132, 3) := by decide +kernel
theorem dX2_findKey_65 : decode cX2_findKey 65 = .ok (.ireturn, 1) := by decide +kernel
theorem dX2_findKeyOfTwo_0 : decode cX2_findKeyOfTwo 0 = .ok (.iconst 0, 1) := by decide +kernel
theorem dX2_findKeyOfTwo_1 : decode cX2_findKeyOfTwo 1 = .ok (.istore_n 1, 1) := by decide +kernel
theorem dX2_findKeyOfTwo_2 : decode cX2_findKeyOfTwo 2 = .ok (.iload_n 1, 1) := by decide +kernel
theorem dX2_findKeyOfTwo_3 : decode cX2_findKeyOfTwo 3 = .ok (.aload_n 0, 1) := by decide +kernel
theorem dX2_findKeyOfTwo_4 : decode cX2_findKeyOfTwo 4 = .ok (.getfield 12, 3) := by decide +kernel
theorem dX2_findKeyOfTwo_7 : decode cX2_findKeyOfTwo 7 = .ok (.invokevirtual 135, 3) := by decide +kernel
theorem dX2_findKeyOfTwo_10 : decode cX2_findKeyOfTwo 10 = .ok (.if_icmp .ge 38, 3) := by decide +kernel
theorem dX2_findKeyOfTwo_13 : decode cX2_findKeyOfTwo 13 = .ok (.aload_n 0, 1) := by decide +kernel
theorem dX2_findKeyOfTwo_14 : decode cX2_findKeyOfTwo 14 = .ok (.iload_n 1, 1) := by decide +kernel
theorem dX2_findKeyOfTwo_15 : decode cX2_findKeyOfTwo 15 = .ok (.invokestatic 138, 3) := by decide +kernel
theorem dX2_findKeyOfTwo_18 : decode cX2_findKeyOfTwo 18 = .ok (.invokevirtual 123, 3) := by decide +kernel
theorem dX2_findKeyOfTwo_21 : decode cX2_findKeyOfTwo 21 = .ok (.invokestatic 126, 3) := by decide +kernel
theorem dX2_findKeyOfTwo_24 : decode cX2_findKeyOfTwo 24 = .ok (.istore_n 2, 1) := by decide +kernel
theorem dX2_findKeyOfTwo_25 : decode cX2_findKeyOfTwo 25 = .ok (.iload_n 2, 1) := by decide +kernel
theorem dX2_findKeyOfTwo_26 : decode cX2_findKeyOfTwo 26 = .ok (.bipush (-9), 2) := by decide +kernel
theorem dX2_findKeyOfTwo_28 : decode cX2_findKeyOfTwo 28 = .ok (.if_icmp .eq 14, 3) := by decide +kernel
theorem dX2_findKeyOfTwo_31 : decode cX2_findKeyOfTwo 31 = .ok (.bipush 100, 2) := by decide +kernel
theorem dX2_findKeyOfTwo_33 : decode cX2_findKeyOfTwo 33 = .ok (.iload_n 1, 1) := by decide +kernel
theorem dX2_findKeyOfTwo_34 : decode cX2_findKeyOfTwo 34 = .ok (.iconst 1, 1) := by decide +kernel
theorem dX2_findKeyOfTwo_35 : decode cX2_findKeyOfTwo 35 = .ok (.iadd, 1) := by decide +kernel
theorem dX2_findKeyOfTwo_36 : decode cX2_findKeyOfTwo 36 = .ok (.imul, 1) := by decide +kernel
theorem dX2_findKeyOfTwo_37 : decode cX2_findKeyOfTwo 37 = .ok (.iload_n 2, 1) := by decide +kernel
theorem dX2_findKeyOfTwo_38 : decode cX2_findKeyOfTwo 38 = .ok (.iadd, 1) := by decide +kernel
theorem dX2_findKeyOfTwo_39 : decode cX2_findKeyOfTwo 39 = .ok (.iconst 1, 1) := by decide +kernel
theorem dX2_findKeyOfTwo_40 : decode cX2_findKeyOfTwo 40 = .ok (.iadd, 1) := by decide +kernel
theorem dX2_findKeyOfTwo_41 : decode cX2_findKeyOfTwo 41 = .ok (.ireturn, 1) := by decide +kernel
theorem dX2_findKeyOfTwo_42 : decode cX2_findKeyOfTwo 42 = .ok (.iinc 1 1, 3) := by decide +kernel
theorem dX2_findKeyOfTwo_45 : decode cX2_findKeyOfTwo 45 = .ok (.goto (-43), 3) := by decide +kernel
theorem dX2_findKeyOfTwo_48 : decode cX2_findKeyOfTwo 48 = .ok (.bipush (-9), 2) := by decide +kernel
theorem dX2_findKeyOfTwo_50 : decode cX2_findKeyOfTwo 50 = .ok (.ireturn, 1) := by decide +kernel
theorem dX2_findKeyOfThree_0 : decode cX2_findKeyOfThree 0 = .ok (.iconst 0, 1) := by decide +kernel
theorem dX2_findKeyOfThree_1 : decode cX2_findKeyOfThree 1 = .ok (.istore_n 1, 1) := by decide +kernel
theorem dX2_findKeyOfThree_2 : decode cX2_findKeyOfThree 2 = .ok (.iload_n 1, 1) := by decide +kernel
theorem dX2_findKeyOfThree_3 : decode cX2_findKeyOfThree 3 = .ok (.aload_n 0, 1) := by decide +kernel
theorem dX2_findKeyOfThree_4 : decode cX2_findKeyOfThree 4 = .ok (.getfield 12, 3) := by decide +kernel
theorem dX2_findKeyOfThree_7 : decode cX2_findKeyOfThree 7 = .ok (.invokevirtual 135, 3) := by decide +kernel
theorem dX2_findKeyOfThree_10 : decode cX2_findKeyOfThree 10 = .ok (.if_icmp .ge 72, 3) := by decide +kernel
theorem dX2_findKeyOfThree_13 : decode cX2_findKeyOfThree 13 = .ok (.iload_n 1, 1) := by decide +kernel
theorem dX2_findKeyOfThree_14 : decode cX2_findKeyOfThree 14 = .ok (.iconst 1, 1) := by decide +kernel
theorem dX2_findKeyOfThree_15 : decode cX2_findKeyOfThree 15 = .ok (.iadd, 1) := by decide +kernel
theorem dX2_findKeyOfThree_16 : decode cX2_findKeyOfThree 16 = .ok (.istore_n 2, 1) := by decide +kernel
theorem dX2_findKeyOfThree_17 : decode cX2_findKeyOfThree 17 = .ok (.iload_n 2, 1) := by decide +kernel
theorem dX2_findKeyOfThree_18 : decode cX2_findKeyOfThree 18 = .ok (.aload_n 0, 1) := by decide +kernel
theorem dX2_findKeyOfThree_19 : decode cX2_findKeyOfThree 19 = .ok (.getfield 12, 3) := by decide +kernel
theorem dX2_findKeyOfThree_22 : decode cX2_findKeyOfThree 22 = .ok (.invokevirtual 135, 3) := by decide +kernel
theorem dX2_findKeyOfThree_25 : decode cX2_findKeyOfThree 25 = .ok (.if_icmp .ge 51, 3) := by decide +kernel
theorem dX2_findKeyOfThree_28 : decode cX2_findKeyOfThree 28 = .ok (.aload_n 0, 1) := by decide +kernel
theorem dX2_findKeyOfThree_29 : decode cX2_findKeyOfThree 29 = .ok (.iload_n 1, 1) := by decide +kernel
theorem dX2_findKeyOfThree_30 : decode cX2_findKeyOfThree 30 = .ok (.invokestatic 138, 3) := by decide +kernel
theorem dX2_findKeyOfThree_33 : decode cX2_findKeyOfThree 33 = .ok (.iload_n 2, 1) := by decide +kernel
theorem dX2_findKeyOfThree_34 : decode cX2_findKeyOfThree 34 = .ok (.invokestatic 138, 3) := by decide +kernel
theorem dX2_findKeyOfThree_37 : decode cX2_findKeyOfThree 37 = .ok (.ior, 1) := by decide +kernel
theorem dX2_findKeyOfThree_38 : decode cX2_findKeyOfThree 38 = .ok (.invokevirtual 123, 3) := by decide +kernel
theorem dX2_findKeyOfThree_41 : decode cX2_findKeyOfThree 41 = .ok (.invokestatic 126, 3) := by decide +kernel
theorem dX2_findKeyOfThree_44 : decode cX2_findKeyOfThree 44 = .ok (.istore_n 3, 1) := by decide +kernel
theorem dX2_findKeyOfThree_45 : decode cX2_findKeyOfThree 45 = .ok (.iload_n 3, 1) := by decide +kernel
theorem dX2_findKeyOfThree_46 : decode cX2_findKeyOfThree 46 = .ok (.bipush (-9), 2) := by decide +kernel
theorem dX2_findKeyOfThree_48 : decode cX2_findKeyOfThree 48 = .ok (.if_icmp .eq 22, 3) := by decide +kernel
theorem dX2_findKeyOfThree_51 : decode cX2_findKeyOfThree 51 = .ok (.sipush 10000, 3) := by decide +kernel
theorem dX2_findKeyOfThree_54 : decode cX2_findKeyOfThree 54 = .ok (.iload_n 1, 1) := by decide +kernel
theorem dX2_findKeyOfThree_55 : decode cX2_findKeyOfThree 55 = .ok (.iconst 1, 1) := by decide +kernel
theorem dX2_findKeyOfThree_56 : decode cX2_findKeyOfThree 56 = .ok (.iadd, 1) := by decide +kernel
theorem dX2_findKeyOfThree_57 : decode cX2_findKeyOfThree 57 = .ok (.imul, 1) := by decide +kernel
theorem dX2_findKeyOfThree_58 : decode cX2_findKeyOfThree 58 = .ok (.bipush 100, 2) := by decide +kernel
theorem dX2_findKeyOfThree_60 : decode cX2_findKeyOfThree 60 = .ok (.iload_n 2, 1) := by decide +kernel
theorem dX2_findKeyOfThree_61 : decode cX2_findKeyOfThree 61 = .ok (.iconst 1, 1) := by decide +kernel
theorem dX2_findKeyOfThree_62 : decode cX2_findKeyOfThree 62 = .ok (.iadd, 1) := by decide +kernel
theorem dX2_findKeyOfThree_63 : decode cX2_findKeyOfThree 63 = .ok (.imul, 1) := by decide +kernel
theorem dX2_findKeyOfThree_64 : decode cX2_findKeyOfThree 64 = .ok (.iadd, 1) := by decide +kernel
theorem dX2_findKeyOfThree_65 : decode cX2_findKeyOfThree 65 = .ok (.iload_n 3, 1) := by decide +kernel
theorem dX2_findKeyOfThree_66 : decode cX2_findKeyOfThree 66 = .ok (.iadd, 1) := by decide +kernel
theorem dX2_findKeyOfThree_67 : decode cX2_findKeyOfThree 67 = .ok (.iconst 1, 1) := by decide +kernel
theorem dX2_findKeyOfThree_68 : decode cX2_findKeyOfThree 68 = .ok (.iadd, 1) := by decide +kernel
theorem dX2_findKeyOfThree_69 : decode cX2_findKeyOfThree 69 = .ok (.ireturn, 1) := by decide +kernel
theorem dX2_findKeyOfThree_70 : decode cX2_findKeyOfThree 70 = .ok (.iinc 2 1, 3) := by decide +kernel
theorem dX2_findKeyOfThree_73 : decode cX2_findKeyOfThree 73 = .ok (.goto (-56), 3) := by decide +kernel
theorem dX2_findKeyOfThree_76 : decode cX2_findKeyOfThree 76 = .ok (.iinc 1 1, 3) := by decide +kernel
theorem dX2_findKeyOfThree_79 : decode cX2_findKeyOfThree 79 = .ok (.goto (-77), 3) := by decide +kernel
theorem dX2_findKeyOfThree_82 : decode cX2_findKeyOfThree 82 = .ok (.bipush (-9), 2) := by decide +kernel
theorem dX2_findKeyOfThree_84 : decode cX2_findKeyOfThree 84 = .ok (.ireturn, 1) := by decide +kernel
theorem dX2_tellingApart_0 : decode cX2_tellingApart 0 = .ok (.iconst (-1), 1) := by decide +kernel
theorem dX2_tellingApart_1 : decode cX2_tellingApart 1 = .ok (.istore_n 2, 1) := by decide +kernel
theorem dX2_tellingApart_2 : decode cX2_tellingApart 2 = .ok (.iconst 0, 1) := by decide +kernel
theorem dX2_tellingApart_3 : decode cX2_tellingApart 3 = .ok (.istore_n 3, 1) := by decide +kernel
theorem dX2_tellingApart_4 : decode cX2_tellingApart 4 = .ok (.iload_n 3, 1) := by decide +kernel
theorem dX2_tellingApart_5 : decode cX2_tellingApart 5 = .ok (.aload_n 0, 1) := by decide +kernel
theorem dX2_tellingApart_6 : decode cX2_tellingApart 6 = .ok (.getfield 21, 3) := by decide +kernel
theorem dX2_tellingApart_9 : decode cX2_tellingApart 9 = .ok (.getfield 37, 3) := by decide +kernel
theorem dX2_tellingApart_12 : decode cX2_tellingApart 12 = .ok (.if_icmp .ge 49, 3) := by decide +kernel
theorem dX2_tellingApart_15 : decode cX2_tellingApart 15 = .ok (.iload_n 2, 1) := by decide +kernel
theorem dX2_tellingApart_16 : decode cX2_tellingApart 16 = .ok (.ifCond .eq 45, 3) := by decide +kernel
theorem dX2_tellingApart_19 : decode cX2_tellingApart 19 = .ok (.aload_n 0, 1) := by decide +kernel
theorem dX2_tellingApart_20 : decode cX2_tellingApart 20 = .ok (.getfield 21, 3) := by decide +kernel
theorem dX2_tellingApart_23 : decode cX2_tellingApart 23 = .ok (.getfield 40, 3) := by decide +kernel
theorem dX2_tellingApart_26 : decode cX2_tellingApart 26 = .ok (.iload_n 3, 1) := by decide +kernel
theorem dX2_tellingApart_27 : decode cX2_tellingApart 27 = .ok (.iaload, 1) := by decide +kernel
theorem dX2_tellingApart_28 : decode cX2_tellingApart 28 = .ok (.aload_n 0, 1) := by decide +kernel
theorem dX2_tellingApart_29 : decode cX2_tellingApart 29 = .ok (.getfield 12, 3) := by decide +kernel
theorem dX2_tellingApart_32 : decode cX2_tellingApart 32 = .ok (.getfield 29, 3) := by decide +kernel
theorem dX2_tellingApart_35 : decode cX2_tellingApart 35 = .ok (.ixor, 1) := by decide +kernel
theorem dX2_tellingApart_36 : decode cX2_tellingApart 36 = .ok (.istore 4, 2) := by decide +kernel
theorem dX2_tellingApart_38 : decode cX2_tellingApart 38 = .ok (.iload 4, 2) := by decide +kernel
theorem dX2_tellingApart_40 : decode cX2_tellingApart 40 = .ok (.ifCond .eq 15, 3) := by decide +kernel
theorem dX2_tellingApart_43 : decode cX2_tellingApart 43 = .ok (.iload 4, 2) := by decide +kernel
theorem dX2_tellingApart_45 : decode cX2_tellingApart 45 = .ok (.iload_n 1, 1) := by decide +kernel
theorem dX2_tellingApart_46 : decode cX2_tellingApart 46 = .ok (.iand, 1) := by decide +kernel
theorem dX2_tellingApart_47 : decode cX2_tellingApart 47 = .ok (.ifCond .ne 8, 3) := by decide +kernel
theorem dX2_tellingApart_50 : decode cX2_tellingApart 50 = .ok (.iload_n 2, 1) := by decide +kernel
theorem dX2_tellingApart_51 : decode cX2_tellingApart 51 = .ok (.iload 4, 2) := by decide +kernel
theorem dX2_tellingApart_53 : decode cX2_tellingApart 53 = .ok (.iand, 1) := by decide +kernel
theorem dX2_tellingApart_54 : decode cX2_tellingApart 54 = .ok (.istore_n 2, 1) := by decide +kernel
theorem dX2_tellingApart_55 : decode cX2_tellingApart 55 = .ok (.iinc 3 1, 3) := by decide +kernel
theorem dX2_tellingApart_58 : decode cX2_tellingApart 58 = .ok (.goto (-54), 3) := by decide +kernel
theorem dX2_tellingApart_61 : decode cX2_tellingApart 61 = .ok (.iload_n 2, 1) := by decide +kernel
theorem dX2_tellingApart_62 : decode cX2_tellingApart 62 = .ok (.ireturn, 1) := by decide +kernel
theorem dX3_failsAt_0 : decode cX3_failsAt 0 = .ok (.aload_n 1, 1) := by decide +kernel
theorem dX3_failsAt_1 : decode cX3_failsAt 1 = .ok (.iconst 0, 1) := by decide +kernel
theorem dX3_failsAt_2 : decode cX3_failsAt 2 = .ok (.invokevirtual 18, 3) := by decide +kernel
theorem dX3_failsAt_5 : decode cX3_failsAt 5 = .ok (.aload_n 1, 1) := by decide +kernel
theorem dX3_failsAt_6 : decode cX3_failsAt 6 = .ok (.iconst 1, 1) := by decide +kernel
theorem dX3_failsAt_7 : decode cX3_failsAt 7 = .ok (.invokevirtual 18, 3) := by decide +kernel
theorem dX3_failsAt_10 : decode cX3_failsAt 10 = .ok (.if_icmp .eq 5, 3) := by decide +kernel
theorem dX3_failsAt_13 : decode cX3_failsAt 13 = .ok (.iconst 0, 1) := by decide +kernel
theorem dX3_failsAt_14 : decode cX3_failsAt 14 = .ok (.ireturn, 1) := by decide +kernel
theorem dX3_failsAt_15 : decode cX3_failsAt 15 = .ok (.aload_n 0, 1) := by decide +kernel
theorem dX3_failsAt_16 : decode cX3_failsAt 16 = .ok (.aload_n 1, 1) := by decide +kernel
theorem dX3_failsAt_17 : decode cX3_failsAt 17 = .ok (.invokevirtual 24, 3) := by decide +kernel
theorem dX3_failsAt_20 : decode cX3_failsAt 20 = .ok (.iconst 0, 1) := by decide +kernel
theorem dX3_failsAt_21 : decode cX3_failsAt 21 = .ok (.istore_n 2, 1) := by decide +kernel
theorem dX3_failsAt_22 : decode cX3_failsAt 22 = .ok (.iconst 1, 1) := by decide +kernel
theorem dX3_failsAt_23 : decode cX3_failsAt 23 = .ok (.istore_n 3, 1) := by decide +kernel
theorem dX3_failsAt_24 : decode cX3_failsAt 24 = .ok (.iload_n 3, 1) := by decide +kernel
theorem dX3_failsAt_25 : decode cX3_failsAt 25 = .ok (.aload_n 1, 1) := by decide +kernel
theorem dX3_failsAt_26 : decode cX3_failsAt 26 = .ok (.getfield 28, 3) := by decide +kernel
theorem dX3_failsAt_29 : decode cX3_failsAt 29 = .ok (.if_icmp .gt 36, 3) := by decide +kernel
theorem dX3_failsAt_32 : decode cX3_failsAt 32 = .ok (.iload_n 2, 1) := by decide +kernel
theorem dX3_failsAt_33 : decode cX3_failsAt 33 = .ok (.aload_n 1, 1) := by decide +kernel
theorem dX3_failsAt_34 : decode cX3_failsAt 34 = .ok (.iconst 0, 1) := by decide +kernel
theorem dX3_failsAt_35 : decode cX3_failsAt 35 = .ok (.aload_n 0, 1) := by decide +kernel
theorem dX3_failsAt_36 : decode cX3_failsAt 36 = .ok (.getfield 9, 3) := by decide +kernel
theorem dX3_failsAt_39 : decode cX3_failsAt 39 = .ok (.iload_n 3, 1) := by decide +kernel
theorem dX3_failsAt_40 : decode cX3_failsAt 40 = .ok (.iconst 1, 1) := by decide +kernel
theorem dX3_failsAt_41 : decode cX3_failsAt 41 = .ok (.isub, 1) := by decide +kernel
theorem dX3_failsAt_42 : decode cX3_failsAt 42 = .ok (.iaload, 1) := by decide +kernel
theorem dX3_failsAt_43 : decode cX3_failsAt 43 = .ok (.invokevirtual 32, 3) := by decide +kernel
theorem dX3_failsAt_46 : decode cX3_failsAt 46 = .ok (.iadd, 1) := by decide +kernel
theorem dX3_failsAt_47 : decode cX3_failsAt 47 = .ok (.istore_n 2, 1) := by decide +kernel
theorem dX3_failsAt_48 : decode cX3_failsAt 48 = .ok (.iload_n 2, 1) := by decide +kernel
theorem dX3_failsAt_49 : decode cX3_failsAt 49 = .ok (.aload_n 1, 1) := by decide +kernel
theorem dX3_failsAt_50 : decode cX3_failsAt 50 = .ok (.iload_n 3, 1) := by decide +kernel
theorem dX3_failsAt_51 : decode cX3_failsAt 51 = .ok (.invokestatic 36, 3) := by decide +kernel
theorem dX3_failsAt_54 : decode cX3_failsAt 54 = .ok (.if_icmp .le 5, 3) := by decide +kernel
theorem dX3_failsAt_57 : decode cX3_failsAt 57 = .ok (.iload_n 3, 1) := by decide +kernel
theorem dX3_failsAt_58 : decode cX3_failsAt 58 = .ok (.ireturn, 1) := by decide +kernel
theorem dX3_failsAt_59 : decode cX3_failsAt 59 = .ok (.iinc 3 1, 3) := by decide +kernel
theorem dX3_failsAt_62 : decode cX3_failsAt 62 = .ok (.goto (-38), 3) := by decide +kernel
theorem dX3_failsAt_65 : decode cX3_failsAt 65 = .ok (.bipush (-9), 2) := by decide +kernel
theorem dX3_failsAt_67 : decode cX3_failsAt 67 = .ok (.ireturn, 1) := by decide +kernel
theorem dX3_roomOf_0 : decode cX3_roomOf 0 = .ok (.iconst 0, 1) := by decide +kernel
theorem dX3_roomOf_1 : decode cX3_roomOf 1 = .ok (.istore_n 2, 1) := by decide +kernel
theorem dX3_roomOf_2 : decode cX3_roomOf 2 = .ok (.iconst 0, 1) := by decide +kernel
theorem dX3_roomOf_3 : decode cX3_roomOf 3 = .ok (.istore_n 3, 1) := by decide +kernel
theorem dX3_roomOf_4 : decode cX3_roomOf 4 = .ok (.iload_n 3, 1) := by decide +kernel
theorem dX3_roomOf_5 : decode cX3_roomOf 5 = .ok (.aload_n 0, 1) := by decide +kernel
theorem dX3_roomOf_6 : decode cX3_roomOf 6 = .ok (.getfield 40, 3) := by decide +kernel
theorem dX3_roomOf_9 : decode cX3_roomOf 9 = .ok (.if_icmp .ge 22, 3) := by decide +kernel
theorem dX3_roomOf_12 : decode cX3_roomOf 12 = .ok (.iload_n 2, 1) := by decide +kernel
theorem dX3_roomOf_13 : decode cX3_roomOf 13 = .ok (.iload_n 1, 1) := by decide +kernel
theorem dX3_roomOf_14 : decode cX3_roomOf 14 = .ok (.aload_n 0, 1) := by decide +kernel
theorem dX3_roomOf_15 : decode cX3_roomOf 15 = .ok (.iconst 1, 1) := by decide +kernel
theorem dX3_roomOf_16 : decode cX3_roomOf 16 = .ok (.iload_n 3, 1) := by decide +kernel
theorem dX3_roomOf_17 : decode cX3_roomOf 17 = .ok (.invokevirtual 32, 3) := by decide +kernel
theorem dX3_roomOf_20 : decode cX3_roomOf 20 = .ok (.invokestatic 43, 3) := by decide +kernel
theorem dX3_roomOf_23 : decode cX3_roomOf 23 = .ok (.iadd, 1) := by decide +kernel
theorem dX3_roomOf_24 : decode cX3_roomOf 24 = .ok (.istore_n 2, 1) := by decide +kernel
theorem dX3_roomOf_25 : decode cX3_roomOf 25 = .ok (.iinc 3 1, 3) := by decide +kernel
theorem dX3_roomOf_28 : decode cX3_roomOf 28 = .ok (.goto (-24), 3) := by decide +kernel
theorem dX3_roomOf_31 : decode cX3_roomOf 31 = .ok (.iload_n 2, 1) := by decide +kernel
theorem dX3_roomOf_32 : decode cX3_roomOf 32 = .ok (.ireturn, 1) := by decide +kernel
theorem dX3_orderRows_0 : decode cX3_orderRows 0 = .ok (.iconst 0, 1) := by decide +kernel
theorem dX3_orderRows_1 : decode cX3_orderRows 1 = .ok (.istore_n 2, 1) := by decide +kernel
theorem dX3_orderRows_2 : decode cX3_orderRows 2 = .ok (.iload_n 2, 1) := by decide +kernel
theorem dX3_orderRows_3 : decode cX3_orderRows 3 = .ok (.aload_n 1, 1) := by decide +kernel
theorem dX3_orderRows_4 : decode cX3_orderRows 4 = .ok (.getfield 28, 3) := by decide +kernel
theorem dX3_orderRows_7 : decode cX3_orderRows 7 = .ok (.if_icmp .ge 64, 3) := by decide +kernel
theorem dX3_orderRows_10 : decode cX3_orderRows 10 = .ok (.iload_n 2, 1) := by decide +kernel
theorem dX3_orderRows_11 : decode cX3_orderRows 11 = .ok (.istore_n 3, 1) := by decide +kernel
theorem dX3_orderRows_12 : decode cX3_orderRows 12 = .ok (.iload_n 3, 1) := by decide +kernel
theorem dX3_orderRows_13 : decode cX3_orderRows 13 = .ok (.ifCond .le 45, 3) := by decide +kernel
theorem dX3_orderRows_16 : decode cX3_orderRows 16 = .ok (.aload_n 1, 1) := by decide +kernel
theorem dX3_orderRows_17 : decode cX3_orderRows 17 = .ok (.iconst 0, 1) := by decide +kernel
theorem dX3_orderRows_18 : decode cX3_orderRows 18 = .ok (.aload_n 0, 1) := by decide +kernel
theorem dX3_orderRows_19 : decode cX3_orderRows 19 = .ok (.getfield 9, 3) := by decide +kernel
theorem dX3_orderRows_22 : decode cX3_orderRows 22 = .ok (.iload_n 3, 1) := by decide +kernel
theorem dX3_orderRows_23 : decode cX3_orderRows 23 = .ok (.iconst 1, 1) := by decide +kernel
theorem dX3_orderRows_24 : decode cX3_orderRows 24 = .ok (.isub, 1) := by decide +kernel
theorem dX3_orderRows_25 : decode cX3_orderRows 25 = .ok (.iaload, 1) := by decide +kernel
theorem dX3_orderRows_26 : decode cX3_orderRows 26 = .ok (.invokevirtual 32, 3) := by decide +kernel
theorem dX3_orderRows_29 : decode cX3_orderRows 29 = .ok (.aload_n 1, 1) := by decide +kernel
theorem dX3_orderRows_30 : decode cX3_orderRows 30 = .ok (.iconst 0, 1) := by decide +kernel
theorem dX3_orderRows_31 : decode cX3_orderRows 31 = .ok (.iload_n 2, 1) := by decide +kernel
theorem dX3_orderRows_32 : decode cX3_orderRows 32 = .ok (.invokevirtual 32, 3) := by decide +kernel
theorem dX3_orderRows_35 : decode cX3_orderRows 35 = .ok (.if_icmp .ge 23, 3) := by decide +kernel
theorem dX3_orderRows_38 : decode cX3_orderRows 38 = .ok (.aload_n 0, 1) := by decide +kernel
theorem dX3_orderRows_39 : decode cX3_orderRows 39 = .ok (.getfield 9, 3) := by decide +kernel
theorem dX3_orderRows_42 : decode cX3_orderRows 42 = .ok (.iload_n 3, 1) := by decide +kernel
theorem dX3_orderRows_43 : decode cX3_orderRows 43 = .ok (.aload_n 0, 1) := by decide +kernel
theorem dX3_orderRows_44 : decode cX3_orderRows 44 = .ok (.getfield 9, 3) := by decide +kernel
theorem dX3_orderRows_47 : decode cX3_orderRows 47 = .ok (.iload_n 3, 1) := by decide +kernel
theorem dX3_orderRows_48 : decode cX3_orderRows 48 = .ok (.iconst 1, 1) := by decide +kernel
theorem dX3_orderRows_49 : decode cX3_orderRows 49 = .ok (.isub, 1) := by decide +kernel
theorem dX3_orderRows_50 : decode cX3_orderRows 50 = .ok (.iaload, 1) := by decide +kernel
theorem dX3_orderRows_51 : decode cX3_orderRows 51 = .ok (.iastore, 1) := by decide +kernel
theorem dX3_orderRows_52 : decode cX3_orderRows 52 = .ok (.iinc 3 (-1), 3) := by decide +kernel
theorem dX3_orderRows_55 : decode cX3_orderRows 55 = .ok (.goto (-43), 3) := by decide +kernel
theorem dX3_orderRows_58 : decode cX3_orderRows 58 = .ok (.aload_n 0, 1) := by decide +kernel
theorem dX3_orderRows_59 : decode cX3_orderRows 59 = .ok (.getfield 9, 3) := by decide +kernel
theorem dX3_orderRows_62 : decode cX3_orderRows 62 = .ok (.iload_n 3, 1) := by decide +kernel
theorem dX3_orderRows_63 : decode cX3_orderRows 63 = .ok (.iload_n 2, 1) := by decide +kernel
theorem dX3_orderRows_64 : decode cX3_orderRows 64 = .ok (.iastore, 1) := by decide +kernel
theorem dX3_orderRows_65 : decode cX3_orderRows 65 = .ok (.iinc 2 1, 3) := by decide +kernel
theorem dX3_orderRows_68 : decode cX3_orderRows 68 = .ok (.goto (-66), 3) := by decide +kernel
theorem dX3_orderRows_71 : decode cX3_orderRows 71 = .ok (.return_, 1) := by decide +kernel
theorem dX3_fill_0 : decode cX3_fill 0 = .ok (.aload_n 0, 1) := by decide +kernel
theorem dX3_fill_1 : decode cX3_fill 1 = .ok (.aload_n 1, 1) := by decide +kernel
theorem dX3_fill_2 : decode cX3_fill 2 = .ok (.invokevirtual 24, 3) := by decide +kernel
theorem dX3_fill_5 : decode cX3_fill 5 = .ok (.iconst 0, 1) := by decide +kernel
theorem dX3_fill_6 : decode cX3_fill 6 = .ok (.istore_n 2, 1) := by decide +kernel
theorem dX3_fill_7 : decode cX3_fill 7 = .ok (.iload_n 2, 1) := by decide +kernel
theorem dX3_fill_8 : decode cX3_fill 8 = .ok (.aload_n 1, 1) := by decide +kernel
theorem dX3_fill_9 : decode cX3_fill 9 = .ok (.getfield 40, 3) := by decide +kernel
theorem dX3_fill_12 : decode cX3_fill 12 = .ok (.if_icmp .ge 21, 3) := by decide +kernel
theorem dX3_fill_15 : decode cX3_fill 15 = .ok (.aload_n 0, 1) := by decide +kernel
theorem dX3_fill_16 : decode cX3_fill 16 = .ok (.getfield 15, 3) := by decide +kernel
theorem dX3_fill_19 : decode cX3_fill 19 = .ok (.iload_n 2, 1) := by decide +kernel
theorem dX3_fill_20 : decode cX3_fill 20 = .ok (.aload_n 1, 1) := by decide +kernel
theorem dX3_fill_21 : decode cX3_fill 21 = .ok (.iconst 1, 1) := by decide +kernel
theorem dX3_fill_22 : decode cX3_fill 22 = .ok (.iload_n 2, 1) := by decide +kernel
theorem dX3_fill_23 : decode cX3_fill 23 = .ok (.invokevirtual 32, 3) := by decide +kernel
theorem dX3_fill_26 : decode cX3_fill 26 = .ok (.iastore, 1) := by decide +kernel
theorem dX3_fill_27 : decode cX3_fill 27 = .ok (.iinc 2 1, 3) := by decide +kernel
theorem dX3_fill_30 : decode cX3_fill 30 = .ok (.goto (-23), 3) := by decide +kernel
theorem dX3_fill_33 : decode cX3_fill 33 = .ok (.iconst 0, 1) := by decide +kernel
theorem dX3_fill_34 : decode cX3_fill 34 = .ok (.istore_n 2, 1) := by decide +kernel
theorem dX3_fill_35 : decode cX3_fill 35 = .ok (.iconst 0, 1) := by decide +kernel
theorem dX3_fill_36 : decode cX3_fill 36 = .ok (.istore_n 3, 1) := by decide +kernel
theorem dX3_fill_37 : decode cX3_fill 37 = .ok (.iload_n 3, 1) := by decide +kernel
theorem dX3_fill_38 : decode cX3_fill 38 = .ok (.aload_n 1, 1) := by decide +kernel
theorem dX3_fill_39 : decode cX3_fill 39 = .ok (.getfield 28, 3) := by decide +kernel
theorem dX3_fill_42 : decode cX3_fill 42 = .ok (.if_icmp .ge 42, 3) := by decide +kernel
theorem dX3_fill_45 : decode cX3_fill 45 = .ok (.aload_n 0, 1) := by decide +kernel
theorem dX3_fill_46 : decode cX3_fill 46 = .ok (.aload_n 1, 1) := by decide +kernel
theorem dX3_fill_47 : decode cX3_fill 47 = .ok (.aload_n 1, 1) := by decide +kernel
theorem dX3_fill_48 : decode cX3_fill 48 = .ok (.iconst 0, 1) := by decide +kernel
theorem dX3_fill_49 : decode cX3_fill 49 = .ok (.aload_n 0, 1) := by decide +kernel
theorem dX3_fill_50 : decode cX3_fill 50 = .ok (.getfield 9, 3) := by decide +kernel
theorem dX3_fill_53 : decode cX3_fill 53 = .ok (.iload_n 3, 1) := by decide +kernel
theorem dX3_fill_54 : decode cX3_fill 54 = .ok (.iaload, 1) := by decide +kernel
theorem dX3_fill_55 : decode cX3_fill 55 = .ok (.invokevirtual 32, 3) := by decide +kernel
theorem dX3_fill_58 : decode cX3_fill 58 = .ok (.invokevirtual 48, 3) := by decide +kernel
theorem dX3_fill_61 : decode cX3_fill 61 = .ok (.istore 4, 2) := by decide +kernel
theorem dX3_fill_63 : decode cX3_fill 63 = .ok (.iload_n 2, 1) := by decide +kernel
theorem dX3_fill_64 : decode cX3_fill 64 = .ok (.aload_n 1, 1) := by decide +kernel
theorem dX3_fill_65 : decode cX3_fill 65 = .ok (.iload 4, 2) := by decide +kernel
theorem dX3_fill_67 : decode cX3_fill 67 = .ok (.aload_n 0, 1) := by decide +kernel
theorem dX3_fill_68 : decode cX3_fill 68 = .ok (.getfield 9, 3) := by decide +kernel
theorem dX3_fill_71 : decode cX3_fill 71 = .ok (.iload_n 3, 1) := by decide +kernel
theorem dX3_fill_72 : decode cX3_fill 72 = .ok (.iaload, 1) := by decide +kernel
theorem dX3_fill_73 : decode cX3_fill 73 = .ok (.invokevirtual 51, 3) := by decide +kernel
theorem dX3_fill_76 : decode cX3_fill 76 = .ok (.ior, 1) := by decide +kernel
theorem dX3_fill_77 : decode cX3_fill 77 = .ok (.istore_n 2, 1) := by decide +kernel
theorem dX3_fill_78 : decode cX3_fill 78 = .ok (.iinc 3 1, 3) := by decide +kernel
theorem dX3_fill_81 : decode cX3_fill 81 = .ok (.goto (-44), 3) := by decide +kernel
theorem dX3_fill_84 : decode cX3_fill 84 = .ok (.iload_n 2, 1) := by decide +kernel
theorem dX3_fill_85 : decode cX3_fill 85 = .ok (.ireturn, 1) := by decide +kernel
theorem dX3_chooseColumns_0 : decode cX3_chooseColumns 0 = .ok (.iconst 0, 1) := by decide +kernel
theorem dX3_chooseColumns_1 : decode cX3_chooseColumns 1 = .ok (.istore_n 3, 1) := by decide +kernel
theorem dX3_chooseColumns_2 : decode cX3_chooseColumns 2 = .ok (.iconst 0, 1) := by decide +kernel
theorem dX3_chooseColumns_3 : decode cX3_chooseColumns 3 = .ok (.istore 4, 2) := by decide +kernel
theorem dX3_chooseColumns_5 : decode cX3_chooseColumns 5 = .ok (.iload 4, 2) := by decide +kernel
theorem dX3_chooseColumns_7 : decode cX3_chooseColumns 7 = .ok (.iload_n 2, 1) := by decide +kernel
theorem dX3_chooseColumns_8 : decode cX3_chooseColumns 8 = .ok (.if_icmp .ge 107, 3) := by decide +kernel
theorem dX3_chooseColumns_11 : decode cX3_chooseColumns 11 = .ok (.bipush (-9), 2) := by decide +kernel
theorem dX3_chooseColumns_13 : decode cX3_chooseColumns 13 = .ok (.istore 5, 2) := by decide +kernel
theorem dX3_chooseColumns_15 : decode cX3_chooseColumns 15 = .ok (.iconst 0, 1) := by decide +kernel
theorem dX3_chooseColumns_16 : decode cX3_chooseColumns 16 = .ok (.istore 6, 2) := by decide +kernel
theorem dX3_chooseColumns_18 : decode cX3_chooseColumns 18 = .ok (.iload 6, 2) := by decide +kernel
theorem dX3_chooseColumns_20 : decode cX3_chooseColumns 20 = .ok (.aload_n 1, 1) := by decide +kernel
theorem dX3_chooseColumns_21 : decode cX3_chooseColumns 21 = .ok (.getfield 40, 3) := by decide +kernel
theorem dX3_chooseColumns_24 : decode cX3_chooseColumns 24 = .ok (.if_icmp .ge 59, 3) := by decide +kernel
theorem dX3_chooseColumns_27 : decode cX3_chooseColumns 27 = .ok (.iload_n 3, 1) := by decide +kernel
theorem dX3_chooseColumns_28 : decode cX3_chooseColumns 28 = .ok (.iload 6, 2) := by decide +kernel
theorem dX3_chooseColumns_30 : decode cX3_chooseColumns 30 = .ok (.invokestatic 54, 3) := by decide +kernel
theorem dX3_chooseColumns_33 : decode cX3_chooseColumns 33 = .ok (.iand, 1) := by decide +kernel
theorem dX3_chooseColumns_34 : decode cX3_chooseColumns 34 = .ok (.ifCond .ne 7, 3) := by decide +kernel
theorem dX3_chooseColumns_37 : decode cX3_chooseColumns 37 = .ok (.iconst 1, 1) := by decide +kernel
theorem dX3_chooseColumns_38 : decode cX3_chooseColumns 38 = .ok (.goto 4, 3) := by decide +kernel
theorem dX3_chooseColumns_41 : decode cX3_chooseColumns 41 = .ok (.iconst 0, 1) := by decide +kernel
theorem dX3_chooseColumns_42 : decode cX3_chooseColumns 42 = .ok (.istore 7, 2) := by decide +kernel
theorem dX3_chooseColumns_44 : decode cX3_chooseColumns 44 = .ok (.iload 7, 2) := by decide +kernel
theorem dX3_chooseColumns_46 : decode cX3_chooseColumns 46 = .ok (.ifCond .eq 31, 3) := by decide +kernel
theorem dX3_chooseColumns_49 : decode cX3_chooseColumns 49 = .ok (.iload 5, 2) := by decide +kernel
theorem dX3_chooseColumns_51 : decode cX3_chooseColumns 51 = .ok (.bipush (-9), 2) := by decide +kernel
theorem dX3_chooseColumns_53 : decode cX3_chooseColumns 53 = .ok (.if_icmp .eq 20, 3) := by decide +kernel
theorem dX3_chooseColumns_56 : decode cX3_chooseColumns 56 = .ok (.aload_n 0, 1) := by decide +kernel
theorem dX3_chooseColumns_57 : decode cX3_chooseColumns 57 = .ok (.getfield 15, 3) := by decide +kernel
theorem dX3_chooseColumns_60 : decode cX3_chooseColumns 60 = .ok (.iload 6, 2) := by decide +kernel
theorem dX3_chooseColumns_62 : decode cX3_chooseColumns 62 = .ok (.iaload, 1) := by decide +kernel
theorem dX3_chooseColumns_63 : decode cX3_chooseColumns 63 = .ok (.aload_n 0, 1) := by decide +kernel
theorem dX3_chooseColumns_64 : decode cX3_chooseColumns 64 = .ok (.getfield 15, 3) := by decide +kernel
theorem dX3_chooseColumns_67 : decode cX3_chooseColumns 67 = .ok (.iload 5, 2) := by decide +kernel
theorem dX3_chooseColumns_69 : decode cX3_chooseColumns 69 = .ok (.iaload, 1) := by decide +kernel
theorem dX3_chooseColumns_70 : decode cX3_chooseColumns 70 = .ok (.if_icmp .le 7, 3) := by decide +kernel
theorem dX3_chooseColumns_73 : decode cX3_chooseColumns 73 = .ok (.iload 6, 2) := by decide +kernel
theorem dX3_chooseColumns_75 : decode cX3_chooseColumns 75 = .ok (.istore 5, 2) := by decide +kernel
theorem dX3_chooseColumns_77 : decode cX3_chooseColumns 77 = .ok (.iinc 6 1, 3) := by decide +kernel
theorem dX3_chooseColumns_80 : decode cX3_chooseColumns 80 = .ok (.goto (-62), 3) := by decide +kernel
theorem dX3_chooseColumns_83 : decode cX3_chooseColumns 83 = .ok (.iload 5, 2) := by decide +kernel
theorem dX3_chooseColumns_85 : decode cX3_chooseColumns 85 = .ok (.bipush (-9), 2) := by decide +kernel
theorem dX3_chooseColumns_87 : decode cX3_chooseColumns 87 = .ok (.if_icmp .eq 22, 3) := by decide +kernel
theorem dX3_chooseColumns_90 : decode cX3_chooseColumns 90 = .ok (.iload_n 3, 1) := by decide +kernel
theorem dX3_chooseColumns_91 : decode cX3_chooseColumns 91 = .ok (.iload 5, 2) := by decide +kernel
theorem dX3_chooseColumns_93 : decode cX3_chooseColumns 93 = .ok (.invokestatic 54, 3) := by decide +kernel
theorem dX3_chooseColumns_96 : decode cX3_chooseColumns 96 = .ok (.ior, 1) := by decide +kernel
theorem dX3_chooseColumns_97 : decode cX3_chooseColumns 97 = .ok (.istore_n 3, 1) := by decide +kernel
theorem dX3_chooseColumns_98 : decode cX3_chooseColumns 98 = .ok (.aload_n 0, 1) := by decide +kernel
theorem dX3_chooseColumns_99 : decode cX3_chooseColumns 99 = .ok (.getfield 15, 3) := by decide +kernel
theorem dX3_chooseColumns_102 : decode cX3_chooseColumns 102 = .ok (.iload 5, 2) := by decide +kernel
theorem dX3_chooseColumns_104 : decode cX3_chooseColumns 104 = .ok (.dup2, 1) := by decide +kernel
theorem dX3_chooseColumns_105 : decode cX3_chooseColumns 105 = .ok (.iaload, 1) := by decide +kernel
theorem dX3_chooseColumns_106 : decode cX3_chooseColumns 106 = .ok (.iconst 1, 1) := by decide +kernel
theorem dX3_chooseColumns_107 : decode cX3_chooseColumns 107 = .ok (.isub, 1) := by decide +kernel
theorem dX3_chooseColumns_108 : decode cX3_chooseColumns 108 = .ok (.iastore, 1) := by decide +kernel
theorem dX3_chooseColumns_109 : decode cX3_chooseColumns 109 = .ok (.iinc 4 1, 3) := by decide +kernel
theorem dX3_chooseColumns_112 : decode cX3_chooseColumns 112 = .ok (.goto (-107), 3) := by decide +kernel
theorem dX3_chooseColumns_115 : decode cX3_chooseColumns 115 = .ok (.iload_n 3, 1) := by decide +kernel
theorem dX3_chooseColumns_116 : decode cX3_chooseColumns 116 = .ok (.ireturn, 1) := by decide +kernel
theorem dX4_append_0 : decode cX4_append 0 = .ok (.aload_n 0, 1) := by decide +kernel
theorem dX4_append_1 : decode cX4_append 1 = .ok (.getfield 22, 3) := by decide +kernel
theorem dX4_append_4 : decode cX4_append 4 = .ok (.bipush 40, 2) := by decide +kernel
theorem dX4_append_6 : decode cX4_append 6 = .ok (.if_icmp .lt 5, 3) := by decide +kernel
theorem dX4_append_9 : decode cX4_append 9 = .ok (.iconst 0, 1) := by decide +kernel
theorem dX4_append_10 : decode cX4_append 10 = .ok (.ireturn, 1) := by decide +kernel
theorem dX4_append_11 : decode cX4_append 11 = .ok (.aload_n 0, 1) := by decide +kernel
theorem dX4_append_12 : decode cX4_append 12 = .ok (.getfield 9, 3) := by decide +kernel
theorem dX4_append_15 : decode cX4_append 15 = .ok (.aload_n 0, 1) := by decide +kernel
theorem dX4_append_16 : decode cX4_append 16 = .ok (.getfield 22, 3) := by decide +kernel
theorem dX4_append_19 : decode cX4_append 19 = .ok (.iload_n 1, 1) := by decide +kernel
theorem dX4_append_20 : decode cX4_append 20 = .ok (.iastore, 1) := by decide +kernel
theorem dX4_append_21 : decode cX4_append 21 = .ok (.aload_n 0, 1) := by decide +kernel
theorem dX4_append_22 : decode cX4_append 22 = .ok (.dup, 1) := by decide +kernel
theorem dX4_append_23 : decode cX4_append 23 = .ok (.getfield 22, 3) := by decide +kernel
theorem dX4_append_26 : decode cX4_append 26 = .ok (.iconst 1, 1) := by decide +kernel
theorem dX4_append_27 : decode cX4_append 27 = .ok (.iadd, 1) := by decide +kernel
theorem dX4_append_28 : decode cX4_append 28 = .ok (.putfield 22, 3) := by decide +kernel
theorem dX4_append_31 : decode cX4_append 31 = .ok (.iconst 1, 1) := by decide +kernel
theorem dX4_append_32 : decode cX4_append 32 = .ok (.ireturn, 1) := by decide +kernel
theorem dX4_readSheet_0 : decode cX4_readSheet 0 = .ok (.aload_n 0, 1) := by decide +kernel
theorem dX4_readSheet_1 : decode cX4_readSheet 1 = .ok (.iconst 0, 1) := by decide +kernel
theorem dX4_readSheet_2 : decode cX4_readSheet 2 = .ok (.invokevirtual 26, 3) := by decide +kernel
theorem dX4_readSheet_5 : decode cX4_readSheet 5 = .ok (.bipush 80, 2) := by decide +kernel
theorem dX4_readSheet_7 : decode cX4_readSheet 7 = .ok (.if_icmp .eq 5, 3) := by decide +kernel
theorem dX4_readSheet_10 : decode cX4_readSheet 10 = .ok (.iconst 0, 1) := by decide +kernel
theorem dX4_readSheet_11 : decode cX4_readSheet 11 = .ok (.ireturn, 1) := by decide +kernel
theorem dX4_readSheet_12 : decode cX4_readSheet 12 = .ok (.aload_n 0, 1) := by decide +kernel
theorem dX4_readSheet_13 : decode cX4_readSheet 13 = .ok (.getfield 18, 3) := by decide +kernel
theorem dX4_readSheet_16 : decode cX4_readSheet 16 = .ok (.aload_n 0, 1) := by decide +kernel
theorem dX4_readSheet_17 : decode cX4_readSheet 17 = .ok (.iconst 1, 1) := by decide +kernel
theorem dX4_readSheet_18 : decode cX4_readSheet 18 = .ok (.iconst 1, 1) := by decide +kernel
theorem dX4_readSheet_19 : decode cX4_readSheet 19 = .ok (.iconst 4, 1) := by decide +kernel
theorem dX4_readSheet_20 : decode cX4_readSheet 20 = .ok (.invokevirtual 30, 3) := by decide +kernel
theorem dX4_readSheet_23 : decode cX4_readSheet 23 = .ok (.putfield 34, 3) := by decide +kernel
theorem dX4_readSheet_26 : decode cX4_readSheet 26 = .ok (.aload_n 0, 1) := by decide +kernel
theorem dX4_readSheet_27 : decode cX4_readSheet 27 = .ok (.getfield 18, 3) := by decide +kernel
theorem dX4_readSheet_30 : decode cX4_readSheet 30 = .ok (.getfield 34, 3) := by decide +kernel
theorem dX4_readSheet_33 : decode cX4_readSheet 33 = .ok (.bipush (-9), 2) := by decide +kernel
theorem dX4_readSheet_35 : decode cX4_readSheet 35 = .ok (.if_icmp .ne 5, 3) := by decide +kernel
theorem dX4_readSheet_38 : decode cX4_readSheet 38 = .ok (.iconst 1, 1) := by decide +kernel
theorem dX4_readSheet_39 : decode cX4_readSheet 39 = .ok (.ireturn, 1) := by decide +kernel
theorem dX4_readSheet_40 : decode cX4_readSheet 40 = .ok (.aload_n 0, 1) := by decide +kernel
theorem dX4_readSheet_41 : decode cX4_readSheet 41 = .ok (.getfield 18, 3) := by decide +kernel
theorem dX4_readSheet_44 : decode cX4_readSheet 44 = .ok (.aload_n 0, 1) := by decide +kernel
theorem dX4_readSheet_45 : decode cX4_readSheet 45 = .ok (.iconst 2, 1) := by decide +kernel
theorem dX4_readSheet_46 : decode cX4_readSheet 46 = .ok (.iconst 1, 1) := by decide +kernel
theorem dX4_readSheet_47 : decode cX4_readSheet 47 = .ok (.iconst 5, 1) := by decide +kernel
theorem dX4_readSheet_48 : decode cX4_readSheet 48 = .ok (.invokevirtual 30, 3) := by decide +kernel
theorem dX4_readSheet_51 : decode cX4_readSheet 51 = .ok (.putfield 37, 3) := by decide +kernel
theorem dX4_readSheet_54 : decode cX4_readSheet 54 = .ok (.aload_n 0, 1) := by decide +kernel
theorem dX4_readSheet_55 : decode cX4_readSheet 55 = .ok (.getfield 18, 3) := by decide +kernel
theorem dX4_readSheet_58 : decode cX4_readSheet 58 = .ok (.getfield 37, 3) := by decide +kernel
theorem dX4_readSheet_61 : decode cX4_readSheet 61 = .ok (.bipush (-9), 2) := by decide +kernel
theorem dX4_readSheet_63 : decode cX4_readSheet 63 = .ok (.if_icmp .ne 5, 3) := by decide +kernel
theorem dX4_readSheet_66 : decode cX4_readSheet 66 = .ok (.iconst 2, 1) := by decide +kernel
theorem dX4_readSheet_67 : decode cX4_readSheet 67 = .ok (.ireturn, 1) := by decide +kernel
theorem dX4_readSheet_68 : decode cX4_readSheet 68 = .ok (.iconst 3, 1) := by decide +kernel
theorem dX4_readSheet_69 : decode cX4_readSheet 69 = .ok (.istore_n 1, 1) := by decide +kernel
theorem dX4_readSheet_70 : decode cX4_readSheet 70 = .ok (.iconst 0, 1) := by decide +kernel
theorem dX4_readSheet_71 : decode cX4_readSheet 71 = .ok (.istore_n 2, 1) := by decide +kernel
theorem dX4_readSheet_72 : decode cX4_readSheet 72 = .ok (.iload_n 2, 1) := by decide +kernel
theorem dX4_readSheet_73 : decode cX4_readSheet 73 = .ok (.iconst 1, 1) := by decide +kernel
theorem dX4_readSheet_74 : decode cX4_readSheet 74 = .ok (.if_icmp .gt 68, 3) := by decide +kernel
theorem dX4_readSheet_77 : decode cX4_readSheet 77 = .ok (.iconst 0, 1) := by decide +kernel
theorem dX4_readSheet_78 : decode cX4_readSheet 78 = .ok (.istore_n 3, 1) := by decide +kernel
theorem dX4_readSheet_79 : decode cX4_readSheet 79 = .ok (.iload_n 3, 1) := by decide +kernel
theorem dX4_readSheet_80 : decode cX4_readSheet 80 = .ok (.aload_n 0, 1) := by decide +kernel
theorem dX4_readSheet_81 : decode cX4_readSheet 81 = .ok (.getfield 18, 3) := by decide +kernel
theorem dX4_readSheet_84 : decode cX4_readSheet 84 = .ok (.iload_n 2, 1) := by decide +kernel
theorem dX4_readSheet_85 : decode cX4_readSheet 85 = .ok (.invokevirtual 40, 3) := by decide +kernel
theorem dX4_readSheet_88 : decode cX4_readSheet 88 = .ok (.if_icmp .ge 48, 3) := by decide +kernel
theorem dX4_readSheet_91 : decode cX4_readSheet 91 = .ok (.aload_n 0, 1) := by decide +kernel
theorem dX4_readSheet_92 : decode cX4_readSheet 92 = .ok (.iload_n 1, 1) := by decide +kernel
theorem dX4_readSheet_93 : decode cX4_readSheet 93 = .ok (.iconst 0, 1) := by decide +kernel
theorem dX4_readSheet_94 : decode cX4_readSheet 94 = .ok (.aload_n 0, 1) := by decide +kernel
theorem dX4_readSheet_95 : decode cX4_readSheet 95 = .ok (.getfield 18, 3) := by decide +kernel
theorem dX4_readSheet_98 : decode cX4_readSheet 98 = .ok (.iload_n 2, 1) := by decide +kernel
theorem dX4_readSheet_99 : decode cX4_readSheet 99 = .ok (.invokevirtual 43, 3) := by decide +kernel
theorem dX4_readSheet_102 : decode cX4_readSheet 102 = .ok (.invokevirtual 30, 3) := by decide +kernel
theorem dX4_readSheet_105 : decode cX4_readSheet 105 = .ok (.istore 4, 2) := by decide +kernel
theorem dX4_readSheet_107 : decode cX4_readSheet 107 = .ok (.iload 4, 2) := by decide +kernel
theorem dX4_readSheet_109 : decode cX4_readSheet 109 = .ok (.bipush (-9), 2) := by decide +kernel
theorem dX4_readSheet_111 : decode cX4_readSheet 111 = .ok (.if_icmp .ne 5, 3) := by decide +kernel
theorem dX4_readSheet_114 : decode cX4_readSheet 114 = .ok (.iload_n 1, 1) := by decide +kernel
theorem dX4_readSheet_115 : decode cX4_readSheet 115 = .ok (.ireturn, 1) := by decide +kernel
theorem dX4_readSheet_116 : decode cX4_readSheet 116 = .ok (.aload_n 0, 1) := by decide +kernel
theorem dX4_readSheet_117 : decode cX4_readSheet 117 = .ok (.getfield 18, 3) := by decide +kernel
theorem dX4_readSheet_120 : decode cX4_readSheet 120 = .ok (.iload_n 2, 1) := by decide +kernel
theorem dX4_readSheet_121 : decode cX4_readSheet 121 = .ok (.iload_n 3, 1) := by decide +kernel
theorem dX4_readSheet_122 : decode cX4_readSheet 122 = .ok (.iload 4, 2) := by decide +kernel
theorem dX4_readSheet_124 : decode cX4_readSheet 124 = .ok (.invokevirtual 46, 3) := by decide +kernel
theorem dX4_readSheet_127 : decode cX4_readSheet 127 = .ok (.iinc 1 1, 3) := by decide +kernel
theorem dX4_readSheet_130 : decode cX4_readSheet 130 = .ok (.iinc 3 1, 3) := by decide +kernel
theorem dX4_readSheet_133 : decode cX4_readSheet 133 = .ok (.goto (-54), 3) := by decide +kernel
theorem dX4_readSheet_136 : decode cX4_readSheet 136 = .ok (.iinc 2 1, 3) := by decide +kernel
theorem dX4_readSheet_139 : decode cX4_readSheet 139 = .ok (.goto (-67), 3) := by decide +kernel
theorem dX4_readSheet_142 : decode cX4_readSheet 142 = .ok (.aload_n 0, 1) := by decide +kernel
theorem dX4_readSheet_143 : decode cX4_readSheet 143 = .ok (.iload_n 1, 1) := by decide +kernel
theorem dX4_readSheet_144 : decode cX4_readSheet 144 = .ok (.invokevirtual 50, 3) := by decide +kernel
theorem dX4_readSheet_147 : decode cX4_readSheet 147 = .ok (.ireturn, 1) := by decide +kernel
theorem dX4_readPins_0 : decode cX4_readPins 0 = .ok (.aload_n 0, 1) := by decide +kernel
theorem dX4_readPins_1 : decode cX4_readPins 1 = .ok (.getfield 18, 3) := by decide +kernel
theorem dX4_readPins_4 : decode cX4_readPins 4 = .ok (.iconst 0, 1) := by decide +kernel
theorem dX4_readPins_5 : decode cX4_readPins 5 = .ok (.putfield 53, 3) := by decide +kernel
theorem dX4_readPins_8 : decode cX4_readPins 8 = .ok (.aload_n 0, 1) := by decide +kernel
theorem dX4_readPins_9 : decode cX4_readPins 9 = .ok (.getfield 18, 3) := by decide +kernel
theorem dX4_readPins_12 : decode cX4_readPins 12 = .ok (.iconst 0, 1) := by decide +kernel
theorem dX4_readPins_13 : decode cX4_readPins 13 = .ok (.putfield 56, 3) := by decide +kernel
theorem dX4_readPins_16 : decode cX4_readPins 16 = .ok (.iload_n 1, 1) := by decide +kernel
theorem dX4_readPins_17 : decode cX4_readPins 17 = .ok (.istore_n 2, 1) := by decide +kernel
theorem dX4_readPins_18 : decode cX4_readPins 18 = .ok (.iload_n 2, 1) := by decide +kernel
theorem dX4_readPins_19 : decode cX4_readPins 19 = .ok (.aload_n 0, 1) := by decide +kernel
theorem dX4_readPins_20 : decode cX4_readPins 20 = .ok (.getfield 22, 3) := by decide +kernel
theorem dX4_readPins_23 : decode cX4_readPins 23 = .ok (.if_icmp .ge 199, 3) := by decide +kernel
theorem dX4_readPins_26 : decode cX4_readPins 26 = .ok (.aload_n 0, 1) := by decide +kernel
theorem dX4_readPins_27 : decode cX4_readPins 27 = .ok (.iload_n 2, 1) := by decide +kernel
theorem dX4_readPins_28 : decode cX4_readPins 28 = .ok (.invokevirtual 26, 3) := by decide +kernel
theorem dX4_readPins_31 : decode cX4_readPins 31 = .ok (.istore_n 3, 1) := by decide +kernel
theorem dX4_readPins_32 : decode cX4_readPins 32 = .ok (.aload_n 0, 1) := by decide +kernel
theorem dX4_readPins_33 : decode cX4_readPins 33 = .ok (.getfield 18, 3) := by decide +kernel
theorem dX4_readPins_36 : decode cX4_readPins 36 = .ok (.invokevirtual 59, 3) := by decide +kernel
theorem dX4_readPins_39 : decode cX4_readPins 39 = .ok (.istore 4, 2) := by decide +kernel
theorem dX4_readPins_41 : decode cX4_readPins 41 = .ok (.iload_n 3, 1) := by decide +kernel
theorem dX4_readPins_42 : decode cX4_readPins 42 = .ok (.bipush 111, 2) := by decide +kernel
theorem dX4_readPins_44 : decode cX4_readPins 44 = .ok (.if_icmp .eq 9, 3) := by decide +kernel
theorem dX4_readPins_47 : decode cX4_readPins 47 = .ok (.iload_n 3, 1) := by decide +kernel
theorem dX4_readPins_48 : decode cX4_readPins 48 = .ok (.bipush 120, 2) := by decide +kernel
theorem dX4_readPins_50 : decode cX4_readPins 50 = .ok (.if_icmp .ne 22, 3) := by decide +kernel
theorem dX4_readPins_53 : decode cX4_readPins 53 = .ok (.iload 4, 2) := by decide +kernel
theorem dX4_readPins_55 : decode cX4_readPins 55 = .ok (.bipush 6, 2) := by decide +kernel
theorem dX4_readPins_57 : decode cX4_readPins 57 = .ok (.if_icmp .ge 15, 3) := by decide +kernel
theorem dX4_readPins_60 : decode cX4_readPins 60 = .ok (.iload 4, 2) := by decide +kernel
theorem dX4_readPins_62 : decode cX4_readPins 62 = .ok (.aload_n 0, 1) := by decide +kernel
theorem dX4_readPins_63 : decode cX4_readPins 63 = .ok (.getfield 18, 3) := by decide +kernel
theorem dX4_readPins_66 : decode cX4_readPins 66 = .ok (.invokevirtual 63, 3) := by decide +kernel
theorem dX4_readPins_69 : decode cX4_readPins 69 = .ok (.if_icmp .lt 5, 3) := by decide +kernel
theorem dX4_readPins_72 : decode cX4_readPins 72 = .ok (.iload_n 2, 1) := by decide +kernel
theorem dX4_readPins_73 : decode cX4_readPins 73 = .ok (.ireturn, 1) := by decide +kernel
theorem dX4_readPins_74 : decode cX4_readPins 74 = .ok (.aload_n 0, 1) := by decide +kernel
theorem dX4_readPins_75 : decode cX4_readPins 75 = .ok (.iload_n 2, 1) := by decide +kernel
theorem dX4_readPins_76 : decode cX4_readPins 76 = .ok (.iconst 1, 1) := by decide +kernel
theorem dX4_readPins_77 : decode cX4_readPins 77 = .ok (.iadd, 1) := by decide +kernel
theorem dX4_readPins_78 : decode cX4_readPins 78 = .ok (.iconst 0, 1) := by decide +kernel
theorem dX4_readPins_79 : decode cX4_readPins 79 = .ok (.aload_n 0, 1) := by decide +kernel
theorem dX4_readPins_80 : decode cX4_readPins 80 = .ok (.getfield 18, 3) := by decide +kernel
theorem dX4_readPins_83 : decode cX4_readPins 83 = .ok (.getfield 34, 3) := by decide +kernel
theorem dX4_readPins_86 : decode cX4_readPins 86 = .ok (.iconst 1, 1) := by decide +kernel
theorem dX4_readPins_87 : decode cX4_readPins 87 = .ok (.isub, 1) := by decide +kernel
theorem dX4_readPins_88 : decode cX4_readPins 88 = .ok (.invokevirtual 30, 3) := by decide +kernel
theorem dX4_readPins_91 : decode cX4_readPins 91 = .ok (.istore 5, 2) := by decide +kernel
theorem dX4_readPins_93 : decode cX4_readPins 93 = .ok (.iload 5, 2) := by decide +kernel
theorem dX4_readPins_95 : decode cX4_readPins 95 = .ok (.bipush (-9), 2) := by decide +kernel
theorem dX4_readPins_97 : decode cX4_readPins 97 = .ok (.if_icmp .eq 32, 3) := by decide +kernel
theorem dX4_readPins_100 : decode cX4_readPins 100 = .ok (.aload_n 0, 1) := by decide +kernel
theorem dX4_readPins_101 : decode cX4_readPins 101 = .ok (.getfield 18, 3) := by decide +kernel
theorem dX4_readPins_104 : decode cX4_readPins 104 = .ok (.aload_n 0, 1) := by decide +kernel
theorem dX4_readPins_105 : decode cX4_readPins 105 = .ok (.getfield 18, 3) := by decide +kernel
theorem dX4_readPins_108 : decode cX4_readPins 108 = .ok (.getfield 53, 3) := by decide +kernel
theorem dX4_readPins_111 : decode cX4_readPins 111 = .ok (.iload 5, 2) := by decide +kernel
theorem dX4_readPins_113 : decode cX4_readPins 113 = .ok (.invokevirtual 66, 3) := by decide +kernel
theorem dX4_readPins_116 : decode cX4_readPins 116 = .ok (.invokestatic 70, 3) := by decide +kernel
theorem dX4_readPins_119 : decode cX4_readPins 119 = .ok (.aload_n 0, 1) := by decide +kernel
theorem dX4_readPins_120 : decode cX4_readPins 120 = .ok (.getfield 18, 3) := by decide +kernel
theorem dX4_readPins_123 : decode cX4_readPins 123 = .ok (.getfield 37, 3) := by decide +kernel
theorem dX4_readPins_126 : decode cX4_readPins 126 = .ok (.if_icmp .ne 7, 3) := by decide +kernel
theorem dX4_readPins_129 : decode cX4_readPins 129 = .ok (.iload_n 2, 1) := by decide +kernel
theorem dX4_readPins_130 : decode cX4_readPins 130 = .ok (.iconst 1, 1) := by decide +kernel
theorem dX4_readPins_131 : decode cX4_readPins 131 = .ok (.iadd, 1) := by decide +kernel
theorem dX4_readPins_132 : decode cX4_readPins 132 = .ok (.ireturn, 1) := by decide +kernel
theorem dX4_readPins_133 : decode cX4_readPins 133 = .ok (.aload_n 0, 1) := by decide +kernel
theorem dX4_readPins_134 : decode cX4_readPins 134 = .ok (.iload_n 2, 1) := by decide +kernel
theorem dX4_readPins_135 : decode cX4_readPins 135 = .ok (.iconst 2, 1) := by decide +kernel
theorem dX4_readPins_136 : decode cX4_readPins 136 = .ok (.iadd, 1) := by decide +kernel
theorem dX4_readPins_137 : decode cX4_readPins 137 = .ok (.iconst 0, 1) := by decide +kernel
theorem dX4_readPins_138 : decode cX4_readPins 138 = .ok (.aload_n 0, 1) := by decide +kernel
theorem dX4_readPins_139 : decode cX4_readPins 139 = .ok (.getfield 18, 3) := by decide +kernel
theorem dX4_readPins_142 : decode cX4_readPins 142 = .ok (.getfield 37, 3) := by decide +kernel
theorem dX4_readPins_145 : decode cX4_readPins 145 = .ok (.iconst 1, 1) := by decide +kernel
theorem dX4_readPins_146 : decode cX4_readPins 146 = .ok (.isub, 1) := by decide +kernel
theorem dX4_readPins_147 : decode cX4_readPins 147 = .ok (.invokevirtual 30, 3) := by decide +kernel
theorem dX4_readPins_150 : decode cX4_readPins 150 = .ok (.istore 6, 2) := by decide +kernel
theorem dX4_readPins_152 : decode cX4_readPins 152 = .ok (.iload 6, 2) := by decide +kernel
theorem dX4_readPins_154 : decode cX4_readPins 154 = .ok (.bipush (-9), 2) := by decide +kernel
theorem dX4_readPins_156 : decode cX4_readPins 156 = .ok (.if_icmp .eq 25, 3) := by decide +kernel
theorem dX4_readPins_159 : decode cX4_readPins 159 = .ok (.aload_n 0, 1) := by decide +kernel
theorem dX4_readPins_160 : decode cX4_readPins 160 = .ok (.getfield 18, 3) := by decide +kernel
theorem dX4_readPins_163 : decode cX4_readPins 163 = .ok (.getfield 53, 3) := by decide +kernel
theorem dX4_readPins_166 : decode cX4_readPins 166 = .ok (.aload_n 0, 1) := by decide +kernel
theorem dX4_readPins_167 : decode cX4_readPins 167 = .ok (.getfield 18, 3) := by decide +kernel
theorem dX4_readPins_170 : decode cX4_readPins 170 = .ok (.iload 5, 2) := by decide +kernel
theorem dX4_readPins_172 : decode cX4_readPins 172 = .ok (.iload 6, 2) := by decide +kernel
theorem dX4_readPins_174 : decode cX4_readPins 174 = .ok (.invokevirtual 75, 3) := by decide +kernel
theorem dX4_readPins_177 : decode cX4_readPins 177 = .ok (.iand, 1) := by decide +kernel
theorem dX4_readPins_178 : decode cX4_readPins 178 = .ok (.ifCond .eq 7, 3) := by decide +kernel
theorem dX4_readPins_181 : decode cX4_readPins 181 = .ok (.iload_n 2, 1) := by decide +kernel
theorem dX4_readPins_182 : decode cX4_readPins 182 = .ok (.iconst 2, 1) := by decide +kernel
theorem dX4_readPins_183 : decode cX4_readPins 183 = .ok (.iadd, 1) := by decide +kernel
theorem dX4_readPins_184 : decode cX4_readPins 184 = .ok (.ireturn, 1) := by decide +kernel
theorem dX4_readPins_185 : decode cX4_readPins 185 = .ok (.aload_n 0, 1) := by decide +kernel
theorem dX4_readPins_186 : decode cX4_readPins 186 = .ok (.getfield 18, 3) := by decide +kernel
theorem dX4_readPins_189 : decode cX4_readPins 189 = .ok (.aload_n 0, 1) := by decide +kernel
theorem dX4_readPins_190 : decode cX4_readPins 190 = .ok (.getfield 18, 3) := by decide +kernel
theorem dX4_readPins_193 : decode cX4_readPins 193 = .ok (.getfield 37, 3) := by decide +kernel
theorem dX4_readPins_196 : decode cX4_readPins 196 = .ok (.iload 5, 2) := by decide +kernel
theorem dX4_readPins_198 : decode cX4_readPins 198 = .ok (.imul, 1) := by decide +kernel
theorem dX4_readPins_199 : decode cX4_readPins 199 = .ok (.iload 6, 2) := by decide +kernel
theorem dX4_readPins_201 : decode cX4_readPins 201 = .ok (.iadd, 1) := by decide +kernel
theorem dX4_readPins_202 : decode cX4_readPins 202 = .ok (.iload_n 3, 1) := by decide +kernel
theorem dX4_readPins_203 : decode cX4_readPins 203 = .ok (.bipush 111, 2) := by decide +kernel
theorem dX4_readPins_205 : decode cX4_readPins 205 = .ok (.if_icmp .ne 7, 3) := by decide +kernel
theorem dX4_readPins_208 : decode cX4_readPins 208 = .ok (.iconst 1, 1) := by decide +kernel
theorem dX4_readPins_209 : decode cX4_readPins 209 = .ok (.goto 4, 3) := by decide +kernel
theorem dX4_readPins_212 : decode cX4_readPins 212 = .ok (.iconst 2, 1) := by decide +kernel
theorem dX4_readPins_213 : decode cX4_readPins 213 = .ok (.invokevirtual 78, 3) := by decide +kernel
theorem dX4_readPins_216 : decode cX4_readPins 216 = .ok (.iinc 2 3, 3) := by decide +kernel
theorem dX4_readPins_219 : decode cX4_readPins 219 = .ok (.goto (-201), 3) := by decide +kernel
theorem dX4_readPins_222 : decode cX4_readPins 222 = .ok (.bipush (-9), 2) := by decide +kernel
theorem dX4_readPins_224 : decode cX4_readPins 224 = .ok (.ireturn, 1) := by decide +kernel
theorem dX4_letterAt_0 : decode cX4_letterAt 0 = .ok (.iload_n 1, 1) := by decide +kernel
theorem dX4_letterAt_1 : decode cX4_letterAt 1 = .ok (.ifCond .lt 26, 3) := by decide +kernel
theorem dX4_letterAt_4 : decode cX4_letterAt 4 = .ok (.iload_n 1, 1) := by decide +kernel
theorem dX4_letterAt_5 : decode cX4_letterAt 5 = .ok (.aload_n 0, 1) := by decide +kernel
theorem dX4_letterAt_6 : decode cX4_letterAt 6 = .ok (.getfield 22, 3) := by decide +kernel
theorem dX4_letterAt_9 : decode cX4_letterAt 9 = .ok (.if_icmp .ge 18, 3) := by decide +kernel
theorem dX4_letterAt_12 : decode cX4_letterAt 12 = .ok (.iload_n 1, 1) := by decide +kernel
theorem dX4_letterAt_13 : decode cX4_letterAt 13 = .ok (.bipush 40, 2) := by decide +kernel
theorem dX4_letterAt_15 : decode cX4_letterAt 15 = .ok (.if_icmp .ge 12, 3) := by decide +kernel
theorem dX4_letterAt_18 : decode cX4_letterAt 18 = .ok (.aload_n 0, 1) := by decide +kernel
theorem dX4_letterAt_19 : decode cX4_letterAt 19 = .ok (.getfield 9, 3) := by decide +kernel
theorem dX4_letterAt_22 : decode cX4_letterAt 22 = .ok (.iload_n 1, 1) := by decide +kernel
theorem dX4_letterAt_23 : decode cX4_letterAt 23 = .ok (.iaload, 1) := by decide +kernel
theorem dX4_letterAt_24 : decode cX4_letterAt 24 = .ok (.goto 5, 3) := by decide +kernel
theorem dX4_letterAt_27 : decode cX4_letterAt 27 = .ok (.bipush (-9), 2) := by decide +kernel
theorem dX4_letterAt_29 : decode cX4_letterAt 29 = .ok (.ireturn, 1) := by decide +kernel
theorem dX4_figureAt_0 : decode cX4_figureAt 0 = .ok (.aload_n 0, 1) := by decide +kernel
theorem dX4_figureAt_1 : decode cX4_figureAt 1 = .ok (.iload_n 1, 1) := by decide +kernel
theorem dX4_figureAt_2 : decode cX4_figureAt 2 = .ok (.invokevirtual 26, 3) := by decide +kernel
theorem dX4_figureAt_5 : decode cX4_figureAt 5 = .ok (.bipush 48, 2) := by decide +kernel
theorem dX4_figureAt_7 : decode cX4_figureAt 7 = .ok (.isub, 1) := by decide +kernel
theorem dX4_figureAt_8 : decode cX4_figureAt 8 = .ok (.istore 4, 2) := by decide +kernel
theorem dX4_figureAt_10 : decode cX4_figureAt 10 = .ok (.iload 4, 2) := by decide +kernel
theorem dX4_figureAt_12 : decode cX4_figureAt 12 = .ok (.iload_n 2, 1) := by decide +kernel
theorem dX4_figureAt_13 : decode cX4_figureAt 13 = .ok (.if_icmp .lt 14, 3) := by decide +kernel
theorem dX4_figureAt_16 : decode cX4_figureAt 16 = .ok (.iload 4, 2) := by decide +kernel
theorem dX4_figureAt_18 : decode cX4_figureAt 18 = .ok (.iload_n 3, 1) := by decide +kernel
theorem dX4_figureAt_19 : decode cX4_figureAt 19 = .ok (.if_icmp .gt 8, 3) := by decide +kernel
theorem dX4_figureAt_22 : decode cX4_figureAt 22 = .ok (.iload 4, 2) := by decide +kernel
theorem dX4_figureAt_24 : decode cX4_figureAt 24 = .ok (.goto 5, 3) := by decide +kernel
theorem dX4_figureAt_27 : decode cX4_figureAt 27 = .ok (.bipush (-9), 2) := by decide +kernel
theorem dX4_figureAt_29 : decode cX4_figureAt 29 = .ok (.ireturn, 1) := by decide +kernel
theorem dX5_weigh_0 : decode cX5_weigh 0 = .ok (.aload_n 0, 1) := by decide +kernel
theorem dX5_weigh_1 : decode cX5_weigh 1 = .ok (.aload_n 1, 1) := by decide +kernel
theorem dX5_weigh_2 : decode cX5_weigh 2 = .ok (.getfield 21, 3) := by decide +kernel
theorem dX5_weigh_5 : decode cX5_weigh 5 = .ok (.invokevirtual 27, 3) := by decide +kernel
theorem dX5_weigh_8 : decode cX5_weigh 8 = .ok (.iconst 1, 1) := by decide +kernel
theorem dX5_weigh_9 : decode cX5_weigh 9 = .ok (.aload_n 0, 1) := by decide +kernel
theorem dX5_weigh_10 : decode cX5_weigh 10 = .ok (.getfield 31, 3) := by decide +kernel
theorem dX5_weigh_13 : decode cX5_weigh 13 = .ok (.ishl, 1) := by decide +kernel
theorem dX5_weigh_14 : decode cX5_weigh 14 = .ok (.istore_n 2, 1) := by decide +kernel
theorem dX5_weigh_15 : decode cX5_weigh 15 = .ok (.iconst 0, 1) := by decide +kernel
theorem dX5_weigh_16 : decode cX5_weigh 16 = .ok (.istore_n 3, 1) := by decide +kernel
theorem dX5_weigh_17 : decode cX5_weigh 17 = .ok (.iload_n 3, 1) := by decide +kernel
theorem dX5_weigh_18 : decode cX5_weigh 18 = .ok (.iload_n 2, 1) := by decide +kernel
theorem dX5_weigh_19 : decode cX5_weigh 19 = .ok (.if_icmp .ge 23, 3) := by decide +kernel
theorem dX5_weigh_22 : decode cX5_weigh 22 = .ok (.aload_n 0, 1) := by decide +kernel
theorem dX5_weigh_23 : decode cX5_weigh 23 = .ok (.getfield 15, 3) := by decide +kernel
theorem dX5_weigh_26 : decode cX5_weigh 26 = .ok (.iload_n 3, 1) := by decide +kernel
theorem dX5_weigh_27 : decode cX5_weigh 27 = .ok (.iconst 0, 1) := by decide +kernel
theorem dX5_weigh_28 : decode cX5_weigh 28 = .ok (.iastore, 1) := by decide +kernel
theorem dX5_weigh_29 : decode cX5_weigh 29 = .ok (.aload_n 0, 1) := by decide +kernel
theorem dX5_weigh_30 : decode cX5_weigh 30 = .ok (.getfield 18, 3) := by decide +kernel
theorem dX5_weigh_33 : decode cX5_weigh 33 = .ok (.iload_n 3, 1) := by decide +kernel
theorem dX5_weigh_34 : decode cX5_weigh 34 = .ok (.iconst 0, 1) := by decide +kernel
theorem dX5_weigh_35 : decode cX5_weigh 35 = .ok (.iastore, 1) := by decide +kernel
theorem dX5_weigh_36 : decode cX5_weigh 36 = .ok (.iinc 3 1, 3) := by decide +kernel
theorem dX5_weigh_39 : decode cX5_weigh 39 = .ok (.goto (-22), 3) := by decide +kernel
theorem dX5_weigh_42 : decode cX5_weigh 42 = .ok (.iconst 0, 1) := by decide +kernel
theorem dX5_weigh_43 : decode cX5_weigh 43 = .ok (.istore_n 3, 1) := by decide +kernel
theorem dX5_weigh_44 : decode cX5_weigh 44 = .ok (.iload_n 3, 1) := by decide +kernel
theorem dX5_weigh_45 : decode cX5_weigh 45 = .ok (.aload_n 1, 1) := by decide +kernel
theorem dX5_weigh_46 : decode cX5_weigh 46 = .ok (.getfield 35, 3) := by decide +kernel
theorem dX5_weigh_49 : decode cX5_weigh 49 = .ok (.getfield 39, 3) := by decide +kernel
theorem dX5_weigh_52 : decode cX5_weigh 52 = .ok (.if_icmp .ge 35, 3) := by decide +kernel
theorem dX5_weigh_55 : decode cX5_weigh 55 = .ok (.aload_n 0, 1) := by decide +kernel
theorem dX5_weigh_56 : decode cX5_weigh 56 = .ok (.getfield 15, 3) := by decide +kernel
theorem dX5_weigh_59 : decode cX5_weigh 59 = .ok (.aload_n 0, 1) := by decide +kernel
theorem dX5_weigh_60 : decode cX5_weigh 60 = .ok (.aload_n 1, 1) := by decide +kernel
theorem dX5_weigh_61 : decode cX5_weigh 61 = .ok (.getfield 21, 3) := by decide +kernel
theorem dX5_weigh_64 : decode cX5_weigh 64 = .ok (.aload_n 1, 1) := by decide +kernel
theorem dX5_weigh_65 : decode cX5_weigh 65 = .ok (.getfield 35, 3) := by decide +kernel
theorem dX5_weigh_68 : decode cX5_weigh 68 = .ok (.getfield 44, 3) := by decide +kernel
theorem dX5_weigh_71 : decode cX5_weigh 71 = .ok (.iload_n 3, 1) := by decide +kernel
theorem dX5_weigh_72 : decode cX5_weigh 72 = .ok (.iaload, 1) := by decide +kernel
theorem dX5_weigh_73 : decode cX5_weigh 73 = .ok (.invokevirtual 47, 3) := by decide +kernel
theorem dX5_weigh_76 : decode cX5_weigh 76 = .ok (.dup2, 1) := by decide +kernel
theorem dX5_weigh_77 : decode cX5_weigh 77 = .ok (.iaload, 1) := by decide +kernel
theorem dX5_weigh_78 : decode cX5_weigh 78 = .ok (.iconst 1, 1) := by decide +kernel
theorem dX5_weigh_79 : decode cX5_weigh 79 = .ok (.iadd, 1) := by decide +kernel
theorem dX5_weigh_80 : decode cX5_weigh 80 = .ok (.iastore, 1) := by decide +kernel
theorem dX5_weigh_81 : decode cX5_weigh 81 = .ok (.iinc 3 1, 3) := by decide +kernel
theorem dX5_weigh_84 : decode cX5_weigh 84 = .ok (.goto (-40), 3) := by decide +kernel
theorem dX5_weigh_87 : decode cX5_weigh 87 = .ok (.iconst 0, 1) := by decide +kernel
theorem dX5_weigh_88 : decode cX5_weigh 88 = .ok (.istore_n 3, 1) := by decide +kernel
theorem dX5_weigh_89 : decode cX5_weigh 89 = .ok (.iload_n 3, 1) := by decide +kernel
theorem dX5_weigh_90 : decode cX5_weigh 90 = .ok (.iload_n 2, 1) := by decide +kernel
theorem dX5_weigh_91 : decode cX5_weigh 91 = .ok (.if_icmp .ge 51, 3) := by decide +kernel
theorem dX5_weigh_94 : decode cX5_weigh 94 = .ok (.iconst 0, 1) := by decide +kernel
theorem dX5_weigh_95 : decode cX5_weigh 95 = .ok (.istore 4, 2) := by decide +kernel
theorem dX5_weigh_97 : decode cX5_weigh 97 = .ok (.iload 4, 2) := by decide +kernel
theorem dX5_weigh_99 : decode cX5_weigh 99 = .ok (.iload_n 2, 1) := by decide +kernel
theorem dX5_weigh_100 : decode cX5_weigh 100 = .ok (.if_icmp .ge 36, 3) := by decide +kernel
theorem dX5_weigh_103 : decode cX5_weigh 103 = .ok (.aload_n 0, 1) := by decide +kernel
theorem dX5_weigh_104 : decode cX5_weigh 104 = .ok (.getfield 18, 3) := by decide +kernel
theorem dX5_weigh_107 : decode cX5_weigh 107 = .ok (.iload_n 3, 1) := by decide +kernel
theorem dX5_weigh_108 : decode cX5_weigh 108 = .ok (.dup2, 1) := by decide +kernel
theorem dX5_weigh_109 : decode cX5_weigh 109 = .ok (.iaload, 1) := by decide +kernel
theorem dX5_weigh_110 : decode cX5_weigh 110 = .ok (.iload_n 3, 1) := by decide +kernel
theorem dX5_weigh_111 : decode cX5_weigh 111 = .ok (.iload 4, 2) := by decide +kernel
theorem dX5_weigh_113 : decode cX5_weigh 113 = .ok (.iand, 1) := by decide +kernel
theorem dX5_weigh_114 : decode cX5_weigh 114 = .ok (.ifCond .ne 13, 3) := by decide +kernel
theorem dX5_weigh_117 : decode cX5_weigh 117 = .ok (.aload_n 0, 1) := by decide +kernel
theorem dX5_weigh_118 : decode cX5_weigh 118 = .ok (.getfield 15, 3) := by decide +kernel
theorem dX5_weigh_121 : decode cX5_weigh 121 = .ok (.iload 4, 2) := by decide +kernel
theorem dX5_weigh_123 : decode cX5_weigh 123 = .ok (.iaload, 1) := by decide +kernel
theorem dX5_weigh_124 : decode cX5_weigh 124 = .ok (.goto 4, 3) := by decide +kernel
theorem dX5_weigh_127 : decode cX5_weigh 127 = .ok (.iconst 0, 1) := by decide +kernel
theorem dX5_weigh_128 : decode cX5_weigh 128 = .ok (.iadd, 1) := by decide +kernel
theorem dX5_weigh_129 : decode cX5_weigh 129 = .ok (.iastore, 1) := by decide +kernel
theorem dX5_weigh_130 : decode cX5_weigh 130 = .ok (.iinc 4 1, 3) := by decide +kernel
theorem dX5_weigh_133 : decode cX5_weigh 133 = .ok (.goto (-36), 3) := by decide +kernel
theorem dX5_weigh_136 : decode cX5_weigh 136 = .ok (.iinc 3 1, 3) := by decide +kernel
theorem dX5_weigh_139 : decode cX5_weigh 139 = .ok (.goto (-50), 3) := by decide +kernel
theorem dX5_weigh_142 : decode cX5_weigh 142 = .ok (.return_, 1) := by decide +kernel
theorem dX5_listPins_0 : decode cX5_listPins 0 = .ok (.aload_n 0, 1) := by decide +kernel
theorem dX5_listPins_1 : decode cX5_listPins 1 = .ok (.iconst 0, 1) := by decide +kernel
theorem dX5_listPins_2 : decode cX5_listPins 2 = .ok (.putfield 31, 3) := by decide +kernel
theorem dX5_listPins_5 : decode cX5_listPins 5 = .ok (.iconst 0, 1) := by decide +kernel
theorem dX5_listPins_6 : decode cX5_listPins 6 = .ok (.istore_n 2, 1) := by decide +kernel
theorem dX5_listPins_7 : decode cX5_listPins 7 = .ok (.iload_n 2, 1) := by decide +kernel
theorem dX5_listPins_8 : decode cX5_listPins 8 = .ok (.aload_n 1, 1) := by decide +kernel
theorem dX5_listPins_9 : decode cX5_listPins 9 = .ok (.invokevirtual 51, 3) := by decide +kernel
theorem dX5_listPins_12 : decode cX5_listPins 12 = .ok (.if_icmp .ge 46, 3) := by decide +kernel
theorem dX5_listPins_15 : decode cX5_listPins 15 = .ok (.aload_n 0, 1) := by decide +kernel
theorem dX5_listPins_16 : decode cX5_listPins 16 = .ok (.getfield 31, 3) := by decide +kernel
theorem dX5_listPins_19 : decode cX5_listPins 19 = .ok (.bipush 6, 2) := by decide +kernel
theorem dX5_listPins_21 : decode cX5_listPins 21 = .ok (.if_icmp .ge 37, 3) := by decide +kernel
theorem dX5_listPins_24 : decode cX5_listPins 24 = .ok (.aload_n 1, 1) := by decide +kernel
theorem dX5_listPins_25 : decode cX5_listPins 25 = .ok (.iload_n 2, 1) := by decide +kernel
theorem dX5_listPins_26 : decode cX5_listPins 26 = .ok (.invokevirtual 56, 3) := by decide +kernel
theorem dX5_listPins_29 : decode cX5_listPins 29 = .ok (.ifCond .eq 23, 3) := by decide +kernel
theorem dX5_listPins_32 : decode cX5_listPins 32 = .ok (.aload_n 0, 1) := by decide +kernel
theorem dX5_listPins_33 : decode cX5_listPins 33 = .ok (.getfield 9, 3) := by decide +kernel
theorem dX5_listPins_36 : decode cX5_listPins 36 = .ok (.aload_n 0, 1) := by decide +kernel
theorem dX5_listPins_37 : decode cX5_listPins 37 = .ok (.getfield 31, 3) := by decide +kernel
theorem dX5_listPins_40 : decode cX5_listPins 40 = .ok (.iload_n 2, 1) := by decide +kernel
theorem dX5_listPins_41 : decode cX5_listPins 41 = .ok (.iastore, 1) := by decide +kernel
theorem dX5_listPins_42 : decode cX5_listPins 42 = .ok (.aload_n 0, 1) := by decide +kernel
theorem dX5_listPins_43 : decode cX5_listPins 43 = .ok (.dup, 1) := by decide +kernel
theorem dX5_listPins_44 : decode cX5_listPins 44 = .ok (.getfield 31, 3) := by decide +kernel
theorem dX5_listPins_47 : decode cX5_listPins 47 = .ok (.iconst 1, 1) := by decide +kernel
theorem dX5_listPins_48 : decode cX5_listPins 48 = .ok (.iadd, 1) := by decide +kernel
theorem dX5_listPins_49 : decode cX5_listPins 49 = .ok (.putfield 31, 3) := by decide +kernel
theorem dX5_listPins_52 : decode cX5_listPins 52 = .ok (.iinc 2 1, 3) := by decide +kernel
theorem dX5_listPins_55 : decode cX5_listPins 55 = .ok (.goto (-48), 3) := by decide +kernel
theorem dX5_listPins_58 : decode cX5_listPins 58 = .ok (.return_, 1) := by decide +kernel
theorem dX5_brokenBy_0 : decode cX5_brokenBy 0 = .ok (.iload_n 2, 1) := by decide +kernel
theorem dX5_brokenBy_1 : decode cX5_brokenBy 1 = .ok (.aload_n 1, 1) := by decide +kernel
theorem dX5_brokenBy_2 : decode cX5_brokenBy 2 = .ok (.getfield 60, 3) := by decide +kernel
theorem dX5_brokenBy_5 : decode cX5_brokenBy 5 = .ok (.ixor, 1) := by decide +kernel
theorem dX5_brokenBy_6 : decode cX5_brokenBy 6 = .ok (.aload_n 1, 1) := by decide +kernel
theorem dX5_brokenBy_7 : decode cX5_brokenBy 7 = .ok (.getfield 63, 3) := by decide +kernel
theorem dX5_brokenBy_10 : decode cX5_brokenBy 10 = .ok (.iand, 1) := by decide +kernel
theorem dX5_brokenBy_11 : decode cX5_brokenBy 11 = .ok (.istore_n 3, 1) := by decide +kernel
theorem dX5_brokenBy_12 : decode cX5_brokenBy 12 = .ok (.iconst 0, 1) := by decide +kernel
theorem dX5_brokenBy_13 : decode cX5_brokenBy 13 = .ok (.istore 4, 2) := by decide +kernel
theorem dX5_brokenBy_15 : decode cX5_brokenBy 15 = .ok (.iconst 0, 1) := by decide +kernel
theorem dX5_brokenBy_16 : decode cX5_brokenBy 16 = .ok (.istore 5, 2) := by decide +kernel
theorem dX5_brokenBy_18 : decode cX5_brokenBy 18 = .ok (.iload 5, 2) := by decide +kernel
theorem dX5_brokenBy_20 : decode cX5_brokenBy 20 = .ok (.aload_n 0, 1) := by decide +kernel
theorem dX5_brokenBy_21 : decode cX5_brokenBy 21 = .ok (.getfield 31, 3) := by decide +kernel
theorem dX5_brokenBy_24 : decode cX5_brokenBy 24 = .ok (.if_icmp .ge 28, 3) := by decide +kernel
theorem dX5_brokenBy_27 : decode cX5_brokenBy 27 = .ok (.iload 4, 2) := by decide +kernel
theorem dX5_brokenBy_29 : decode cX5_brokenBy 29 = .ok (.iload_n 3, 1) := by decide +kernel
theorem dX5_brokenBy_30 : decode cX5_brokenBy 30 = .ok (.aload_n 0, 1) := by decide +kernel
theorem dX5_brokenBy_31 : decode cX5_brokenBy 31 = .ok (.getfield 9, 3) := by decide +kernel
theorem dX5_brokenBy_34 : decode cX5_brokenBy 34 = .ok (.iload 5, 2) := by decide +kernel
theorem dX5_brokenBy_36 : decode cX5_brokenBy 36 = .ok (.iaload, 1) := by decide +kernel
theorem dX5_brokenBy_37 : decode cX5_brokenBy 37 = .ok (.invokestatic 66, 3) := by decide +kernel
theorem dX5_brokenBy_40 : decode cX5_brokenBy 40 = .ok (.iload 5, 2) := by decide +kernel
theorem dX5_brokenBy_42 : decode cX5_brokenBy 42 = .ok (.ishl, 1) := by decide +kernel
theorem dX5_brokenBy_43 : decode cX5_brokenBy 43 = .ok (.ior, 1) := by decide +kernel
theorem dX5_brokenBy_44 : decode cX5_brokenBy 44 = .ok (.istore 4, 2) := by decide +kernel
theorem dX5_brokenBy_46 : decode cX5_brokenBy 46 = .ok (.iinc 5 1, 3) := by decide +kernel
theorem dX5_brokenBy_49 : decode cX5_brokenBy 49 = .ok (.goto (-31), 3) := by decide +kernel
theorem dX5_brokenBy_52 : decode cX5_brokenBy 52 = .ok (.iload 4, 2) := by decide +kernel
theorem dX5_brokenBy_54 : decode cX5_brokenBy 54 = .ok (.ireturn, 1) := by decide +kernel
theorem dX5_orders_0 : decode cX5_orders 0 = .ok (.iconst 1, 1) := by decide +kernel
theorem dX5_orders_1 : decode cX5_orders 1 = .ok (.istore_n 2, 1) := by decide +kernel
theorem dX5_orders_2 : decode cX5_orders 2 = .ok (.iconst 2, 1) := by decide +kernel
theorem dX5_orders_3 : decode cX5_orders 3 = .ok (.istore_n 3, 1) := by decide +kernel
theorem dX5_orders_4 : decode cX5_orders 4 = .ok (.iload_n 3, 1) := by decide +kernel
theorem dX5_orders_5 : decode cX5_orders 5 = .ok (.iload_n 1, 1) := by decide +kernel
theorem dX5_orders_6 : decode cX5_orders 6 = .ok (.if_icmp .gt 13, 3) := by decide +kernel
theorem dX5_orders_9 : decode cX5_orders 9 = .ok (.iload_n 2, 1) := by decide +kernel
theorem dX5_orders_10 : decode cX5_orders 10 = .ok (.iload_n 3, 1) := by decide +kernel
theorem dX5_orders_11 : decode cX5_orders 11 = .ok (.imul, 1) := by decide +kernel
theorem dX5_orders_12 : decode cX5_orders 12 = .ok (.istore_n 2, 1) := by decide +kernel
theorem dX5_orders_13 : decode cX5_orders 13 = .ok (.iinc 3 1, 3) := by decide +kernel
theorem dX5_orders_16 : decode cX5_orders 16 = .ok (.goto (-12), 3) := by decide +kernel
theorem dX5_orders_19 : decode cX5_orders 19 = .ok (.iload_n 2, 1) := by decide +kernel
theorem dX5_orders_20 : decode cX5_orders 20 = .ok (.ireturn, 1) := by decide +kernel
theorem dX5_fewerInAllOrders_0 : decode cX5_fewerInAllOrders 0 = .ok (.iconst 0, 1) := by decide +kernel
theorem dX5_fewerInAllOrders_1 : decode cX5_fewerInAllOrders 1 = .ok (.istore_n 2, 1) := by decide +kernel
theorem dX5_fewerInAllOrders_2 : decode cX5_fewerInAllOrders 2 = .ok (.iconst 0, 1) := by decide +kernel
theorem dX5_fewerInAllOrders_3 : decode cX5_fewerInAllOrders 3 = .ok (.istore_n 3, 1) := by decide +kernel
theorem dX5_fewerInAllOrders_4 : decode cX5_fewerInAllOrders 4 = .ok (.iload_n 3, 1) := by decide +kernel
theorem dX5_fewerInAllOrders_5 : decode cX5_fewerInAllOrders 5 = .ok (.aload_n 0, 1) := by decide +kernel
theorem dX5_fewerInAllOrders_6 : decode cX5_fewerInAllOrders 6 = .ok (.getfield 31, 3) := by decide +kernel
theorem dX5_fewerInAllOrders_9 : decode cX5_fewerInAllOrders 9 = .ok (.if_icmp .ge 29, 3) := by decide +kernel
theorem dX5_fewerInAllOrders_12 : decode cX5_fewerInAllOrders 12 = .ok (.iload_n 2, 1) := by decide +kernel
theorem dX5_fewerInAllOrders_13 : decode cX5_fewerInAllOrders 13 = .ok (.aload_n 0, 1) := by decide +kernel
theorem dX5_fewerInAllOrders_14 : decode cX5_fewerInAllOrders 14 = .ok (.getfield 9, 3) := by decide +kernel
theorem dX5_fewerInAllOrders_17 : decode cX5_fewerInAllOrders 17 = .ok (.iload_n 3, 1) := by decide +kernel
theorem dX5_fewerInAllOrders_18 : decode cX5_fewerInAllOrders 18 = .ok (.iaload, 1) := by decide +kernel
theorem dX5_fewerInAllOrders_19 : decode cX5_fewerInAllOrders 19 = .ok (.iload_n 1, 1) := by decide +kernel
theorem dX5_fewerInAllOrders_20 : decode cX5_fewerInAllOrders 20 = .ok (.if_icmp .ne 9, 3) := by decide +kernel
theorem dX5_fewerInAllOrders_23 : decode cX5_fewerInAllOrders 23 = .ok (.iconst 1, 1) := by decide +kernel
theorem dX5_fewerInAllOrders_24 : decode cX5_fewerInAllOrders 24 = .ok (.iload_n 3, 1) := by decide +kernel
theorem dX5_fewerInAllOrders_25 : decode cX5_fewerInAllOrders 25 = .ok (.ishl, 1) := by decide +kernel
theorem dX5_fewerInAllOrders_26 : decode cX5_fewerInAllOrders 26 = .ok (.goto 4, 3) := by decide +kernel
theorem dX5_fewerInAllOrders_29 : decode cX5_fewerInAllOrders 29 = .ok (.iconst 0, 1) := by decide +kernel
theorem dX5_fewerInAllOrders_30 : decode cX5_fewerInAllOrders 30 = .ok (.ior, 1) := by decide +kernel
theorem dX5_fewerInAllOrders_31 : decode cX5_fewerInAllOrders 31 = .ok (.istore_n 2, 1) := by decide +kernel
theorem dX5_fewerInAllOrders_32 : decode cX5_fewerInAllOrders 32 = .ok (.iinc 3 1, 3) := by decide +kernel
theorem dX5_fewerInAllOrders_35 : decode cX5_fewerInAllOrders 35 = .ok (.goto (-31), 3) := by decide +kernel
theorem dX5_fewerInAllOrders_38 : decode cX5_fewerInAllOrders 38 = .ok (.iconst 0, 1) := by decide +kernel
theorem dX5_fewerInAllOrders_39 : decode cX5_fewerInAllOrders 39 = .ok (.istore_n 3, 1) := by decide +kernel
theorem dX5_fewerInAllOrders_40 : decode cX5_fewerInAllOrders 40 = .ok (.iconst 0, 1) := by decide +kernel
theorem dX5_fewerInAllOrders_41 : decode cX5_fewerInAllOrders 41 = .ok (.istore 4, 2) := by decide +kernel
theorem dX5_fewerInAllOrders_43 : decode cX5_fewerInAllOrders 43 = .ok (.iload 4, 2) := by decide +kernel
theorem dX5_fewerInAllOrders_45 : decode cX5_fewerInAllOrders 45 = .ok (.iconst 1, 1) := by decide +kernel
theorem dX5_fewerInAllOrders_46 : decode cX5_fewerInAllOrders 46 = .ok (.aload_n 0, 1) := by decide +kernel
theorem dX5_fewerInAllOrders_47 : decode cX5_fewerInAllOrders 47 = .ok (.getfield 31, 3) := by decide +kernel
theorem dX5_fewerInAllOrders_50 : decode cX5_fewerInAllOrders 50 = .ok (.ishl, 1) := by decide +kernel
theorem dX5_fewerInAllOrders_51 : decode cX5_fewerInAllOrders 51 = .ok (.if_icmp .ge 68, 3) := by decide +kernel
theorem dX5_fewerInAllOrders_54 : decode cX5_fewerInAllOrders 54 = .ok (.iload 4, 2) := by decide +kernel
theorem dX5_fewerInAllOrders_56 : decode cX5_fewerInAllOrders 56 = .ok (.iload_n 2, 1) := by decide +kernel
theorem dX5_fewerInAllOrders_57 : decode cX5_fewerInAllOrders 57 = .ok (.iand, 1) := by decide +kernel
theorem dX5_fewerInAllOrders_58 : decode cX5_fewerInAllOrders 58 = .ok (.ifCond .ne 55, 3) := by decide +kernel
theorem dX5_fewerInAllOrders_61 : decode cX5_fewerInAllOrders 61 = .ok (.iload 4, 2) := by decide +kernel
theorem dX5_fewerInAllOrders_63 : decode cX5_fewerInAllOrders 63 = .ok (.invokestatic 70, 3) := by decide +kernel
theorem dX5_fewerInAllOrders_66 : decode cX5_fewerInAllOrders 66 = .ok (.istore 5, 2) := by decide +kernel
theorem dX5_fewerInAllOrders_68 : decode cX5_fewerInAllOrders 68 = .ok (.aload_n 0, 1) := by decide +kernel
theorem dX5_fewerInAllOrders_69 : decode cX5_fewerInAllOrders 69 = .ok (.iload 5, 2) := by decide +kernel
theorem dX5_fewerInAllOrders_71 : decode cX5_fewerInAllOrders 71 = .ok (.invokevirtual 75, 3) := by decide +kernel
theorem dX5_fewerInAllOrders_74 : decode cX5_fewerInAllOrders 74 = .ok (.aload_n 0, 1) := by decide +kernel
theorem dX5_fewerInAllOrders_75 : decode cX5_fewerInAllOrders 75 = .ok (.aload_n 0, 1) := by decide +kernel
theorem dX5_fewerInAllOrders_76 : decode cX5_fewerInAllOrders 76 = .ok (.getfield 31, 3) := by decide +kernel
theorem dX5_fewerInAllOrders_79 : decode cX5_fewerInAllOrders 79 = .ok (.iconst 1, 1) := by decide +kernel
theorem dX5_fewerInAllOrders_80 : decode cX5_fewerInAllOrders 80 = .ok (.isub, 1) := by decide +kernel
theorem dX5_fewerInAllOrders_81 : decode cX5_fewerInAllOrders 81 = .ok (.iload 5, 2) := by decide +kernel
theorem dX5_fewerInAllOrders_83 : decode cX5_fewerInAllOrders 83 = .ok (.isub, 1) := by decide +kernel
theorem dX5_fewerInAllOrders_84 : decode cX5_fewerInAllOrders 84 = .ok (.invokevirtual 75, 3) := by decide +kernel
theorem dX5_fewerInAllOrders_87 : decode cX5_fewerInAllOrders 87 = .ok (.imul, 1) := by decide +kernel
theorem dX5_fewerInAllOrders_88 : decode cX5_fewerInAllOrders 88 = .ok (.istore 6, 2) := by decide +kernel
theorem dX5_fewerInAllOrders_90 : decode cX5_fewerInAllOrders 90 = .ok (.iload_n 3, 1) := by decide +kernel
theorem dX5_fewerInAllOrders_91 : decode cX5_fewerInAllOrders 91 = .ok (.iload 6, 2) := by decide +kernel
theorem dX5_fewerInAllOrders_93 : decode cX5_fewerInAllOrders 93 = .ok (.aload_n 0, 1) := by decide +kernel
theorem dX5_fewerInAllOrders_94 : decode cX5_fewerInAllOrders 94 = .ok (.getfield 18, 3) := by decide +kernel
theorem dX5_fewerInAllOrders_97 : decode cX5_fewerInAllOrders 97 = .ok (.iload 4, 2) := by decide +kernel
theorem dX5_fewerInAllOrders_99 : decode cX5_fewerInAllOrders 99 = .ok (.iaload, 1) := by decide +kernel
theorem dX5_fewerInAllOrders_100 : decode cX5_fewerInAllOrders 100 = .ok (.aload_n 0, 1) := by decide +kernel
theorem dX5_fewerInAllOrders_101 : decode cX5_fewerInAllOrders 101 = .ok (.getfield 18, 3) := by decide +kernel
theorem dX5_fewerInAllOrders_104 : decode cX5_fewerInAllOrders 104 = .ok (.iload 4, 2) := by decide +kernel
theorem dX5_fewerInAllOrders_106 : decode cX5_fewerInAllOrders 106 = .ok (.iload_n 2, 1) := by decide +kernel
theorem dX5_fewerInAllOrders_107 : decode cX5_fewerInAllOrders 107 = .ok (.ior, 1) := by decide +kernel
theorem dX5_fewerInAllOrders_108 : decode cX5_fewerInAllOrders 108 = .ok (.iaload, 1) := by decide +kernel
theorem dX5_fewerInAllOrders_109 : decode cX5_fewerInAllOrders 109 = .ok (.isub, 1) := by decide +kernel
theorem dX5_fewerInAllOrders_110 : decode cX5_fewerInAllOrders 110 = .ok (.imul, 1) := by decide +kernel
theorem dX5_fewerInAllOrders_111 : decode cX5_fewerInAllOrders 111 = .ok (.iadd, 1) := by decide +kernel
theorem dX5_fewerInAllOrders_112 : decode cX5_fewerInAllOrders 112 = .ok (.istore_n 3, 1) := by decide +kernel
theorem dX5_fewerInAllOrders_113 : decode cX5_fewerInAllOrders 113 = .ok (.iinc 4 1, 3) := by decide +kernel
theorem dX5_fewerInAllOrders_116 : decode cX5_fewerInAllOrders 116 = .ok (.goto (-73), 3) := by decide +kernel
theorem dX5_fewerInAllOrders_119 : decode cX5_fewerInAllOrders 119 = .ok (.iload_n 3, 1) := by decide +kernel
theorem dX5_fewerInAllOrders_120 : decode cX5_fewerInAllOrders 120 = .ok (.ireturn, 1) := by decide +kernel
theorem dX5_chancesOfOne_0 : decode cX5_chancesOfOne 0 = .ok (.iconst 0, 1) := by decide +kernel
theorem dX5_chancesOfOne_1 : decode cX5_chancesOfOne 1 = .ok (.istore_n 2, 1) := by decide +kernel
theorem dX5_chancesOfOne_2 : decode cX5_chancesOfOne 2 = .ok (.iconst 0, 1) := by decide +kernel
theorem dX5_chancesOfOne_3 : decode cX5_chancesOfOne 3 = .ok (.istore_n 3, 1) := by decide +kernel
theorem dX5_chancesOfOne_4 : decode cX5_chancesOfOne 4 = .ok (.iload_n 3, 1) := by decide +kernel
theorem dX5_chancesOfOne_5 : decode cX5_chancesOfOne 5 = .ok (.iconst 1, 1) := by decide +kernel
theorem dX5_chancesOfOne_6 : decode cX5_chancesOfOne 6 = .ok (.aload_n 0, 1) := by decide +kernel
theorem dX5_chancesOfOne_7 : decode cX5_chancesOfOne 7 = .ok (.getfield 31, 3) := by decide +kernel
theorem dX5_chancesOfOne_10 : decode cX5_chancesOfOne 10 = .ok (.ishl, 1) := by decide +kernel
theorem dX5_chancesOfOne_11 : decode cX5_chancesOfOne 11 = .ok (.if_icmp .ge 49, 3) := by decide +kernel
theorem dX5_chancesOfOne_14 : decode cX5_chancesOfOne 14 = .ok (.aload_n 0, 1) := by decide +kernel
theorem dX5_chancesOfOne_15 : decode cX5_chancesOfOne 15 = .ok (.getfield 18, 3) := by decide +kernel
theorem dX5_chancesOfOne_18 : decode cX5_chancesOfOne 18 = .ok (.iload_n 3, 1) := by decide +kernel
theorem dX5_chancesOfOne_19 : decode cX5_chancesOfOne 19 = .ok (.iaload, 1) := by decide +kernel
theorem dX5_chancesOfOne_20 : decode cX5_chancesOfOne 20 = .ok (.iconst 1, 1) := by decide +kernel
theorem dX5_chancesOfOne_21 : decode cX5_chancesOfOne 21 = .ok (.if_icmp .ne 33, 3) := by decide +kernel
theorem dX5_chancesOfOne_24 : decode cX5_chancesOfOne 24 = .ok (.iload_n 3, 1) := by decide +kernel
theorem dX5_chancesOfOne_25 : decode cX5_chancesOfOne 25 = .ok (.invokestatic 70, 3) := by decide +kernel
theorem dX5_chancesOfOne_28 : decode cX5_chancesOfOne 28 = .ok (.istore 4, 2) := by decide +kernel
theorem dX5_chancesOfOne_30 : decode cX5_chancesOfOne 30 = .ok (.iload_n 2, 1) := by decide +kernel
theorem dX5_chancesOfOne_31 : decode cX5_chancesOfOne 31 = .ok (.bipush 10, 2) := by decide +kernel
theorem dX5_chancesOfOne_33 : decode cX5_chancesOfOne 33 = .ok (.iload_n 1, 1) := by decide +kernel
theorem dX5_chancesOfOne_34 : decode cX5_chancesOfOne 34 = .ok (.isub, 1) := by decide +kernel
theorem dX5_chancesOfOne_35 : decode cX5_chancesOfOne 35 = .ok (.iload 4, 2) := by decide +kernel
theorem dX5_chancesOfOne_37 : decode cX5_chancesOfOne 37 = .ok (.invokestatic 78, 3) := by decide +kernel
theorem dX5_chancesOfOne_40 : decode cX5_chancesOfOne 40 = .ok (.iload_n 1, 1) := by decide +kernel
theorem dX5_chancesOfOne_41 : decode cX5_chancesOfOne 41 = .ok (.aload_n 0, 1) := by decide +kernel
theorem dX5_chancesOfOne_42 : decode cX5_chancesOfOne 42 = .ok (.getfield 31, 3) := by decide +kernel
theorem dX5_chancesOfOne_45 : decode cX5_chancesOfOne 45 = .ok (.iload 4, 2) := by decide +kernel
theorem dX5_chancesOfOne_47 : decode cX5_chancesOfOne 47 = .ok (.isub, 1) := by decide +kernel
theorem dX5_chancesOfOne_48 : decode cX5_chancesOfOne 48 = .ok (.invokestatic 78, 3) := by decide +kernel
theorem dX5_chancesOfOne_51 : decode cX5_chancesOfOne 51 = .ok (.imul, 1) := by decide +kernel
theorem dX5_chancesOfOne_52 : decode cX5_chancesOfOne 52 = .ok (.iadd, 1) := by decide +kernel
theorem dX5_chancesOfOne_53 : decode cX5_chancesOfOne 53 = .ok (.istore_n 2, 1) := by decide +kernel
theorem dX5_chancesOfOne_54 : decode cX5_chancesOfOne 54 = .ok (.iinc 3 1, 3) := by decide +kernel
theorem dX5_chancesOfOne_57 : decode cX5_chancesOfOne 57 = .ok (.goto (-53), 3) := by decide +kernel
theorem dX5_chancesOfOne_60 : decode cX5_chancesOfOne 60 = .ok (.iload_n 2, 1) := by decide +kernel
theorem dX5_chancesOfOne_61 : decode cX5_chancesOfOne 61 = .ok (.ireturn, 1) := by decide +kernel
theorem dX6_become_0 : decode cX6_become 0 = .ok (.aload_n 0, 1) := by decide +kernel
theorem dX6_become_1 : decode cX6_become 1 = .ok (.aload_n 1, 1) := by decide +kernel
theorem dX6_become_2 : decode cX6_become 2 = .ok (.getfield 9, 3) := by decide +kernel
theorem dX6_become_5 : decode cX6_become 5 = .ok (.putfield 9, 3) := by decide +kernel
theorem dX6_become_8 : decode cX6_become 8 = .ok (.aload_n 0, 1) := by decide +kernel
theorem dX6_become_9 : decode cX6_become 9 = .ok (.aload_n 1, 1) := by decide +kernel
theorem dX6_become_10 : decode cX6_become 10 = .ok (.getfield 15, 3) := by decide +kernel
theorem dX6_become_13 : decode cX6_become 13 = .ok (.putfield 15, 3) := by decide +kernel
theorem dX6_become_16 : decode cX6_become 16 = .ok (.aload_n 1, 1) := by decide +kernel
theorem dX6_become_17 : decode cX6_become 17 = .ok (.getfield 18, 3) := by decide +kernel
theorem dX6_become_20 : decode cX6_become 20 = .ok (.iconst 0, 1) := by decide +kernel
theorem dX6_become_21 : decode cX6_become 21 = .ok (.aload_n 0, 1) := by decide +kernel
theorem dX6_become_22 : decode cX6_become 22 = .ok (.getfield 18, 3) := by decide +kernel
theorem dX6_become_25 : decode cX6_become 25 = .ok (.iconst 0, 1) := by decide +kernel
theorem dX6_become_26 : decode cX6_become 26 = .ok (.iconst 4, 1) := by decide +kernel
theorem dX6_become_27 : decode cX6_become 27 = .ok (.invokestatic 25, 3) := by decide +kernel
theorem dX6_become_30 : decode cX6_become 30 = .ok (.aload_n 1, 1) := by decide +kernel
theorem dX6_become_31 : decode cX6_become 31 = .ok (.getfield 22, 3) := by decide +kernel
theorem dX6_become_34 : decode cX6_become 34 = .ok (.iconst 0, 1) := by decide +kernel
theorem dX6_become_35 : decode cX6_become 35 = .ok (.aload_n 0, 1) := by decide +kernel
theorem dX6_become_36 : decode cX6_become 36 = .ok (.getfield 22, 3) := by decide +kernel
theorem dX6_become_39 : decode cX6_become 39 = .ok (.iconst 0, 1) := by decide +kernel
theorem dX6_become_40 : decode cX6_become 40 = .ok (.iconst 5, 1) := by decide +kernel
theorem dX6_become_41 : decode cX6_become 41 = .ok (.invokestatic 25, 3) := by decide +kernel
theorem dX6_become_44 : decode cX6_become 44 = .ok (.aload_n 0, 1) := by decide +kernel
theorem dX6_become_45 : decode cX6_become 45 = .ok (.aload_n 1, 1) := by decide +kernel
theorem dX6_become_46 : decode cX6_become 46 = .ok (.getfield 31, 3) := by decide +kernel
theorem dX6_become_49 : decode cX6_become 49 = .ok (.putfield 31, 3) := by decide +kernel
theorem dX6_become_52 : decode cX6_become 52 = .ok (.aload_n 0, 1) := by decide +kernel
theorem dX6_become_53 : decode cX6_become 53 = .ok (.aload_n 1, 1) := by decide +kernel
theorem dX6_become_54 : decode cX6_become 54 = .ok (.getfield 34, 3) := by decide +kernel
theorem dX6_become_57 : decode cX6_become 57 = .ok (.putfield 34, 3) := by decide +kernel
theorem dX6_become_60 : decode cX6_become 60 = .ok (.aload_n 0, 1) := by decide +kernel
theorem dX6_become_61 : decode cX6_become 61 = .ok (.aload_n 1, 1) := by decide +kernel
theorem dX6_become_62 : decode cX6_become 62 = .ok (.getfield 37, 3) := by decide +kernel
theorem dX6_become_65 : decode cX6_become 65 = .ok (.putfield 37, 3) := by decide +kernel
theorem dX6_become_68 : decode cX6_become 68 = .ok (.return_, 1) := by decide +kernel
theorem dX6_cells_0 : decode cX6_cells 0 = .ok (.aload_n 0, 1) := by decide +kernel
theorem dX6_cells_1 : decode cX6_cells 1 = .ok (.getfield 9, 3) := by decide +kernel
theorem dX6_cells_4 : decode cX6_cells 4 = .ok (.aload_n 0, 1) := by decide +kernel
theorem dX6_cells_5 : decode cX6_cells 5 = .ok (.getfield 15, 3) := by decide +kernel
theorem dX6_cells_8 : decode cX6_cells 8 = .ok (.imul, 1) := by decide +kernel
theorem dX6_cells_9 : decode cX6_cells 9 = .ok (.ireturn, 1) := by decide +kernel
theorem dX6_hasRow_0 : decode cX6_hasRow 0 = .ok (.iload_n 1, 1) := by decide +kernel
theorem dX6_hasRow_1 : decode cX6_hasRow 1 = .ok (.ifCond .lt 15, 3) := by decide +kernel
theorem dX6_hasRow_4 : decode cX6_hasRow 4 = .ok (.iload_n 1, 1) := by decide +kernel
theorem dX6_hasRow_5 : decode cX6_hasRow 5 = .ok (.aload_n 0, 1) := by decide +kernel
theorem dX6_hasRow_6 : decode cX6_hasRow 6 = .ok (.getfield 9, 3) := by decide +kernel
theorem dX6_hasRow_9 : decode cX6_hasRow 9 = .ok (.if_icmp .ge 7, 3) := by decide +kernel
theorem dX6_hasRow_12 : decode cX6_hasRow 12 = .ok (.iconst 1, 1) := by decide +kernel
theorem dX6_hasRow_13 : decode cX6_hasRow 13 = .ok (.goto 4, 3) := by decide +kernel
theorem dX6_hasRow_16 : decode cX6_hasRow 16 = .ok (.iconst 0, 1) := by decide +kernel
theorem dX6_hasRow_17 : decode cX6_hasRow 17 = .ok (.ireturn, 1) := by decide +kernel
theorem dX6_hasColumn_0 : decode cX6_hasColumn 0 = .ok (.iload_n 1, 1) := by decide +kernel
theorem dX6_hasColumn_1 : decode cX6_hasColumn 1 = .ok (.ifCond .lt 15, 3) := by decide +kernel
theorem dX6_hasColumn_4 : decode cX6_hasColumn 4 = .ok (.iload_n 1, 1) := by decide +kernel
theorem dX6_hasColumn_5 : decode cX6_hasColumn 5 = .ok (.aload_n 0, 1) := by decide +kernel
theorem dX6_hasColumn_6 : decode cX6_hasColumn 6 = .ok (.getfield 15, 3) := by decide +kernel
theorem dX6_hasColumn_9 : decode cX6_hasColumn 9 = .ok (.if_icmp .ge 7, 3) := by decide +kernel
theorem dX6_hasColumn_12 : decode cX6_hasColumn 12 = .ok (.iconst 1, 1) := by decide +kernel
theorem dX6_hasColumn_13 : decode cX6_hasColumn 13 = .ok (.goto 4, 3) := by decide +kernel
theorem dX6_hasColumn_16 : decode cX6_hasColumn 16 = .ok (.iconst 0, 1) := by decide +kernel
theorem dX6_hasColumn_17 : decode cX6_hasColumn 17 = .ok (.ireturn, 1) := by decide +kernel
theorem dX6_hasCell_0 : decode cX6_hasCell 0 = .ok (.iload_n 1, 1) := by decide +kernel
theorem dX6_hasCell_1 : decode cX6_hasCell 1 = .ok (.ifCond .lt 15, 3) := by decide +kernel
theorem dX6_hasCell_4 : decode cX6_hasCell 4 = .ok (.iload_n 1, 1) := by decide +kernel
theorem dX6_hasCell_5 : decode cX6_hasCell 5 = .ok (.aload_n 0, 1) := by decide +kernel
theorem dX6_hasCell_6 : decode cX6_hasCell 6 = .ok (.invokevirtual 40, 3) := by decide +kernel
theorem dX6_hasCell_9 : decode cX6_hasCell 9 = .ok (.if_icmp .ge 7, 3) := by decide +kernel
theorem dX6_hasCell_12 : decode cX6_hasCell 12 = .ok (.iconst 1, 1) := by decide +kernel
theorem dX6_hasCell_13 : decode cX6_hasCell 13 = .ok (.goto 4, 3) := by decide +kernel
theorem dX6_hasCell_16 : decode cX6_hasCell 16 = .ok (.iconst 0, 1) := by decide +kernel
theorem dX6_hasCell_17 : decode cX6_hasCell 17 = .ok (.ireturn, 1) := by decide +kernel
theorem dX6_totalCount_0 : decode cX6_totalCount 0 = .ok (.iload_n 1, 1) := by decide +kernel
theorem dX6_totalCount_1 : decode cX6_totalCount 1 = .ok (.ifCond .ne 10, 3) := by decide +kernel
theorem dX6_totalCount_4 : decode cX6_totalCount 4 = .ok (.aload_n 0, 1) := by decide +kernel
theorem dX6_totalCount_5 : decode cX6_totalCount 5 = .ok (.getfield 9, 3) := by decide +kernel
theorem dX6_totalCount_8 : decode cX6_totalCount 8 = .ok (.goto 7, 3) := by decide +kernel
theorem dX6_totalCount_11 : decode cX6_totalCount 11 = .ok (.aload_n 0, 1) := by decide +kernel
theorem dX6_totalCount_12 : decode cX6_totalCount 12 = .ok (.getfield 15, 3) := by decide +kernel
theorem dX6_totalCount_15 : decode cX6_totalCount 15 = .ok (.ireturn, 1) := by decide +kernel
theorem dX6_hasTotal_0 : decode cX6_hasTotal 0 = .ok (.iload_n 2, 1) := by decide +kernel
theorem dX6_hasTotal_1 : decode cX6_hasTotal 1 = .ok (.ifCond .lt 16, 3) := by decide +kernel
theorem dX6_hasTotal_4 : decode cX6_hasTotal 4 = .ok (.iload_n 2, 1) := by decide +kernel
theorem dX6_hasTotal_5 : decode cX6_hasTotal 5 = .ok (.aload_n 0, 1) := by decide +kernel
theorem dX6_hasTotal_6 : decode cX6_hasTotal 6 = .ok (.iload_n 1, 1) := by decide +kernel
theorem dX6_hasTotal_7 : decode cX6_hasTotal 7 = .ok (.invokevirtual 44, 3) := by decide +kernel
theorem dX6_hasTotal_10 : decode cX6_hasTotal 10 = .ok (.if_icmp .ge 7, 3) := by decide +kernel
theorem dX6_hasTotal_13 : decode cX6_hasTotal 13 = .ok (.iconst 1, 1) := by decide +kernel
theorem dX6_hasTotal_14 : decode cX6_hasTotal 14 = .ok (.goto 4, 3) := by decide +kernel
theorem dX6_hasTotal_17 : decode cX6_hasTotal 17 = .ok (.iconst 0, 1) := by decide +kernel
theorem dX6_hasTotal_18 : decode cX6_hasTotal 18 = .ok (.ireturn, 1) := by decide +kernel
theorem dX6_mostTotal_0 : decode cX6_mostTotal 0 = .ok (.iload_n 1, 1) := by decide +kernel
theorem dX6_mostTotal_1 : decode cX6_mostTotal 1 = .ok (.ifCond .ne 10, 3) := by decide +kernel
theorem dX6_mostTotal_4 : decode cX6_mostTotal 4 = .ok (.aload_n 0, 1) := by decide +kernel
theorem dX6_mostTotal_5 : decode cX6_mostTotal 5 = .ok (.getfield 15, 3) := by decide +kernel
theorem dX6_mostTotal_8 : decode cX6_mostTotal 8 = .ok (.goto 7, 3) := by decide +kernel
theorem dX6_mostTotal_11 : decode cX6_mostTotal 11 = .ok (.aload_n 0, 1) := by decide +kernel
theorem dX6_mostTotal_12 : decode cX6_mostTotal 12 = .ok (.getfield 9, 3) := by decide +kernel
theorem dX6_mostTotal_15 : decode cX6_mostTotal 15 = .ok (.ireturn, 1) := by decide +kernel
theorem dX6_totalOf_0 : decode cX6_totalOf 0 = .ok (.iload_n 1, 1) := by decide +kernel
theorem dX6_totalOf_1 : decode cX6_totalOf 1 = .ok (.ifCond .ne 10, 3) := by decide +kernel
theorem dX6_totalOf_4 : decode cX6_totalOf 4 = .ok (.aload_n 0, 1) := by decide +kernel
theorem dX6_totalOf_5 : decode cX6_totalOf 5 = .ok (.getfield 18, 3) := by decide +kernel
theorem dX6_totalOf_8 : decode cX6_totalOf 8 = .ok (.goto 7, 3) := by decide +kernel
theorem dX6_totalOf_11 : decode cX6_totalOf 11 = .ok (.aload_n 0, 1) := by decide +kernel
theorem dX6_totalOf_12 : decode cX6_totalOf 12 = .ok (.getfield 22, 3) := by decide +kernel
theorem dX6_totalOf_15 : decode cX6_totalOf 15 = .ok (.astore_n 3, 1) := by decide +kernel
theorem dX6_totalOf_16 : decode cX6_totalOf 16 = .ok (.iload_n 2, 1) := by decide +kernel
theorem dX6_totalOf_17 : decode cX6_totalOf 17 = .ok (.ifCond .lt 15, 3) := by decide +kernel
theorem dX6_totalOf_20 : decode cX6_totalOf 20 = .ok (.iload_n 2, 1) := by decide +kernel
theorem dX6_totalOf_21 : decode cX6_totalOf 21 = .ok (.aload_n 3, 1) := by decide +kernel
theorem dX6_totalOf_22 : decode cX6_totalOf 22 = .ok (.arraylength, 1) := by decide +kernel
theorem dX6_totalOf_23 : decode cX6_totalOf 23 = .ok (.if_icmp .ge 9, 3) := by decide +kernel
theorem dX6_totalOf_26 : decode cX6_totalOf 26 = .ok (.aload_n 3, 1) := by decide +kernel
theorem dX6_totalOf_27 : decode cX6_totalOf 27 = .ok (.iload_n 2, 1) := by decide +kernel
theorem dX6_totalOf_28 : decode cX6_totalOf 28 = .ok (.iaload, 1) := by decide +kernel
theorem dX6_totalOf_29 : decode cX6_totalOf 29 = .ok (.goto 4, 3) := by decide +kernel
theorem dX6_totalOf_32 : decode cX6_totalOf 32 = .ok (.iconst 0, 1) := by decide +kernel
theorem dX6_totalOf_33 : decode cX6_totalOf 33 = .ok (.ireturn, 1) := by decide +kernel
theorem dX6_putTotal_0 : decode cX6_putTotal 0 = .ok (.iload_n 1, 1) := by decide +kernel
theorem dX6_putTotal_1 : decode cX6_putTotal 1 = .ok (.ifCond .ne 10, 3) := by decide +kernel
theorem dX6_putTotal_4 : decode cX6_putTotal 4 = .ok (.aload_n 0, 1) := by decide +kernel
theorem dX6_putTotal_5 : decode cX6_putTotal 5 = .ok (.getfield 18, 3) := by decide +kernel
theorem dX6_putTotal_8 : decode cX6_putTotal 8 = .ok (.goto 7, 3) := by decide +kernel
theorem dX6_putTotal_11 : decode cX6_putTotal 11 = .ok (.aload_n 0, 1) := by decide +kernel
theorem dX6_putTotal_12 : decode cX6_putTotal 12 = .ok (.getfield 22, 3) := by decide +kernel
theorem dX6_putTotal_15 : decode cX6_putTotal 15 = .ok (.astore 4, 2) := by decide +kernel
theorem dX6_putTotal_17 : decode cX6_putTotal 17 = .ok (.iload_n 2, 1) := by decide +kernel
theorem dX6_putTotal_18 : decode cX6_putTotal 18 = .ok (.ifCond .lt 15, 3) := by decide +kernel
theorem dX6_putTotal_21 : decode cX6_putTotal 21 = .ok (.iload_n 2, 1) := by decide +kernel
theorem dX6_putTotal_22 : decode cX6_putTotal 22 = .ok (.aload 4, 2) := by decide +kernel
theorem dX6_putTotal_24 : decode cX6_putTotal 24 = .ok (.arraylength, 1) := by decide +kernel
theorem dX6_putTotal_25 : decode cX6_putTotal 25 = .ok (.if_icmp .ge 8, 3) := by decide +kernel
theorem dX6_putTotal_28 : decode cX6_putTotal 28 = .ok (.aload 4, 2) := by decide +kernel
theorem dX6_putTotal_30 : decode cX6_putTotal 30 = .ok (.iload_n 2, 1) := by decide +kernel
theorem dX6_putTotal_31 : decode cX6_putTotal 31 = .ok (.iload_n 3, 1) := by decide +kernel
theorem dX6_putTotal_32 : decode cX6_putTotal 32 = .ok (.iastore, 1) := by decide +kernel
theorem dX6_putTotal_33 : decode cX6_putTotal 33 = .ok (.return_, 1) := by decide +kernel
theorem dX6_together_0 : decode cX6_together 0 = .ok (.iconst 0, 1) := by decide +kernel
theorem dX6_together_1 : decode cX6_together 1 = .ok (.istore_n 2, 1) := by decide +kernel
theorem dX6_together_2 : decode cX6_together 2 = .ok (.iconst 0, 1) := by decide +kernel
theorem dX6_together_3 : decode cX6_together 3 = .ok (.istore_n 3, 1) := by decide +kernel
theorem dX6_together_4 : decode cX6_together 4 = .ok (.iload_n 3, 1) := by decide +kernel
theorem dX6_together_5 : decode cX6_together 5 = .ok (.aload_n 0, 1) := by decide +kernel
theorem dX6_together_6 : decode cX6_together 6 = .ok (.iload_n 1, 1) := by decide +kernel
theorem dX6_together_7 : decode cX6_together 7 = .ok (.invokevirtual 44, 3) := by decide +kernel
theorem dX6_together_10 : decode cX6_together 10 = .ok (.if_icmp .ge 18, 3) := by decide +kernel
theorem dX6_together_13 : decode cX6_together 13 = .ok (.iload_n 2, 1) := by decide +kernel
theorem dX6_together_14 : decode cX6_together 14 = .ok (.aload_n 0, 1) := by decide +kernel
theorem dX6_together_15 : decode cX6_together 15 = .ok (.iload_n 1, 1) := by decide +kernel
theorem dX6_together_16 : decode cX6_together 16 = .ok (.iload_n 3, 1) := by decide +kernel
theorem dX6_together_17 : decode cX6_together 17 = .ok (.invokevirtual 48, 3) := by decide +kernel
theorem dX6_together_20 : decode cX6_together 20 = .ok (.iadd, 1) := by decide +kernel
theorem dX6_together_21 : decode cX6_together 21 = .ok (.istore_n 2, 1) := by decide +kernel
theorem dX6_together_22 : decode cX6_together 22 = .ok (.iinc 3 1, 3) := by decide +kernel
theorem dX6_together_25 : decode cX6_together 25 = .ok (.goto (-21), 3) := by decide +kernel
theorem dX6_together_28 : decode cX6_together 28 = .ok (.iload_n 2, 1) := by decide +kernel
theorem dX6_together_29 : decode cX6_together 29 = .ok (.ireturn, 1) := by decide +kernel
theorem dX6_totalsAsNumber_0 : decode cX6_totalsAsNumber 0 = .ok (.ldc2_w 52, 3) := by decide +kernel
theorem dX6_totalsAsNumber_3 : decode cX6_totalsAsNumber 3 = .ok (.aload_n 0, 1) := by decide +kernel
theorem dX6_totalsAsNumber_4 : decode cX6_totalsAsNumber 4 = .ok (.getfield 9, 3) := by decide +kernel
theorem dX6_totalsAsNumber_7 : decode cX6_totalsAsNumber 7 = .ok (.i2l, 1) := by decide +kernel
theorem dX6_totalsAsNumber_8 : decode cX6_totalsAsNumber 8 = .ok (.lmul, 1) := by decide +kernel
theorem dX6_totalsAsNumber_9 : decode cX6_totalsAsNumber 9 = .ok (.aload_n 0, 1) := by decide +kernel
theorem dX6_totalsAsNumber_10 : decode cX6_totalsAsNumber 10 = .ok (.getfield 15, 3) := by decide +kernel
theorem dX6_totalsAsNumber_13 : decode cX6_totalsAsNumber 13 = .ok (.i2l, 1) := by decide +kernel
theorem dX6_totalsAsNumber_14 : decode cX6_totalsAsNumber 14 = .ok (.ladd, 1) := by decide +kernel
theorem dX6_totalsAsNumber_15 : decode cX6_totalsAsNumber 15 = .ok (.lstore_n 1, 1) := by decide +kernel
theorem dX6_totalsAsNumber_16 : decode cX6_totalsAsNumber 16 = .ok (.iconst 0, 1) := by decide +kernel
theorem dX6_totalsAsNumber_17 : decode cX6_totalsAsNumber 17 = .ok (.istore_n 3, 1) := by decide +kernel
theorem dX6_totalsAsNumber_18 : decode cX6_totalsAsNumber 18 = .ok (.iload_n 3, 1) := by decide +kernel
theorem dX6_totalsAsNumber_19 : decode cX6_totalsAsNumber 19 = .ok (.iconst 1, 1) := by decide +kernel
theorem dX6_totalsAsNumber_20 : decode cX6_totalsAsNumber 20 = .ok (.if_icmp .gt 43, 3) := by decide +kernel
theorem dX6_totalsAsNumber_23 : decode cX6_totalsAsNumber 23 = .ok (.iconst 0, 1) := by decide +kernel
theorem dX6_totalsAsNumber_24 : decode cX6_totalsAsNumber 24 = .ok (.istore 4, 2) := by decide +kernel
theorem dX6_totalsAsNumber_26 : decode cX6_totalsAsNumber 26 = .ok (.iload 4, 2) := by decide +kernel
theorem dX6_totalsAsNumber_28 : decode cX6_totalsAsNumber 28 = .ok (.aload_n 0, 1) := by decide +kernel
theorem dX6_totalsAsNumber_29 : decode cX6_totalsAsNumber 29 = .ok (.iload_n 3, 1) := by decide +kernel
theorem dX6_totalsAsNumber_30 : decode cX6_totalsAsNumber 30 = .ok (.invokevirtual 44, 3) := by decide +kernel
theorem dX6_totalsAsNumber_33 : decode cX6_totalsAsNumber 33 = .ok (.if_icmp .ge 24, 3) := by decide +kernel
theorem dX6_totalsAsNumber_36 : decode cX6_totalsAsNumber 36 = .ok (.ldc2_w 52, 3) := by decide +kernel
theorem dX6_totalsAsNumber_39 : decode cX6_totalsAsNumber 39 = .ok (.lload_n 1, 1) := by decide +kernel
theorem dX6_totalsAsNumber_40 : decode cX6_totalsAsNumber 40 = .ok (.lmul, 1) := by decide +kernel
theorem dX6_totalsAsNumber_41 : decode cX6_totalsAsNumber 41 = .ok (.aload_n 0, 1) := by decide +kernel
theorem dX6_totalsAsNumber_42 : decode cX6_totalsAsNumber 42 = .ok (.iload_n 3, 1) := by decide +kernel
theorem dX6_totalsAsNumber_43 : decode cX6_totalsAsNumber 43 = .ok (.iload 4, 2) := by decide +kernel
theorem dX6_totalsAsNumber_45 : decode cX6_totalsAsNumber 45 = .ok (.invokevirtual 48, 3) := by decide +kernel
theorem dX6_totalsAsNumber_48 : decode cX6_totalsAsNumber 48 = .ok (.i2l, 1) := by decide +kernel
theorem dX6_totalsAsNumber_49 : decode cX6_totalsAsNumber 49 = .ok (.ladd, 1) := by decide +kernel
theorem dX6_totalsAsNumber_50 : decode cX6_totalsAsNumber 50 = .ok (.lstore_n 1, 1) := by decide +kernel
theorem dX6_totalsAsNumber_51 : decode cX6_totalsAsNumber 51 = .ok (.iinc 4 1, 3) := by decide +kernel
theorem dX6_totalsAsNumber_54 : decode cX6_totalsAsNumber 54 = .ok (.goto (-28), 3) := by decide +kernel
theorem dX6_totalsAsNumber_57 : decode cX6_totalsAsNumber 57 = .ok (.iinc 3 1, 3) := by decide +kernel
theorem dX6_totalsAsNumber_60 : decode cX6_totalsAsNumber 60 = .ok (.goto (-42), 3) := by decide +kernel
theorem dX6_totalsAsNumber_63 : decode cX6_totalsAsNumber 63 = .ok (.lload_n 1, 1) := by decide +kernel
theorem dX6_totalsAsNumber_64 : decode cX6_totalsAsNumber 64 = .ok (.lreturn, 1) := by decide +kernel
theorem dX6_pinOf_0 : decode cX6_pinOf 0 = .ok (.aload_n 0, 1) := by decide +kernel
theorem dX6_pinOf_1 : decode cX6_pinOf 1 = .ok (.getfield 31, 3) := by decide +kernel
theorem dX6_pinOf_4 : decode cX6_pinOf 4 = .ok (.iload_n 1, 1) := by decide +kernel
theorem dX6_pinOf_5 : decode cX6_pinOf 5 = .ok (.invokestatic 54, 3) := by decide +kernel
theorem dX6_pinOf_8 : decode cX6_pinOf 8 = .ok (.iand, 1) := by decide +kernel
theorem dX6_pinOf_9 : decode cX6_pinOf 9 = .ok (.ifCond .ne 5, 3) := by decide +kernel
theorem dX6_pinOf_12 : decode cX6_pinOf 12 = .ok (.iconst 0, 1) := by decide +kernel
theorem dX6_pinOf_13 : decode cX6_pinOf 13 = .ok (.ireturn, 1) := by decide +kernel
theorem dX6_pinOf_14 : decode cX6_pinOf 14 = .ok (.aload_n 0, 1) := by decide +kernel
theorem dX6_pinOf_15 : decode cX6_pinOf 15 = .ok (.getfield 34, 3) := by decide +kernel
theorem dX6_pinOf_18 : decode cX6_pinOf 18 = .ok (.iload_n 1, 1) := by decide +kernel
theorem dX6_pinOf_19 : decode cX6_pinOf 19 = .ok (.invokestatic 54, 3) := by decide +kernel
theorem dX6_pinOf_22 : decode cX6_pinOf 22 = .ok (.iand, 1) := by decide +kernel
theorem dX6_pinOf_23 : decode cX6_pinOf 23 = .ok (.ifCond .eq 7, 3) := by decide +kernel
theorem dX6_pinOf_26 : decode cX6_pinOf 26 = .ok (.iconst 1, 1) := by decide +kernel
theorem dX6_pinOf_27 : decode cX6_pinOf 27 = .ok (.goto 4, 3) := by decide +kernel
theorem dX6_pinOf_30 : decode cX6_pinOf 30 = .ok (.iconst 2, 1) := by decide +kernel
theorem dX6_pinOf_31 : decode cX6_pinOf 31 = .ok (.ireturn, 1) := by decide +kernel
theorem dX6_putPin_0 : decode cX6_putPin 0 = .ok (.iload_n 1, 1) := by decide +kernel
theorem dX6_putPin_1 : decode cX6_putPin 1 = .ok (.invokestatic 54, 3) := by decide +kernel
theorem dX6_putPin_4 : decode cX6_putPin 4 = .ok (.istore_n 3, 1) := by decide +kernel
theorem dX6_putPin_5 : decode cX6_putPin 5 = .ok (.aload_n 0, 1) := by decide +kernel
theorem dX6_putPin_6 : decode cX6_putPin 6 = .ok (.iload_n 2, 1) := by decide +kernel
theorem dX6_putPin_7 : decode cX6_putPin 7 = .ok (.ifCond .ne 14, 3) := by decide +kernel
theorem dX6_putPin_10 : decode cX6_putPin 10 = .ok (.aload_n 0, 1) := by decide +kernel
theorem dX6_putPin_11 : decode cX6_putPin 11 = .ok (.getfield 31, 3) := by decide +kernel
theorem dX6_putPin_14 : decode cX6_putPin 14 = .ok (.iload_n 3, 1) := by decide +kernel
theorem dX6_putPin_15 : decode cX6_putPin 15 = .ok (.iconst (-1), 1) := by decide +kernel
theorem dX6_putPin_16 : decode cX6_putPin 16 = .ok (.ixor, 1) := by decide +kernel
theorem dX6_putPin_17 : decode cX6_putPin 17 = .ok (.iand, 1) := by decide +kernel
theorem dX6_putPin_18 : decode cX6_putPin 18 = .ok (.goto 9, 3) := by decide +kernel
theorem dX6_putPin_21 : decode cX6_putPin 21 = .ok (.aload_n 0, 1) := by decide +kernel
theorem dX6_putPin_22 : decode cX6_putPin 22 = .ok (.getfield 31, 3) := by decide +kernel
theorem dX6_putPin_25 : decode cX6_putPin 25 = .ok (.iload_n 3, 1) := by decide +kernel
theorem dX6_putPin_26 : decode cX6_putPin 26 = .ok (.ior, 1) := by decide +kernel
theorem dX6_putPin_27 : decode cX6_putPin 27 = .ok (.putfield 31, 3) := by decide +kernel
theorem dX6_putPin_30 : decode cX6_putPin 30 = .ok (.aload_n 0, 1) := by decide +kernel
theorem dX6_putPin_31 : decode cX6_putPin 31 = .ok (.iload_n 2, 1) := by decide +kernel
theorem dX6_putPin_32 : decode cX6_putPin 32 = .ok (.iconst 1, 1) := by decide +kernel
theorem dX6_putPin_33 : decode cX6_putPin 33 = .ok (.if_icmp .ne 12, 3) := by decide +kernel
theorem dX6_putPin_36 : decode cX6_putPin 36 = .ok (.aload_n 0, 1) := by decide +kernel
theorem dX6_putPin_37 : decode cX6_putPin 37 = .ok (.getfield 34, 3) := by decide +kernel
theorem dX6_putPin_40 : decode cX6_putPin 40 = .ok (.iload_n 3, 1) := by decide +kernel
theorem dX6_putPin_41 : decode cX6_putPin 41 = .ok (.ior, 1) := by decide +kernel
theorem dX6_putPin_42 : decode cX6_putPin 42 = .ok (.goto 11, 3) := by decide +kernel
theorem dX6_putPin_45 : decode cX6_putPin 45 = .ok (.aload_n 0, 1) := by decide +kernel
theorem dX6_putPin_46 : decode cX6_putPin 46 = .ok (.getfield 34, 3) := by decide +kernel
theorem dX6_putPin_49 : decode cX6_putPin 49 = .ok (.iload_n 3, 1) := by decide +kernel
theorem dX6_putPin_50 : decode cX6_putPin 50 = .ok (.iconst (-1), 1) := by decide +kernel
theorem dX6_putPin_51 : decode cX6_putPin 51 = .ok (.ixor, 1) := by decide +kernel
theorem dX6_putPin_52 : decode cX6_putPin 52 = .ok (.iand, 1) := by decide +kernel
theorem dX6_putPin_53 : decode cX6_putPin 53 = .ok (.putfield 34, 3) := by decide +kernel
theorem dX6_putPin_56 : decode cX6_putPin 56 = .ok (.return_, 1) := by decide +kernel
theorem dX6_pinCount_0 : decode cX6_pinCount 0 = .ok (.aload_n 0, 1) := by decide +kernel
theorem dX6_pinCount_1 : decode cX6_pinCount 1 = .ok (.getfield 31, 3) := by decide +kernel
theorem dX6_pinCount_4 : decode cX6_pinCount 4 = .ok (.invokestatic 57, 3) := by decide +kernel
theorem dX6_pinCount_7 : decode cX6_pinCount 7 = .ok (.ireturn, 1) := by decide +kernel
theorem dX6_bitAt_0 : decode cX6_bitAt 0 = .ok (.aload_n 0, 1) := by decide +kernel
theorem dX6_bitAt_1 : decode cX6_bitAt 1 = .ok (.getfield 15, 3) := by decide +kernel
theorem dX6_bitAt_4 : decode cX6_bitAt 4 = .ok (.iload_n 1, 1) := by decide +kernel
theorem dX6_bitAt_5 : decode cX6_bitAt 5 = .ok (.imul, 1) := by decide +kernel
theorem dX6_bitAt_6 : decode cX6_bitAt 6 = .ok (.iload_n 2, 1) := by decide +kernel
theorem dX6_bitAt_7 : decode cX6_bitAt 7 = .ok (.iadd, 1) := by decide +kernel
theorem dX6_bitAt_8 : decode cX6_bitAt 8 = .ok (.invokestatic 54, 3) := by decide +kernel
theorem dX6_bitAt_11 : decode cX6_bitAt 11 = .ok (.ireturn, 1) := by decide +kernel
theorem dX6_placed_0 : decode cX6_placed 0 = .ok (.iload_n 1, 1) := by decide +kernel
theorem dX6_placed_1 : decode cX6_placed 1 = .ok (.bipush 15, 2) := by decide +kernel
theorem dX6_placed_3 : decode cX6_placed 3 = .ok (.aload_n 0, 1) := by decide +kernel
theorem dX6_placed_4 : decode cX6_placed 4 = .ok (.getfield 15, 3) := by decide +kernel
theorem dX6_placed_7 : decode cX6_placed 7 = .ok (.iload_n 2, 1) := by decide +kernel
theorem dX6_placed_8 : decode cX6_placed 8 = .ok (.imul, 1) := by decide +kernel
theorem dX6_placed_9 : decode cX6_placed 9 = .ok (.isub, 1) := by decide +kernel
theorem dX6_placed_10 : decode cX6_placed 10 = .ok (.ishl, 1) := by decide +kernel
theorem dX6_placed_11 : decode cX6_placed 11 = .ok (.ireturn, 1) := by decide +kernel
theorem dX6_columnsOf_0 : decode cX6_columnsOf 0 = .ok (.iload_n 1, 1) := by decide +kernel
theorem dX6_columnsOf_1 : decode cX6_columnsOf 1 = .ok (.bipush 15, 2) := by decide +kernel
theorem dX6_columnsOf_3 : decode cX6_columnsOf 3 = .ok (.aload_n 0, 1) := by decide +kernel
theorem dX6_columnsOf_4 : decode cX6_columnsOf 4 = .ok (.getfield 15, 3) := by decide +kernel
theorem dX6_columnsOf_7 : decode cX6_columnsOf 7 = .ok (.iload_n 2, 1) := by decide +kernel
theorem dX6_columnsOf_8 : decode cX6_columnsOf 8 = .ok (.imul, 1) := by decide +kernel
theorem dX6_columnsOf_9 : decode cX6_columnsOf 9 = .ok (.isub, 1) := by decide +kernel
theorem dX6_columnsOf_10 : decode cX6_columnsOf 10 = .ok (.iushr, 1) := by decide +kernel
theorem dX6_columnsOf_11 : decode cX6_columnsOf 11 = .ok (.istore_n 3, 1) := by decide +kernel
theorem dX6_columnsOf_12 : decode cX6_columnsOf 12 = .ok (.iconst (-1), 1) := by decide +kernel
theorem dX6_columnsOf_13 : decode cX6_columnsOf 13 = .ok (.iconst 5, 1) := by decide +kernel
theorem dX6_columnsOf_14 : decode cX6_columnsOf 14 = .ok (.aload_n 0, 1) := by decide +kernel
theorem dX6_columnsOf_15 : decode cX6_columnsOf 15 = .ok (.getfield 15, 3) := by decide +kernel
theorem dX6_columnsOf_18 : decode cX6_columnsOf 18 = .ok (.isub, 1) := by decide +kernel
theorem dX6_columnsOf_19 : decode cX6_columnsOf 19 = .ok (.ishl, 1) := by decide +kernel
theorem dX6_columnsOf_20 : decode cX6_columnsOf 20 = .ok (.istore 4, 2) := by decide +kernel
theorem dX6_columnsOf_22 : decode cX6_columnsOf 22 = .ok (.iload_n 3, 1) := by decide +kernel
theorem dX6_columnsOf_23 : decode cX6_columnsOf 23 = .ok (.iload 4, 2) := by decide +kernel
theorem dX6_columnsOf_25 : decode cX6_columnsOf 25 = .ok (.iand, 1) := by decide +kernel
theorem dX6_columnsOf_26 : decode cX6_columnsOf 26 = .ok (.bipush 31, 2) := by decide +kernel
theorem dX6_columnsOf_28 : decode cX6_columnsOf 28 = .ok (.iand, 1) := by decide +kernel
theorem dX6_columnsOf_29 : decode cX6_columnsOf 29 = .ok (.ireturn, 1) := by decide +kernel
theorem dX6_giving_0 : decode cX6_giving 0 = .ok (.aload_n 0, 1) := by decide +kernel
theorem dX6_giving_1 : decode cX6_giving 1 = .ok (.aload_n 0, 1) := by decide +kernel
theorem dX6_giving_2 : decode cX6_giving 2 = .ok (.getfield 31, 3) := by decide +kernel
theorem dX6_giving_5 : decode cX6_giving 5 = .ok (.iload_n 2, 1) := by decide +kernel
theorem dX6_giving_6 : decode cX6_giving 6 = .ok (.invokevirtual 62, 3) := by decide +kernel
theorem dX6_giving_9 : decode cX6_giving 9 = .ok (.aload_n 0, 1) := by decide +kernel
theorem dX6_giving_10 : decode cX6_giving 10 = .ok (.aload_n 0, 1) := by decide +kernel
theorem dX6_giving_11 : decode cX6_giving 11 = .ok (.getfield 31, 3) := by decide +kernel
theorem dX6_giving_14 : decode cX6_giving 14 = .ok (.iload_n 3, 1) := by decide +kernel
theorem dX6_giving_15 : decode cX6_giving 15 = .ok (.invokevirtual 62, 3) := by decide +kernel
theorem dX6_giving_18 : decode cX6_giving 18 = .ok (.ior, 1) := by decide +kernel
theorem dX6_giving_19 : decode cX6_giving 19 = .ok (.istore 4, 2) := by decide +kernel
theorem dX6_giving_21 : decode cX6_giving 21 = .ok (.aload_n 0, 1) := by decide +kernel
theorem dX6_giving_22 : decode cX6_giving 22 = .ok (.iload_n 1, 1) := by decide +kernel
