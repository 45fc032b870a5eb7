theorem dX6_giving_23 : decode cX6_giving 23 = .ok (.iload_n 2, 1) := by decide +kernel
theorem dX6_giving_24 : decode cX6_giving 24 = .ok (.invokevirtual 62, 3) := by decide +kernel
theorem dX6_giving_27 : decode cX6_giving 27 = .ok (.aload_n 0, 1) := by decide +kernel
theorem dX6_giving_28 : decode cX6_giving 28 = .ok (.iload_n 1, 1) := by decide +kernel
theorem dX6_giving_29 : decode cX6_giving 29 = .ok (.iload_n 3, 1) := by decide +kernel
theorem dX6_giving_30 : decode cX6_giving 30 = .ok (.invokevirtual 62, 3) := by decide +kernel
theorem dX6_giving_33 : decode cX6_giving 33 = .ok (.iconst (-1), 1) := by decide +kernel
theorem dX6_giving_34 : decode cX6_giving 34 = .ok (.ixor, 1) := by decide +kernel
theorem dX6_giving_35 : decode cX6_giving 35 = .ok (.iand, 1) := by decide +kernel
theorem dX6_giving_36 : decode cX6_giving 36 = .ok (.iload 4, 2) := by decide +kernel
theorem dX6_giving_38 : decode cX6_giving 38 = .ok (.iconst (-1), 1) := by decide +kernel
theorem dX6_giving_39 : decode cX6_giving 39 = .ok (.ixor, 1) := by decide +kernel
theorem dX6_giving_40 : decode cX6_giving 40 = .ok (.iand, 1) := by decide +kernel
theorem dX6_giving_41 : decode cX6_giving 41 = .ok (.ireturn, 1) := by decide +kernel
theorem dX6_isSwitch_0 : decode cX6_isSwitch 0 = .ok (.aload_n 0, 1) := by decide +kernel
theorem dX6_isSwitch_1 : decode cX6_isSwitch 1 = .ok (.iload_n 1, 1) := by decide +kernel
theorem dX6_isSwitch_2 : decode cX6_isSwitch 2 = .ok (.iload_n 2, 1) := by decide +kernel
theorem dX6_isSwitch_3 : decode cX6_isSwitch 3 = .ok (.iload_n 3, 1) := by decide +kernel
theorem dX6_isSwitch_4 : decode cX6_isSwitch 4 = .ok (.invokevirtual 65, 3) := by decide +kernel
theorem dX6_isSwitch_7 : decode cX6_isSwitch 7 = .ok (.iload 4, 2) := by decide +kernel
theorem dX6_isSwitch_9 : decode cX6_isSwitch 9 = .ok (.invokestatic 69, 3) := by decide +kernel
theorem dX6_isSwitch_12 : decode cX6_isSwitch 12 = .ok (.iand, 1) := by decide +kernel
theorem dX6_isSwitch_13 : decode cX6_isSwitch 13 = .ok (.ifCond .eq 23, 3) := by decide +kernel
theorem dX6_isSwitch_16 : decode cX6_isSwitch 16 = .ok (.aload_n 0, 1) := by decide +kernel
theorem dX6_isSwitch_17 : decode cX6_isSwitch 17 = .ok (.iload_n 1, 1) := by decide +kernel
theorem dX6_isSwitch_18 : decode cX6_isSwitch 18 = .ok (.iload_n 3, 1) := by decide +kernel
theorem dX6_isSwitch_19 : decode cX6_isSwitch 19 = .ok (.iload_n 2, 1) := by decide +kernel
theorem dX6_isSwitch_20 : decode cX6_isSwitch 20 = .ok (.invokevirtual 65, 3) := by decide +kernel
theorem dX6_isSwitch_23 : decode cX6_isSwitch 23 = .ok (.iload 5, 2) := by decide +kernel
theorem dX6_isSwitch_25 : decode cX6_isSwitch 25 = .ok (.invokestatic 69, 3) := by decide +kernel
theorem dX6_isSwitch_28 : decode cX6_isSwitch 28 = .ok (.iand, 1) := by decide +kernel
theorem dX6_isSwitch_29 : decode cX6_isSwitch 29 = .ok (.ifCond .eq 7, 3) := by decide +kernel
theorem dX6_isSwitch_32 : decode cX6_isSwitch 32 = .ok (.iconst 1, 1) := by decide +kernel
theorem dX6_isSwitch_33 : decode cX6_isSwitch 33 = .ok (.goto 4, 3) := by decide +kernel
theorem dX6_isSwitch_36 : decode cX6_isSwitch 36 = .ok (.iconst 0, 1) := by decide +kernel
theorem dX6_isSwitch_37 : decode cX6_isSwitch 37 = .ok (.ireturn, 1) := by decide +kernel
theorem dX6_switched_0 : decode cX6_switched 0 = .ok (.iload_n 1, 1) := by decide +kernel
theorem dX6_switched_1 : decode cX6_switched 1 = .ok (.aload_n 0, 1) := by decide +kernel
theorem dX6_switched_2 : decode cX6_switched 2 = .ok (.iload_n 2, 1) := by decide +kernel
theorem dX6_switched_3 : decode cX6_switched 3 = .ok (.iload 4, 2) := by decide +kernel
theorem dX6_switched_5 : decode cX6_switched 5 = .ok (.invokevirtual 72, 3) := by decide +kernel
theorem dX6_switched_8 : decode cX6_switched 8 = .ok (.aload_n 0, 1) := by decide +kernel
theorem dX6_switched_9 : decode cX6_switched 9 = .ok (.iload_n 3, 1) := by decide +kernel
theorem dX6_switched_10 : decode cX6_switched 10 = .ok (.iload 5, 2) := by decide +kernel
theorem dX6_switched_12 : decode cX6_switched 12 = .ok (.invokevirtual 72, 3) := by decide +kernel
theorem dX6_switched_15 : decode cX6_switched 15 = .ok (.ior, 1) := by decide +kernel
theorem dX6_switched_16 : decode cX6_switched 16 = .ok (.aload_n 0, 1) := by decide +kernel
theorem dX6_switched_17 : decode cX6_switched 17 = .ok (.iload_n 2, 1) := by decide +kernel
theorem dX6_switched_18 : decode cX6_switched 18 = .ok (.iload 5, 2) := by decide +kernel
theorem dX6_switched_20 : decode cX6_switched 20 = .ok (.invokevirtual 72, 3) := by decide +kernel
theorem dX6_switched_23 : decode cX6_switched 23 = .ok (.ior, 1) := by decide +kernel
theorem dX6_switched_24 : decode cX6_switched 24 = .ok (.aload_n 0, 1) := by decide +kernel
theorem dX6_switched_25 : decode cX6_switched 25 = .ok (.iload_n 3, 1) := by decide +kernel
theorem dX6_switched_26 : decode cX6_switched 26 = .ok (.iload 4, 2) := by decide +kernel
theorem dX6_switched_28 : decode cX6_switched 28 = .ok (.invokevirtual 72, 3) := by decide +kernel
theorem dX6_switched_31 : decode cX6_switched 31 = .ok (.ior, 1) := by decide +kernel
theorem dX6_switched_32 : decode cX6_switched 32 = .ok (.ixor, 1) := by decide +kernel
theorem dX6_switched_33 : decode cX6_switched 33 = .ok (.ireturn, 1) := by decide +kernel
theorem dX6_switchCount_0 : decode cX6_switchCount 0 = .ok (.aload_n 0, 1) := by decide +kernel
theorem dX6_switchCount_1 : decode cX6_switchCount 1 = .ok (.getfield 37, 3) := by decide +kernel
theorem dX6_switchCount_4 : decode cX6_switchCount 4 = .ok (.iconst (-1), 1) := by decide +kernel
theorem dX6_switchCount_5 : decode cX6_switchCount 5 = .ok (.if_icmp .ne 5, 3) := by decide +kernel
theorem dX6_switchCount_8 : decode cX6_switchCount 8 = .ok (.iconst 0, 1) := by decide +kernel
theorem dX6_switchCount_9 : decode cX6_switchCount 9 = .ok (.ireturn, 1) := by decide +kernel
theorem dX6_switchCount_10 : decode cX6_switchCount 10 = .ok (.iconst 0, 1) := by decide +kernel
theorem dX6_switchCount_11 : decode cX6_switchCount 11 = .ok (.istore_n 1, 1) := by decide +kernel
theorem dX6_switchCount_12 : decode cX6_switchCount 12 = .ok (.iconst 0, 1) := by decide +kernel
theorem dX6_switchCount_13 : decode cX6_switchCount 13 = .ok (.istore_n 2, 1) := by decide +kernel
theorem dX6_switchCount_14 : decode cX6_switchCount 14 = .ok (.iload_n 2, 1) := by decide +kernel
theorem dX6_switchCount_15 : decode cX6_switchCount 15 = .ok (.aload_n 0, 1) := by decide +kernel
theorem dX6_switchCount_16 : decode cX6_switchCount 16 = .ok (.getfield 9, 3) := by decide +kernel
theorem dX6_switchCount_19 : decode cX6_switchCount 19 = .ok (.if_icmp .ge 57, 3) := by decide +kernel
theorem dX6_switchCount_22 : decode cX6_switchCount 22 = .ok (.iload_n 2, 1) := by decide +kernel
theorem dX6_switchCount_23 : decode cX6_switchCount 23 = .ok (.iconst 1, 1) := by decide +kernel
theorem dX6_switchCount_24 : decode cX6_switchCount 24 = .ok (.iadd, 1) := by decide +kernel
theorem dX6_switchCount_25 : decode cX6_switchCount 25 = .ok (.istore_n 3, 1) := by decide +kernel
theorem dX6_switchCount_26 : decode cX6_switchCount 26 = .ok (.iload_n 3, 1) := by decide +kernel
theorem dX6_switchCount_27 : decode cX6_switchCount 27 = .ok (.aload_n 0, 1) := by decide +kernel
theorem dX6_switchCount_28 : decode cX6_switchCount 28 = .ok (.getfield 9, 3) := by decide +kernel
theorem dX6_switchCount_31 : decode cX6_switchCount 31 = .ok (.if_icmp .ge 39, 3) := by decide +kernel
theorem dX6_switchCount_34 : decode cX6_switchCount 34 = .ok (.iload_n 1, 1) := by decide +kernel
theorem dX6_switchCount_35 : decode cX6_switchCount 35 = .ok (.aload_n 0, 1) := by decide +kernel
theorem dX6_switchCount_36 : decode cX6_switchCount 36 = .ok (.aload_n 0, 1) := by decide +kernel
theorem dX6_switchCount_37 : decode cX6_switchCount 37 = .ok (.getfield 37, 3) := by decide +kernel
theorem dX6_switchCount_40 : decode cX6_switchCount 40 = .ok (.iload_n 2, 1) := by decide +kernel
theorem dX6_switchCount_41 : decode cX6_switchCount 41 = .ok (.iload_n 3, 1) := by decide +kernel
theorem dX6_switchCount_42 : decode cX6_switchCount 42 = .ok (.invokevirtual 65, 3) := by decide +kernel
theorem dX6_switchCount_45 : decode cX6_switchCount 45 = .ok (.invokestatic 57, 3) := by decide +kernel
theorem dX6_switchCount_48 : decode cX6_switchCount 48 = .ok (.aload_n 0, 1) := by decide +kernel
theorem dX6_switchCount_49 : decode cX6_switchCount 49 = .ok (.aload_n 0, 1) := by decide +kernel
theorem dX6_switchCount_50 : decode cX6_switchCount 50 = .ok (.getfield 37, 3) := by decide +kernel
theorem dX6_switchCount_53 : decode cX6_switchCount 53 = .ok (.iload_n 3, 1) := by decide +kernel
theorem dX6_switchCount_54 : decode cX6_switchCount 54 = .ok (.iload_n 2, 1) := by decide +kernel
theorem dX6_switchCount_55 : decode cX6_switchCount 55 = .ok (.invokevirtual 65, 3) := by decide +kernel
theorem dX6_switchCount_58 : decode cX6_switchCount 58 = .ok (.invokestatic 57, 3) := by decide +kernel
theorem dX6_switchCount_61 : decode cX6_switchCount 61 = .ok (.imul, 1) := by decide +kernel
theorem dX6_switchCount_62 : decode cX6_switchCount 62 = .ok (.iadd, 1) := by decide +kernel
theorem dX6_switchCount_63 : decode cX6_switchCount 63 = .ok (.istore_n 1, 1) := by decide +kernel
theorem dX6_switchCount_64 : decode cX6_switchCount 64 = .ok (.iinc 3 1, 3) := by decide +kernel
theorem dX6_switchCount_67 : decode cX6_switchCount 67 = .ok (.goto (-41), 3) := by decide +kernel
theorem dX6_switchCount_70 : decode cX6_switchCount 70 = .ok (.iinc 2 1, 3) := by decide +kernel
theorem dX6_switchCount_73 : decode cX6_switchCount 73 = .ok (.goto (-59), 3) := by decide +kernel
theorem dX6_switchCount_76 : decode cX6_switchCount 76 = .ok (.iload_n 1, 1) := by decide +kernel
theorem dX6_switchCount_77 : decode cX6_switchCount 77 = .ok (.ireturn, 1) := by decide +kernel
theorem dX6_firstSwitch_0 : decode cX6_firstSwitch 0 = .ok (.aload_n 0, 1) := by decide +kernel
theorem dX6_firstSwitch_1 : decode cX6_firstSwitch 1 = .ok (.getfield 37, 3) := by decide +kernel
theorem dX6_firstSwitch_4 : decode cX6_firstSwitch 4 = .ok (.iconst (-1), 1) := by decide +kernel
theorem dX6_firstSwitch_5 : decode cX6_firstSwitch 5 = .ok (.if_icmp .ne 6, 3) := by decide +kernel
theorem dX6_firstSwitch_8 : decode cX6_firstSwitch 8 = .ok (.bipush (-9), 2) := by decide +kernel
theorem dX6_firstSwitch_10 : decode cX6_firstSwitch 10 = .ok (.ireturn, 1) := by decide +kernel
theorem dX6_firstSwitch_11 : decode cX6_firstSwitch 11 = .ok (.iconst 0, 1) := by decide +kernel
theorem dX6_firstSwitch_12 : decode cX6_firstSwitch 12 = .ok (.istore_n 1, 1) := by decide +kernel
theorem dX6_firstSwitch_13 : decode cX6_firstSwitch 13 = .ok (.iload_n 1, 1) := by decide +kernel
theorem dX6_firstSwitch_14 : decode cX6_firstSwitch 14 = .ok (.aload_n 0, 1) := by decide +kernel
theorem dX6_firstSwitch_15 : decode cX6_firstSwitch 15 = .ok (.getfield 9, 3) := by decide +kernel
theorem dX6_firstSwitch_18 : decode cX6_firstSwitch 18 = .ok (.if_icmp .ge 90, 3) := by decide +kernel
theorem dX6_firstSwitch_21 : decode cX6_firstSwitch 21 = .ok (.iload_n 1, 1) := by decide +kernel
theorem dX6_firstSwitch_22 : decode cX6_firstSwitch 22 = .ok (.iconst 1, 1) := by decide +kernel
theorem dX6_firstSwitch_23 : decode cX6_firstSwitch 23 = .ok (.iadd, 1) := by decide +kernel
theorem dX6_firstSwitch_24 : decode cX6_firstSwitch 24 = .ok (.istore_n 2, 1) := by decide +kernel
theorem dX6_firstSwitch_25 : decode cX6_firstSwitch 25 = .ok (.iload_n 2, 1) := by decide +kernel
theorem dX6_firstSwitch_26 : decode cX6_firstSwitch 26 = .ok (.aload_n 0, 1) := by decide +kernel
theorem dX6_firstSwitch_27 : decode cX6_firstSwitch 27 = .ok (.getfield 9, 3) := by decide +kernel
theorem dX6_firstSwitch_30 : decode cX6_firstSwitch 30 = .ok (.if_icmp .ge 72, 3) := by decide +kernel
theorem dX6_firstSwitch_33 : decode cX6_firstSwitch 33 = .ok (.aload_n 0, 1) := by decide +kernel
theorem dX6_firstSwitch_34 : decode cX6_firstSwitch 34 = .ok (.aload_n 0, 1) := by decide +kernel
theorem dX6_firstSwitch_35 : decode cX6_firstSwitch 35 = .ok (.aload_n 0, 1) := by decide +kernel
theorem dX6_firstSwitch_36 : decode cX6_firstSwitch 36 = .ok (.getfield 37, 3) := by decide +kernel
theorem dX6_firstSwitch_39 : decode cX6_firstSwitch 39 = .ok (.iload_n 1, 1) := by decide +kernel
theorem dX6_firstSwitch_40 : decode cX6_firstSwitch 40 = .ok (.iload_n 2, 1) := by decide +kernel
theorem dX6_firstSwitch_41 : decode cX6_firstSwitch 41 = .ok (.invokevirtual 65, 3) := by decide +kernel
theorem dX6_firstSwitch_44 : decode cX6_firstSwitch 44 = .ok (.invokevirtual 75, 3) := by decide +kernel
theorem dX6_firstSwitch_47 : decode cX6_firstSwitch 47 = .ok (.istore_n 3, 1) := by decide +kernel
theorem dX6_firstSwitch_48 : decode cX6_firstSwitch 48 = .ok (.aload_n 0, 1) := by decide +kernel
theorem dX6_firstSwitch_49 : decode cX6_firstSwitch 49 = .ok (.aload_n 0, 1) := by decide +kernel
theorem dX6_firstSwitch_50 : decode cX6_firstSwitch 50 = .ok (.aload_n 0, 1) := by decide +kernel
theorem dX6_firstSwitch_51 : decode cX6_firstSwitch 51 = .ok (.getfield 37, 3) := by decide +kernel
theorem dX6_firstSwitch_54 : decode cX6_firstSwitch 54 = .ok (.iload_n 2, 1) := by decide +kernel
theorem dX6_firstSwitch_55 : decode cX6_firstSwitch 55 = .ok (.iload_n 1, 1) := by decide +kernel
theorem dX6_firstSwitch_56 : decode cX6_firstSwitch 56 = .ok (.invokevirtual 65, 3) := by decide +kernel
theorem dX6_firstSwitch_59 : decode cX6_firstSwitch 59 = .ok (.invokevirtual 75, 3) := by decide +kernel
theorem dX6_firstSwitch_62 : decode cX6_firstSwitch 62 = .ok (.istore 4, 2) := by decide +kernel
theorem dX6_firstSwitch_64 : decode cX6_firstSwitch 64 = .ok (.iload_n 3, 1) := by decide +kernel
theorem dX6_firstSwitch_65 : decode cX6_firstSwitch 65 = .ok (.bipush (-9), 2) := by decide +kernel
theorem dX6_firstSwitch_67 : decode cX6_firstSwitch 67 = .ok (.if_icmp .eq 29, 3) := by decide +kernel
theorem dX6_firstSwitch_70 : decode cX6_firstSwitch 70 = .ok (.iload 4, 2) := by decide +kernel
theorem dX6_firstSwitch_72 : decode cX6_firstSwitch 72 = .ok (.bipush (-9), 2) := by decide +kernel
theorem dX6_firstSwitch_74 : decode cX6_firstSwitch 74 = .ok (.if_icmp .eq 22, 3) := by decide +kernel
theorem dX6_firstSwitch_77 : decode cX6_firstSwitch 77 = .ok (.sipush 1000, 3) := by decide +kernel
theorem dX6_firstSwitch_80 : decode cX6_firstSwitch 80 = .ok (.iload_n 1, 1) := by decide +kernel
theorem dX6_firstSwitch_81 : decode cX6_firstSwitch 81 = .ok (.imul, 1) := by decide +kernel
theorem dX6_firstSwitch_82 : decode cX6_firstSwitch 82 = .ok (.bipush 100, 2) := by decide +kernel
theorem dX6_firstSwitch_84 : decode cX6_firstSwitch 84 = .ok (.iload_n 2, 1) := by decide +kernel
theorem dX6_firstSwitch_85 : decode cX6_firstSwitch 85 = .ok (.imul, 1) := by decide +kernel
theorem dX6_firstSwitch_86 : decode cX6_firstSwitch 86 = .ok (.iadd, 1) := by decide +kernel
theorem dX6_firstSwitch_87 : decode cX6_firstSwitch 87 = .ok (.bipush 10, 2) := by decide +kernel
theorem dX6_firstSwitch_89 : decode cX6_firstSwitch 89 = .ok (.iload_n 3, 1) := by decide +kernel
theorem dX6_firstSwitch_90 : decode cX6_firstSwitch 90 = .ok (.imul, 1) := by decide +kernel
theorem dX6_firstSwitch_91 : decode cX6_firstSwitch 91 = .ok (.iadd, 1) := by decide +kernel
theorem dX6_firstSwitch_92 : decode cX6_firstSwitch 92 = .ok (.iload 4, 2) := by decide +kernel
theorem dX6_firstSwitch_94 : decode cX6_firstSwitch 94 = .ok (.iadd, 1) := by decide +kernel
theorem dX6_firstSwitch_95 : decode cX6_firstSwitch 95 = .ok (.ireturn, 1) := by decide +kernel
theorem dX6_firstSwitch_96 : decode cX6_firstSwitch 96 = .ok (.iinc 2 1, 3) := by decide +kernel
theorem dX6_firstSwitch_99 : decode cX6_firstSwitch 99 = .ok (.goto (-74), 3) := by decide +kernel
theorem dX6_firstSwitch_102 : decode cX6_firstSwitch 102 = .ok (.iinc 1 1, 3) := by decide +kernel
theorem dX6_firstSwitch_105 : decode cX6_firstSwitch 105 = .ok (.goto (-92), 3) := by decide +kernel
theorem dX6_firstSwitch_108 : decode cX6_firstSwitch 108 = .ok (.bipush (-9), 2) := by decide +kernel
theorem dX6_firstSwitch_110 : decode cX6_firstSwitch 110 = .ok (.ireturn, 1) := by decide +kernel
theorem dX6_firstColumn_0 : decode cX6_firstColumn 0 = .ok (.iconst 0, 1) := by decide +kernel
theorem dX6_firstColumn_1 : decode cX6_firstColumn 1 = .ok (.istore_n 2, 1) := by decide +kernel
theorem dX6_firstColumn_2 : decode cX6_firstColumn 2 = .ok (.iload_n 2, 1) := by decide +kernel
theorem dX6_firstColumn_3 : decode cX6_firstColumn 3 = .ok (.aload_n 0, 1) := by decide +kernel
theorem dX6_firstColumn_4 : decode cX6_firstColumn 4 = .ok (.getfield 15, 3) := by decide +kernel
theorem dX6_firstColumn_7 : decode cX6_firstColumn 7 = .ok (.if_icmp .ge 20, 3) := by decide +kernel
theorem dX6_firstColumn_10 : decode cX6_firstColumn 10 = .ok (.iload_n 1, 1) := by decide +kernel
theorem dX6_firstColumn_11 : decode cX6_firstColumn 11 = .ok (.iload_n 2, 1) := by decide +kernel
theorem dX6_firstColumn_12 : decode cX6_firstColumn 12 = .ok (.invokestatic 69, 3) := by decide +kernel
theorem dX6_firstColumn_15 : decode cX6_firstColumn 15 = .ok (.iand, 1) := by decide +kernel
theorem dX6_firstColumn_16 : decode cX6_firstColumn 16 = .ok (.ifCond .eq 5, 3) := by decide +kernel
theorem dX6_firstColumn_19 : decode cX6_firstColumn 19 = .ok (.iload_n 2, 1) := by decide +kernel
theorem dX6_firstColumn_20 : decode cX6_firstColumn 20 = .ok (.ireturn, 1) := by decide +kernel
theorem dX6_firstColumn_21 : decode cX6_firstColumn 21 = .ok (.iinc 2 1, 3) := by decide +kernel
theorem dX6_firstColumn_24 : decode cX6_firstColumn 24 = .ok (.goto (-22), 3) := by decide +kernel
theorem dX6_firstColumn_27 : decode cX6_firstColumn 27 = .ok (.bipush (-9), 2) := by decide +kernel
theorem dX6_firstColumn_29 : decode cX6_firstColumn 29 = .ok (.ireturn, 1) := by decide +kernel
theorem dX7_goFrom_0 : decode cX7_goFrom 0 = .ok (.aload_n 0, 1) := by decide +kernel
theorem dX7_goFrom_1 : decode cX7_goFrom 1 = .ok (.getfield 18, 3) := by decide +kernel
theorem dX7_goFrom_4 : decode cX7_goFrom 4 = .ok (.aload_n 1, 1) := by decide +kernel
theorem dX7_goFrom_5 : decode cX7_goFrom 5 = .ok (.getfield 25, 3) := by decide +kernel
theorem dX7_goFrom_8 : decode cX7_goFrom 8 = .ok (.getfield 31, 3) := by decide +kernel
theorem dX7_goFrom_11 : decode cX7_goFrom 11 = .ok (.if_icmp .ne 18, 3) := by decide +kernel
theorem dX7_goFrom_14 : decode cX7_goFrom 14 = .ok (.aload_n 0, 1) := by decide +kernel
theorem dX7_goFrom_15 : decode cX7_goFrom 15 = .ok (.getfield 22, 3) := by decide +kernel
theorem dX7_goFrom_18 : decode cX7_goFrom 18 = .ok (.aload_n 1, 1) := by decide +kernel
theorem dX7_goFrom_19 : decode cX7_goFrom 19 = .ok (.getfield 36, 3) := by decide +kernel
theorem dX7_goFrom_22 : decode cX7_goFrom 22 = .ok (.getfield 40, 3) := by decide +kernel
theorem dX7_goFrom_25 : decode cX7_goFrom 25 = .ok (.if_icmp .ne 4, 3) := by decide +kernel
theorem dX7_goFrom_28 : decode cX7_goFrom 28 = .ok (.return_, 1) := by decide +kernel
theorem dX7_goFrom_29 : decode cX7_goFrom 29 = .ok (.aload_n 0, 1) := by decide +kernel
theorem dX7_goFrom_30 : decode cX7_goFrom 30 = .ok (.aload_n 1, 1) := by decide +kernel
theorem dX7_goFrom_31 : decode cX7_goFrom 31 = .ok (.getfield 25, 3) := by decide +kernel
theorem dX7_goFrom_34 : decode cX7_goFrom 34 = .ok (.getfield 31, 3) := by decide +kernel
theorem dX7_goFrom_37 : decode cX7_goFrom 37 = .ok (.putfield 18, 3) := by decide +kernel
theorem dX7_goFrom_40 : decode cX7_goFrom 40 = .ok (.aload_n 0, 1) := by decide +kernel
theorem dX7_goFrom_41 : decode cX7_goFrom 41 = .ok (.aload_n 1, 1) := by decide +kernel
theorem dX7_goFrom_42 : decode cX7_goFrom 42 = .ok (.getfield 36, 3) := by decide +kernel
theorem dX7_goFrom_45 : decode cX7_goFrom 45 = .ok (.getfield 40, 3) := by decide +kernel
theorem dX7_goFrom_48 : decode cX7_goFrom 48 = .ok (.putfield 22, 3) := by decide +kernel
theorem dX7_goFrom_51 : decode cX7_goFrom 51 = .ok (.iconst 0, 1) := by decide +kernel
theorem dX7_goFrom_52 : decode cX7_goFrom 52 = .ok (.istore_n 2, 1) := by decide +kernel
theorem dX7_goFrom_53 : decode cX7_goFrom 53 = .ok (.iload_n 2, 1) := by decide +kernel
theorem dX7_goFrom_54 : decode cX7_goFrom 54 = .ok (.sipush 310, 3) := by decide +kernel
theorem dX7_goFrom_57 : decode cX7_goFrom 57 = .ok (.if_icmp .ge 17, 3) := by decide +kernel
theorem dX7_goFrom_60 : decode cX7_goFrom 60 = .ok (.aload_n 0, 1) := by decide +kernel
theorem dX7_goFrom_61 : decode cX7_goFrom 61 = .ok (.getfield 9, 3) := by decide +kernel
theorem dX7_goFrom_64 : decode cX7_goFrom 64 = .ok (.iload_n 2, 1) := by decide +kernel
theorem dX7_goFrom_65 : decode cX7_goFrom 65 = .ok (.bipush (-9), 2) := by decide +kernel
theorem dX7_goFrom_67 : decode cX7_goFrom 67 = .ok (.iastore, 1) := by decide +kernel
theorem dX7_goFrom_68 : decode cX7_goFrom 68 = .ok (.iinc 2 1, 3) := by decide +kernel
theorem dX7_goFrom_71 : decode cX7_goFrom 71 = .ok (.goto (-18), 3) := by decide +kernel
theorem dX7_goFrom_74 : decode cX7_goFrom 74 = .ok (.aload_n 0, 1) := by decide +kernel
theorem dX7_goFrom_75 : decode cX7_goFrom 75 = .ok (.iconst 0, 1) := by decide +kernel
theorem dX7_goFrom_76 : decode cX7_goFrom 76 = .ok (.putfield 45, 3) := by decide +kernel
theorem dX7_goFrom_79 : decode cX7_goFrom 79 = .ok (.aload_n 0, 1) := by decide +kernel
theorem dX7_goFrom_80 : decode cX7_goFrom 80 = .ok (.aload_n 1, 1) := by decide +kernel
theorem dX7_goFrom_81 : decode cX7_goFrom 81 = .ok (.aload_n 0, 1) := by decide +kernel
theorem dX7_goFrom_82 : decode cX7_goFrom 82 = .ok (.getfield 22, 3) := by decide +kernel
theorem dX7_goFrom_85 : decode cX7_goFrom 85 = .ok (.iconst 0, 1) := by decide +kernel
theorem dX7_goFrom_86 : decode cX7_goFrom 86 = .ok (.invokevirtual 48, 3) := by decide +kernel
theorem dX7_goFrom_89 : decode cX7_goFrom 89 = .ok (.iconst 0, 1) := by decide +kernel
theorem dX7_goFrom_90 : decode cX7_goFrom 90 = .ok (.istore_n 2, 1) := by decide +kernel
theorem dX7_goFrom_91 : decode cX7_goFrom 91 = .ok (.iload_n 2, 1) := by decide +kernel
theorem dX7_goFrom_92 : decode cX7_goFrom 92 = .ok (.sipush 310, 3) := by decide +kernel
theorem dX7_goFrom_95 : decode cX7_goFrom 95 = .ok (.if_icmp .ge 42, 3) := by decide +kernel
theorem dX7_goFrom_98 : decode cX7_goFrom 98 = .ok (.iload_n 2, 1) := by decide +kernel
theorem dX7_goFrom_99 : decode cX7_goFrom 99 = .ok (.aload_n 0, 1) := by decide +kernel
theorem dX7_goFrom_100 : decode cX7_goFrom 100 = .ok (.getfield 45, 3) := by decide +kernel
theorem dX7_goFrom_103 : decode cX7_goFrom 103 = .ok (.if_icmp .ge 34, 3) := by decide +kernel
theorem dX7_goFrom_106 : decode cX7_goFrom 106 = .ok (.aload_n 0, 1) := by decide +kernel
theorem dX7_goFrom_107 : decode cX7_goFrom 107 = .ok (.getfield 45, 3) := by decide +kernel
theorem dX7_goFrom_110 : decode cX7_goFrom 110 = .ok (.aload_n 1, 1) := by decide +kernel
theorem dX7_goFrom_111 : decode cX7_goFrom 111 = .ok (.getfield 25, 3) := by decide +kernel
theorem dX7_goFrom_114 : decode cX7_goFrom 114 = .ok (.getfield 52, 3) := by decide +kernel
theorem dX7_goFrom_117 : decode cX7_goFrom 117 = .ok (.if_icmp .ge 20, 3) := by decide +kernel
theorem dX7_goFrom_120 : decode cX7_goFrom 120 = .ok (.aload_n 0, 1) := by decide +kernel
theorem dX7_goFrom_121 : decode cX7_goFrom 121 = .ok (.aload_n 1, 1) := by decide +kernel
theorem dX7_goFrom_122 : decode cX7_goFrom 122 = .ok (.aload_n 0, 1) := by decide +kernel
theorem dX7_goFrom_123 : decode cX7_goFrom 123 = .ok (.getfield 15, 3) := by decide +kernel
theorem dX7_goFrom_126 : decode cX7_goFrom 126 = .ok (.iload_n 2, 1) := by decide +kernel
theorem dX7_goFrom_127 : decode cX7_goFrom 127 = .ok (.iaload, 1) := by decide +kernel
theorem dX7_goFrom_128 : decode cX7_goFrom 128 = .ok (.invokevirtual 55, 3) := by decide +kernel
theorem dX7_goFrom_131 : decode cX7_goFrom 131 = .ok (.iinc 2 1, 3) := by decide +kernel
theorem dX7_goFrom_134 : decode cX7_goFrom 134 = .ok (.goto (-43), 3) := by decide +kernel
theorem dX7_goFrom_137 : decode cX7_goFrom 137 = .ok (.return_, 1) := by decide +kernel
theorem dX7_stepsTo_0 : decode cX7_stepsTo 0 = .ok (.iload_n 1, 1) := by decide +kernel
theorem dX7_stepsTo_1 : decode cX7_stepsTo 1 = .ok (.ifCond .lt 19, 3) := by decide +kernel
theorem dX7_stepsTo_4 : decode cX7_stepsTo 4 = .ok (.iload_n 1, 1) := by decide +kernel
theorem dX7_stepsTo_5 : decode cX7_stepsTo 5 = .ok (.sipush 310, 3) := by decide +kernel
theorem dX7_stepsTo_8 : decode cX7_stepsTo 8 = .ok (.if_icmp .ge 12, 3) := by decide +kernel
theorem dX7_stepsTo_11 : decode cX7_stepsTo 11 = .ok (.aload_n 0, 1) := by decide +kernel
theorem dX7_stepsTo_12 : decode cX7_stepsTo 12 = .ok (.getfield 9, 3) := by decide +kernel
theorem dX7_stepsTo_15 : decode cX7_stepsTo 15 = .ok (.iload_n 1, 1) := by decide +kernel
theorem dX7_stepsTo_16 : decode cX7_stepsTo 16 = .ok (.iaload, 1) := by decide +kernel
theorem dX7_stepsTo_17 : decode cX7_stepsTo 17 = .ok (.goto 5, 3) := by decide +kernel
theorem dX7_stepsTo_20 : decode cX7_stepsTo 20 = .ok (.bipush (-9), 2) := by decide +kernel
theorem dX7_stepsTo_22 : decode cX7_stepsTo 22 = .ok (.ireturn, 1) := by decide +kernel
theorem dX7_reach_0 : decode cX7_reach 0 = .ok (.aload_n 1, 1) := by decide +kernel
theorem dX7_reach_1 : decode cX7_reach 1 = .ok (.getfield 25, 3) := by decide +kernel
theorem dX7_reach_4 : decode cX7_reach 4 = .ok (.iload_n 2, 1) := by decide +kernel
theorem dX7_reach_5 : decode cX7_reach 5 = .ok (.invokevirtual 59, 3) := by decide +kernel
theorem dX7_reach_8 : decode cX7_reach 8 = .ok (.istore 4, 2) := by decide +kernel
theorem dX7_reach_10 : decode cX7_reach 10 = .ok (.iload 4, 2) := by decide +kernel
theorem dX7_reach_12 : decode cX7_reach 12 = .ok (.bipush (-9), 2) := by decide +kernel
theorem dX7_reach_14 : decode cX7_reach 14 = .ok (.if_icmp .eq 54, 3) := by decide +kernel
theorem dX7_reach_17 : decode cX7_reach 17 = .ok (.aload_n 0, 1) := by decide +kernel
theorem dX7_reach_18 : decode cX7_reach 18 = .ok (.getfield 9, 3) := by decide +kernel
theorem dX7_reach_21 : decode cX7_reach 21 = .ok (.iload 4, 2) := by decide +kernel
theorem dX7_reach_23 : decode cX7_reach 23 = .ok (.iaload, 1) := by decide +kernel
theorem dX7_reach_24 : decode cX7_reach 24 = .ok (.bipush (-9), 2) := by decide +kernel
theorem dX7_reach_26 : decode cX7_reach 26 = .ok (.if_icmp .ne 42, 3) := by decide +kernel
theorem dX7_reach_29 : decode cX7_reach 29 = .ok (.aload_n 0, 1) := by decide +kernel
theorem dX7_reach_30 : decode cX7_reach 30 = .ok (.getfield 45, 3) := by decide +kernel
theorem dX7_reach_33 : decode cX7_reach 33 = .ok (.sipush 310, 3) := by decide +kernel
theorem dX7_reach_36 : decode cX7_reach 36 = .ok (.if_icmp .ge 32, 3) := by decide +kernel
theorem dX7_reach_39 : decode cX7_reach 39 = .ok (.aload_n 0, 1) := by decide +kernel
theorem dX7_reach_40 : decode cX7_reach 40 = .ok (.getfield 9, 3) := by decide +kernel
theorem dX7_reach_43 : decode cX7_reach 43 = .ok (.iload 4, 2) := by decide +kernel
theorem dX7_reach_45 : decode cX7_reach 45 = .ok (.iload_n 3, 1) := by decide +kernel
theorem dX7_reach_46 : decode cX7_reach 46 = .ok (.iastore, 1) := by decide +kernel
theorem dX7_reach_47 : decode cX7_reach 47 = .ok (.aload_n 0, 1) := by decide +kernel
theorem dX7_reach_48 : decode cX7_reach 48 = .ok (.getfield 15, 3) := by decide +kernel
theorem dX7_reach_51 : decode cX7_reach 51 = .ok (.aload_n 0, 1) := by decide +kernel
theorem dX7_reach_52 : decode cX7_reach 52 = .ok (.getfield 45, 3) := by decide +kernel
theorem dX7_reach_55 : decode cX7_reach 55 = .ok (.iload 4, 2) := by decide +kernel
theorem dX7_reach_57 : decode cX7_reach 57 = .ok (.iastore, 1) := by decide +kernel
theorem dX7_reach_58 : decode cX7_reach 58 = .ok (.aload_n 0, 1) := by decide +kernel
theorem dX7_reach_59 : decode cX7_reach 59 = .ok (.dup, 1) := by decide +kernel
theorem dX7_reach_60 : decode cX7_reach 60 = .ok (.getfield 45, 3) := by decide +kernel
theorem dX7_reach_63 : decode cX7_reach 63 = .ok (.iconst 1, 1) := by decide +kernel
theorem dX7_reach_64 : decode cX7_reach 64 = .ok (.iadd, 1) := by decide +kernel
theorem dX7_reach_65 : decode cX7_reach 65 = .ok (.putfield 45, 3) := by decide +kernel
theorem dX7_reach_68 : decode cX7_reach 68 = .ok (.return_, 1) := by decide +kernel
theorem dX7_reachAround_0 : decode cX7_reachAround 0 = .ok (.iconst 0, 1) := by decide +kernel
theorem dX7_reachAround_1 : decode cX7_reachAround 1 = .ok (.istore_n 3, 1) := by decide +kernel
theorem dX7_reachAround_2 : decode cX7_reachAround 2 = .ok (.iload_n 3, 1) := by decide +kernel
theorem dX7_reachAround_3 : decode cX7_reachAround 3 = .ok (.aload_n 1, 1) := by decide +kernel
theorem dX7_reachAround_4 : decode cX7_reachAround 4 = .ok (.getfield 36, 3) := by decide +kernel
theorem dX7_reachAround_7 : decode cX7_reachAround 7 = .ok (.getfield 63, 3) := by decide +kernel
theorem dX7_reachAround_10 : decode cX7_reachAround 10 = .ok (.if_icmp .ge 41, 3) := by decide +kernel
theorem dX7_reachAround_13 : decode cX7_reachAround 13 = .ok (.iload_n 3, 1) := by decide +kernel
theorem dX7_reachAround_14 : decode cX7_reachAround 14 = .ok (.iconst 1, 1) := by decide +kernel
theorem dX7_reachAround_15 : decode cX7_reachAround 15 = .ok (.iadd, 1) := by decide +kernel
theorem dX7_reachAround_16 : decode cX7_reachAround 16 = .ok (.istore 4, 2) := by decide +kernel
theorem dX7_reachAround_18 : decode cX7_reachAround 18 = .ok (.iload 4, 2) := by decide +kernel
theorem dX7_reachAround_20 : decode cX7_reachAround 20 = .ok (.aload_n 1, 1) := by decide +kernel
theorem dX7_reachAround_21 : decode cX7_reachAround 21 = .ok (.getfield 36, 3) := by decide +kernel
theorem dX7_reachAround_24 : decode cX7_reachAround 24 = .ok (.getfield 63, 3) := by decide +kernel
theorem dX7_reachAround_27 : decode cX7_reachAround 27 = .ok (.if_icmp .ge 18, 3) := by decide +kernel
theorem dX7_reachAround_30 : decode cX7_reachAround 30 = .ok (.aload_n 0, 1) := by decide +kernel
theorem dX7_reachAround_31 : decode cX7_reachAround 31 = .ok (.aload_n 1, 1) := by decide +kernel
theorem dX7_reachAround_32 : decode cX7_reachAround 32 = .ok (.iload_n 2, 1) := by decide +kernel
theorem dX7_reachAround_33 : decode cX7_reachAround 33 = .ok (.iload_n 3, 1) := by decide +kernel
theorem dX7_reachAround_34 : decode cX7_reachAround 34 = .ok (.iload 4, 2) := by decide +kernel
theorem dX7_reachAround_36 : decode cX7_reachAround 36 = .ok (.invokevirtual 66, 3) := by decide +kernel
theorem dX7_reachAround_39 : decode cX7_reachAround 39 = .ok (.iinc 4 1, 3) := by decide +kernel
theorem dX7_reachAround_42 : decode cX7_reachAround 42 = .ok (.goto (-24), 3) := by decide +kernel
theorem dX7_reachAround_45 : decode cX7_reachAround 45 = .ok (.iinc 3 1, 3) := by decide +kernel
theorem dX7_reachAround_48 : decode cX7_reachAround 48 = .ok (.goto (-46), 3) := by decide +kernel
theorem dX7_reachAround_51 : decode cX7_reachAround 51 = .ok (.return_, 1) := by decide +kernel
theorem dX7_reachByRows_0 : decode cX7_reachByRows 0 = .ok (.aload_n 1, 1) := by decide +kernel
theorem dX7_reachByRows_1 : decode cX7_reachByRows 1 = .ok (.getfield 36, 3) := by decide +kernel
theorem dX7_reachByRows_4 : decode cX7_reachByRows 4 = .ok (.astore 5, 2) := by decide +kernel
theorem dX7_reachByRows_6 : decode cX7_reachByRows 6 = .ok (.aload_n 1, 1) := by decide +kernel
theorem dX7_reachByRows_7 : decode cX7_reachByRows 7 = .ok (.getfield 25, 3) := by decide +kernel
theorem dX7_reachByRows_10 : decode cX7_reachByRows 10 = .ok (.getfield 70, 3) := by decide +kernel
theorem dX7_reachByRows_13 : decode cX7_reachByRows 13 = .ok (.iload_n 2, 1) := by decide +kernel
theorem dX7_reachByRows_14 : decode cX7_reachByRows 14 = .ok (.iaload, 1) := by decide +kernel
theorem dX7_reachByRows_15 : decode cX7_reachByRows 15 = .ok (.istore 6, 2) := by decide +kernel
theorem dX7_reachByRows_17 : decode cX7_reachByRows 17 = .ok (.aload 5, 2) := by decide +kernel
theorem dX7_reachByRows_19 : decode cX7_reachByRows 19 = .ok (.iload 6, 2) := by decide +kernel
theorem dX7_reachByRows_21 : decode cX7_reachByRows 21 = .ok (.iload_n 3, 1) := by decide +kernel
theorem dX7_reachByRows_22 : decode cX7_reachByRows 22 = .ok (.iload 4, 2) := by decide +kernel
theorem dX7_reachByRows_24 : decode cX7_reachByRows 24 = .ok (.invokevirtual 73, 3) := by decide +kernel
theorem dX7_reachByRows_27 : decode cX7_reachByRows 27 = .ok (.istore 7, 2) := by decide +kernel
theorem dX7_reachByRows_29 : decode cX7_reachByRows 29 = .ok (.aload 5, 2) := by decide +kernel
theorem dX7_reachByRows_31 : decode cX7_reachByRows 31 = .ok (.iload 6, 2) := by decide +kernel
theorem dX7_reachByRows_33 : decode cX7_reachByRows 33 = .ok (.iload 4, 2) := by decide +kernel
theorem dX7_reachByRows_35 : decode cX7_reachByRows 35 = .ok (.iload_n 3, 1) := by decide +kernel
theorem dX7_reachByRows_36 : decode cX7_reachByRows 36 = .ok (.invokevirtual 73, 3) := by decide +kernel
theorem dX7_reachByRows_39 : decode cX7_reachByRows 39 = .ok (.istore 8, 2) := by decide +kernel
theorem dX7_reachByRows_41 : decode cX7_reachByRows 41 = .ok (.iconst 0, 1) := by decide +kernel
theorem dX7_reachByRows_42 : decode cX7_reachByRows 42 = .ok (.istore 9, 2) := by decide +kernel
theorem dX7_reachByRows_44 : decode cX7_reachByRows 44 = .ok (.iload 9, 2) := by decide +kernel
theorem dX7_reachByRows_46 : decode cX7_reachByRows 46 = .ok (.aload 5, 2) := by decide +kernel
theorem dX7_reachByRows_48 : decode cX7_reachByRows 48 = .ok (.getfield 77, 3) := by decide +kernel
theorem dX7_reachByRows_51 : decode cX7_reachByRows 51 = .ok (.if_icmp .ge 85, 3) := by decide +kernel
theorem dX7_reachByRows_54 : decode cX7_reachByRows 54 = .ok (.iload 8, 2) := by decide +kernel
theorem dX7_reachByRows_56 : decode cX7_reachByRows 56 = .ok (.ifCond .eq 80, 3) := by decide +kernel
theorem dX7_reachByRows_59 : decode cX7_reachByRows 59 = .ok (.iload 7, 2) := by decide +kernel
theorem dX7_reachByRows_61 : decode cX7_reachByRows 61 = .ok (.iload 9, 2) := by decide +kernel
theorem dX7_reachByRows_63 : decode cX7_reachByRows 63 = .ok (.invokestatic 80, 3) := by decide +kernel
theorem dX7_reachByRows_66 : decode cX7_reachByRows 66 = .ok (.iand, 1) := by decide +kernel
theorem dX7_reachByRows_67 : decode cX7_reachByRows 67 = .ok (.ifCond .ne 6, 3) := by decide +kernel
theorem dX7_reachByRows_70 : decode cX7_reachByRows 70 = .ok (.goto 60, 3) := by decide +kernel
theorem dX7_reachByRows_73 : decode cX7_reachByRows 73 = .ok (.iconst 0, 1) := by decide +kernel
theorem dX7_reachByRows_74 : decode cX7_reachByRows 74 = .ok (.istore 10, 2) := by decide +kernel
theorem dX7_reachByRows_76 : decode cX7_reachByRows 76 = .ok (.iload 10, 2) := by decide +kernel
theorem dX7_reachByRows_78 : decode cX7_reachByRows 78 = .ok (.aload 5, 2) := by decide +kernel
theorem dX7_reachByRows_80 : decode cX7_reachByRows 80 = .ok (.getfield 77, 3) := by decide +kernel
theorem dX7_reachByRows_83 : decode cX7_reachByRows 83 = .ok (.if_icmp .ge 47, 3) := by decide +kernel
theorem dX7_reachByRows_86 : decode cX7_reachByRows 86 = .ok (.iload 8, 2) := by decide +kernel
theorem dX7_reachByRows_88 : decode cX7_reachByRows 88 = .ok (.iload 10, 2) := by decide +kernel
theorem dX7_reachByRows_90 : decode cX7_reachByRows 90 = .ok (.invokestatic 80, 3) := by decide +kernel
theorem dX7_reachByRows_93 : decode cX7_reachByRows 93 = .ok (.iand, 1) := by decide +kernel
theorem dX7_reachByRows_94 : decode cX7_reachByRows 94 = .ok (.ifCond .eq 30, 3) := by decide +kernel
theorem dX7_reachByRows_97 : decode cX7_reachByRows 97 = .ok (.aload_n 0, 1) := by decide +kernel
theorem dX7_reachByRows_98 : decode cX7_reachByRows 98 = .ok (.aload_n 1, 1) := by decide +kernel
theorem dX7_reachByRows_99 : decode cX7_reachByRows 99 = .ok (.aload 5, 2) := by decide +kernel
theorem dX7_reachByRows_101 : decode cX7_reachByRows 101 = .ok (.iload 6, 2) := by decide +kernel
theorem dX7_reachByRows_103 : decode cX7_reachByRows 103 = .ok (.iload_n 3, 1) := by decide +kernel
theorem dX7_reachByRows_104 : decode cX7_reachByRows 104 = .ok (.iload 4, 2) := by decide +kernel
theorem dX7_reachByRows_106 : decode cX7_reachByRows 106 = .ok (.iload 9, 2) := by decide +kernel
theorem dX7_reachByRows_108 : decode cX7_reachByRows 108 = .ok (.iload 10, 2) := by decide +kernel
theorem dX7_reachByRows_110 : decode cX7_reachByRows 110 = .ok (.invokevirtual 83, 3) := by decide +kernel
theorem dX7_reachByRows_113 : decode cX7_reachByRows 113 = .ok (.aload_n 0, 1) := by decide +kernel
theorem dX7_reachByRows_114 : decode cX7_reachByRows 114 = .ok (.getfield 9, 3) := by decide +kernel
theorem dX7_reachByRows_117 : decode cX7_reachByRows 117 = .ok (.iload_n 2, 1) := by decide +kernel
theorem dX7_reachByRows_118 : decode cX7_reachByRows 118 = .ok (.iaload, 1) := by decide +kernel
theorem dX7_reachByRows_119 : decode cX7_reachByRows 119 = .ok (.iconst 1, 1) := by decide +kernel
theorem dX7_reachByRows_120 : decode cX7_reachByRows 120 = .ok (.iadd, 1) := by decide +kernel
theorem dX7_reachByRows_121 : decode cX7_reachByRows 121 = .ok (.invokevirtual 48, 3) := by decide +kernel
theorem dX7_reachByRows_124 : decode cX7_reachByRows 124 = .ok (.iinc 10 1, 3) := by decide +kernel
theorem dX7_reachByRows_127 : decode cX7_reachByRows 127 = .ok (.goto (-51), 3) := by decide +kernel
theorem dX7_reachByRows_130 : decode cX7_reachByRows 130 = .ok (.iinc 9 1, 3) := by decide +kernel
theorem dX7_reachByRows_133 : decode cX7_reachByRows 133 = .ok (.goto (-89), 3) := by decide +kernel
theorem dX7_reachByRows_136 : decode cX7_reachByRows 136 = .ok (.return_, 1) := by decide +kernel
theorem dX8_write_0 : decode cX8_write 0 = .ok (.iload_n 1, 1) := by decide +kernel
theorem dX8_write_1 : decode cX8_write 1 = .ok (.ifCond .lt 10, 3) := by decide +kernel
theorem dX8_write_4 : decode cX8_write 4 = .ok (.iload_n 1, 1) := by decide +kernel
theorem dX8_write_5 : decode cX8_write 5 = .ok (.sipush 255, 3) := by decide +kernel
theorem dX8_write_8 : decode cX8_write 8 = .ok (.if_icmp .le 6, 3) := by decide +kernel
theorem dX8_write_11 : decode cX8_write 11 = .ok (.bipush (-2), 2) := by decide +kernel
theorem dX8_write_13 : decode cX8_write 13 = .ok (.ireturn, 1) := by decide +kernel
theorem dX8_write_14 : decode cX8_write 14 = .ok (.aload_n 0, 1) := by decide +kernel
theorem dX8_write_15 : decode cX8_write 15 = .ok (.getfield 22, 3) := by decide +kernel
theorem dX8_write_18 : decode cX8_write 18 = .ok (.iload_n 1, 1) := by decide +kernel
theorem dX8_write_19 : decode cX8_write 19 = .ok (.invokevirtual 68, 3) := by decide +kernel
theorem dX8_write_22 : decode cX8_write 22 = .ok (.ifCond .eq 13, 3) := by decide +kernel
theorem dX8_write_25 : decode cX8_write 25 = .ok (.aload_n 0, 1) := by decide +kernel
theorem dX8_write_26 : decode cX8_write 26 = .ok (.getfield 22, 3) := by decide +kernel
theorem dX8_write_29 : decode cX8_write 29 = .ok (.getfield 72, 3) := by decide +kernel
theorem dX8_write_32 : decode cX8_write 32 = .ok (.goto 5, 3) := by decide +kernel
theorem dX8_write_35 : decode cX8_write 35 = .ok (.bipush (-4), 2) := by decide +kernel
theorem dX8_write_37 : decode cX8_write 37 = .ok (.ireturn, 1) := by decide +kernel
theorem dX8_wipe_0 : decode cX8_wipe 0 = .ok (.aload_n 0, 1) := by decide +kernel
theorem dX8_wipe_1 : decode cX8_wipe 1 = .ok (.getfield 22, 3) := by decide +kernel
theorem dX8_wipe_4 : decode cX8_wipe 4 = .ok (.getfield 72, 3) := by decide +kernel
theorem dX8_wipe_7 : decode cX8_wipe 7 = .ok (.istore_n 1, 1) := by decide +kernel
theorem dX8_wipe_8 : decode cX8_wipe 8 = .ok (.aload_n 0, 1) := by decide +kernel
theorem dX8_wipe_9 : decode cX8_wipe 9 = .ok (.getfield 22, 3) := by decide +kernel
theorem dX8_wipe_12 : decode cX8_wipe 12 = .ok (.iconst 0, 1) := by decide +kernel
theorem dX8_wipe_13 : decode cX8_wipe 13 = .ok (.putfield 72, 3) := by decide +kernel
theorem dX8_wipe_16 : decode cX8_wipe 16 = .ok (.iload_n 1, 1) := by decide +kernel
theorem dX8_wipe_17 : decode cX8_wipe 17 = .ok (.ireturn, 1) := by decide +kernel
theorem dX8_fault_0 : decode cX8_fault 0 = .ok (.aload_n 0, 1) := by decide +kernel
theorem dX8_fault_1 : decode cX8_fault 1 = .ok (.getfield 22, 3) := by decide +kernel
theorem dX8_fault_4 : decode cX8_fault 4 = .ok (.invokevirtual 76, 3) := by decide +kernel
theorem dX8_fault_7 : decode cX8_fault 7 = .ok (.ireturn, 1) := by decide +kernel
theorem dX8_sheet_0 : decode cX8_sheet 0 = .ok (.aload_n 0, 1) := by decide +kernel
theorem dX8_sheet_1 : decode cX8_sheet 1 = .ok (.getfield 22, 3) := by decide +kernel
theorem dX8_sheet_4 : decode cX8_sheet 4 = .ok (.invokevirtual 76, 3) := by decide +kernel
theorem dX8_sheet_7 : decode cX8_sheet 7 = .ok (.bipush (-9), 2) := by decide +kernel
theorem dX8_sheet_9 : decode cX8_sheet 9 = .ok (.if_icmp .eq 6, 3) := by decide +kernel
theorem dX8_sheet_12 : decode cX8_sheet 12 = .ok (.bipush (-3), 2) := by decide +kernel
theorem dX8_sheet_14 : decode cX8_sheet 14 = .ok (.ireturn, 1) := by decide +kernel
theorem dX8_sheet_15 : decode cX8_sheet 15 = .ok (.aload_n 0, 1) := by decide +kernel
theorem dX8_sheet_16 : decode cX8_sheet 16 = .ok (.getfield 10, 3) := by decide +kernel
theorem dX8_sheet_19 : decode cX8_sheet 19 = .ok (.getfield 80, 3) := by decide +kernel
theorem dX8_sheet_22 : decode cX8_sheet 22 = .ok (.aload_n 0, 1) := by decide +kernel
theorem dX8_sheet_23 : decode cX8_sheet 23 = .ok (.getfield 22, 3) := by decide +kernel
theorem dX8_sheet_26 : decode cX8_sheet 26 = .ok (.getfield 84, 3) := by decide +kernel
theorem dX8_sheet_29 : decode cX8_sheet 29 = .ok (.invokevirtual 87, 3) := by decide +kernel
theorem dX8_sheet_32 : decode cX8_sheet 32 = .ok (.aload_n 0, 1) := by decide +kernel
theorem dX8_sheet_33 : decode cX8_sheet 33 = .ok (.getfield 10, 3) := by decide +kernel
theorem dX8_sheet_36 : decode cX8_sheet 36 = .ok (.getfield 80, 3) := by decide +kernel
theorem dX8_sheet_39 : decode cX8_sheet 39 = .ok (.iconst (-1), 1) := by decide +kernel
theorem dX8_sheet_40 : decode cX8_sheet 40 = .ok (.putfield 91, 3) := by decide +kernel
theorem dX8_sheet_43 : decode cX8_sheet 43 = .ok (.aload_n 0, 1) := by decide +kernel
theorem dX8_sheet_44 : decode cX8_sheet 44 = .ok (.getfield 10, 3) := by decide +kernel
theorem dX8_sheet_47 : decode cX8_sheet 47 = .ok (.invokevirtual 65, 3) := by decide +kernel
theorem dX8_sheet_50 : decode cX8_sheet 50 = .ok (.aload_n 0, 1) := by decide +kernel
theorem dX8_sheet_51 : decode cX8_sheet 51 = .ok (.getfield 29, 3) := by decide +kernel
theorem dX8_sheet_54 : decode cX8_sheet 54 = .ok (.iconst 0, 1) := by decide +kernel
theorem dX8_sheet_55 : decode cX8_sheet 55 = .ok (.putfield 94, 3) := by decide +kernel
theorem dX8_sheet_58 : decode cX8_sheet 58 = .ok (.iconst 0, 1) := by decide +kernel
theorem dX8_sheet_59 : decode cX8_sheet 59 = .ok (.istore_n 1, 1) := by decide +kernel
theorem dX8_sheet_60 : decode cX8_sheet 60 = .ok (.iload_n 1, 1) := by decide +kernel
theorem dX8_sheet_61 : decode cX8_sheet 61 = .ok (.iconst 2, 1) := by decide +kernel
theorem dX8_sheet_62 : decode cX8_sheet 62 = .ok (.if_icmp .ge 16, 3) := by decide +kernel
theorem dX8_sheet_65 : decode cX8_sheet 65 = .ok (.aload_n 0, 1) := by decide +kernel
theorem dX8_sheet_66 : decode cX8_sheet 66 = .ok (.getfield 60, 3) := by decide +kernel
theorem dX8_sheet_69 : decode cX8_sheet 69 = .ok (.iload_n 1, 1) := by decide +kernel
theorem dX8_sheet_70 : decode cX8_sheet 70 = .ok (.iconst 0, 1) := by decide +kernel
theorem dX8_sheet_71 : decode cX8_sheet 71 = .ok (.bastore, 1) := by decide +kernel
theorem dX8_sheet_72 : decode cX8_sheet 72 = .ok (.iinc 1 1, 3) := by decide +kernel
theorem dX8_sheet_75 : decode cX8_sheet 75 = .ok (.goto (-15), 3) := by decide +kernel
theorem dX8_sheet_78 : decode cX8_sheet 78 = .ok (.aload_n 0, 1) := by decide +kernel
theorem dX8_sheet_79 : decode cX8_sheet 79 = .ok (.getfield 10, 3) := by decide +kernel
theorem dX8_sheet_82 : decode cX8_sheet 82 = .ok (.getfield 95, 3) := by decide +kernel
theorem dX8_sheet_85 : decode cX8_sheet 85 = .ok (.getfield 99, 3) := by decide +kernel
theorem dX8_sheet_88 : decode cX8_sheet 88 = .ok (.ireturn, 1) := by decide +kernel
theorem dX8_total_0 : decode cX8_total 0 = .ok (.iload_n 1, 1) := by decide +kernel
theorem dX8_total_1 : decode cX8_total 1 = .ok (.ifCond .eq 11, 3) := by decide +kernel
theorem dX8_total_4 : decode cX8_total 4 = .ok (.iload_n 1, 1) := by decide +kernel
theorem dX8_total_5 : decode cX8_total 5 = .ok (.iconst 1, 1) := by decide +kernel
theorem dX8_total_6 : decode cX8_total 6 = .ok (.if_icmp .eq 6, 3) := by decide +kernel
theorem dX8_total_9 : decode cX8_total 9 = .ok (.bipush (-2), 2) := by decide +kernel
theorem dX8_total_11 : decode cX8_total 11 = .ok (.ireturn, 1) := by decide +kernel
theorem dX8_total_12 : decode cX8_total 12 = .ok (.aload_n 0, 1) := by decide +kernel
theorem dX8_total_13 : decode cX8_total 13 = .ok (.getfield 10, 3) := by decide +kernel
theorem dX8_total_16 : decode cX8_total 16 = .ok (.getfield 80, 3) := by decide +kernel
theorem dX8_total_19 : decode cX8_total 19 = .ok (.iload_n 1, 1) := by decide +kernel
theorem dX8_total_20 : decode cX8_total 20 = .ok (.iload_n 2, 1) := by decide +kernel
theorem dX8_total_21 : decode cX8_total 21 = .ok (.invokevirtual 104, 3) := by decide +kernel
theorem dX8_total_24 : decode cX8_total 24 = .ok (.ifCond .eq 18, 3) := by decide +kernel
theorem dX8_total_27 : decode cX8_total 27 = .ok (.aload_n 0, 1) := by decide +kernel
theorem dX8_total_28 : decode cX8_total 28 = .ok (.getfield 10, 3) := by decide +kernel
theorem dX8_total_31 : decode cX8_total 31 = .ok (.getfield 80, 3) := by decide +kernel
theorem dX8_total_34 : decode cX8_total 34 = .ok (.iload_n 1, 1) := by decide +kernel
theorem dX8_total_35 : decode cX8_total 35 = .ok (.iload_n 2, 1) := by decide +kernel
theorem dX8_total_36 : decode cX8_total 36 = .ok (.invokevirtual 108, 3) := by decide +kernel
theorem dX8_total_39 : decode cX8_total 39 = .ok (.goto 4, 3) := by decide +kernel
theorem dX8_total_42 : decode cX8_total 42 = .ok (.iconst (-1), 1) := by decide +kernel
theorem dX8_total_43 : decode cX8_total 43 = .ok (.ireturn, 1) := by decide +kernel
theorem dX8_pin_0 : decode cX8_pin 0 = .ok (.aload_n 0, 1) := by decide +kernel
theorem dX8_pin_1 : decode cX8_pin 1 = .ok (.getfield 10, 3) := by decide +kernel
theorem dX8_pin_4 : decode cX8_pin 4 = .ok (.getfield 80, 3) := by decide +kernel
theorem dX8_pin_7 : decode cX8_pin 7 = .ok (.iload_n 1, 1) := by decide +kernel
theorem dX8_pin_8 : decode cX8_pin 8 = .ok (.invokevirtual 112, 3) := by decide +kernel
theorem dX8_pin_11 : decode cX8_pin 11 = .ok (.ifCond .eq 17, 3) := by decide +kernel
theorem dX8_pin_14 : decode cX8_pin 14 = .ok (.aload_n 0, 1) := by decide +kernel
theorem dX8_pin_15 : decode cX8_pin 15 = .ok (.getfield 10, 3) := by decide +kernel
theorem dX8_pin_18 : decode cX8_pin 18 = .ok (.getfield 80, 3) := by decide +kernel
theorem dX8_pin_21 : decode cX8_pin 21 = .ok (.iload_n 1, 1) := by decide +kernel
theorem dX8_pin_22 : decode cX8_pin 22 = .ok (.invokevirtual 115, 3) := by decide +kernel
theorem dX8_pin_25 : decode cX8_pin 25 = .ok (.goto 4, 3) := by decide +kernel
theorem dX8_pin_28 : decode cX8_pin 28 = .ok (.iconst (-1), 1) := by decide +kernel
theorem dX8_pin_29 : decode cX8_pin 29 = .ok (.ireturn, 1) := by decide +kernel
theorem dX8_test_0 : decode cX8_test 0 = .ok (.aload_n 0, 1) := by decide +kernel
theorem dX8_test_1 : decode cX8_test 1 = .ok (.getfield 36, 3) := by decide +kernel
theorem dX8_test_4 : decode cX8_test 4 = .ok (.aload_n 0, 1) := by decide +kernel
theorem dX8_test_5 : decode cX8_test 5 = .ok (.getfield 10, 3) := by decide +kernel
theorem dX8_test_8 : decode cX8_test 8 = .ok (.getfield 80, 3) := by decide +kernel
theorem dX8_test_11 : decode cX8_test 11 = .ok (.invokevirtual 119, 3) := by decide +kernel
theorem dX8_test_14 : decode cX8_test 14 = .ok (.ireturn, 1) := by decide +kernel
theorem dX8_filled_0 : decode cX8_filled 0 = .ok (.aload_n 0, 1) := by decide +kernel
theorem dX8_filled_1 : decode cX8_filled 1 = .ok (.getfield 10, 3) := by decide +kernel
theorem dX8_filled_4 : decode cX8_filled 4 = .ok (.getfield 80, 3) := by decide +kernel
theorem dX8_filled_7 : decode cX8_filled 7 = .ok (.iload_n 1, 1) := by decide +kernel
theorem dX8_filled_8 : decode cX8_filled 8 = .ok (.invokevirtual 112, 3) := by decide +kernel
theorem dX8_filled_11 : decode cX8_filled 11 = .ok (.ifCond .ne 5, 3) := by decide +kernel
theorem dX8_filled_14 : decode cX8_filled 14 = .ok (.iconst (-1), 1) := by decide +kernel
theorem dX8_filled_15 : decode cX8_filled 15 = .ok (.ireturn, 1) := by decide +kernel
theorem dX8_filled_16 : decode cX8_filled 16 = .ok (.aload_n 0, 1) := by decide +kernel
theorem dX8_filled_17 : decode cX8_filled 17 = .ok (.getfield 36, 3) := by decide +kernel
theorem dX8_filled_20 : decode cX8_filled 20 = .ok (.aload_n 0, 1) := by decide +kernel
theorem dX8_filled_21 : decode cX8_filled 21 = .ok (.getfield 10, 3) := by decide +kernel
theorem dX8_filled_24 : decode cX8_filled 24 = .ok (.getfield 80, 3) := by decide +kernel
theorem dX8_filled_27 : decode cX8_filled 27 = .ok (.invokevirtual 119, 3) := by decide +kernel
theorem dX8_filled_30 : decode cX8_filled 30 = .ok (.bipush (-9), 2) := by decide +kernel
theorem dX8_filled_32 : decode cX8_filled 32 = .ok (.if_icmp .eq 6, 3) := by decide +kernel
theorem dX8_filled_35 : decode cX8_filled 35 = .ok (.bipush (-3), 2) := by decide +kernel
theorem dX8_filled_37 : decode cX8_filled 37 = .ok (.ireturn, 1) := by decide +kernel
theorem dX8_filled_38 : decode cX8_filled 38 = .ok (.aload_n 0, 1) := by decide +kernel
theorem dX8_filled_39 : decode cX8_filled 39 = .ok (.getfield 36, 3) := by decide +kernel
theorem dX8_filled_42 : decode cX8_filled 42 = .ok (.aload_n 0, 1) := by decide +kernel
theorem dX8_filled_43 : decode cX8_filled 43 = .ok (.getfield 10, 3) := by decide +kernel
theorem dX8_filled_46 : decode cX8_filled 46 = .ok (.getfield 80, 3) := by decide +kernel
theorem dX8_filled_49 : decode cX8_filled 49 = .ok (.invokevirtual 123, 3) := by decide +kernel
theorem dX8_filled_52 : decode cX8_filled 52 = .ok (.iload_n 1, 1) := by decide +kernel
theorem dX8_filled_53 : decode cX8_filled 53 = .ok (.invokestatic 126, 3) := by decide +kernel
theorem dX8_filled_56 : decode cX8_filled 56 = .ok (.ireturn, 1) := by decide +kernel
theorem dX8_mended_0 : decode cX8_mended 0 = .ok (.iload_n 1, 1) := by decide +kernel
theorem dX8_mended_1 : decode cX8_mended 1 = .ok (.ifCond .eq 11, 3) := by decide +kernel
theorem dX8_mended_4 : decode cX8_mended 4 = .ok (.iload_n 1, 1) := by decide +kernel
theorem dX8_mended_5 : decode cX8_mended 5 = .ok (.iconst 1, 1) := by decide +kernel
theorem dX8_mended_6 : decode cX8_mended 6 = .ok (.if_icmp .eq 6, 3) := by decide +kernel
theorem dX8_mended_9 : decode cX8_mended 9 = .ok (.bipush (-2), 2) := by decide +kernel
theorem dX8_mended_11 : decode cX8_mended 11 = .ok (.ireturn, 1) := by decide +kernel
theorem dX8_mended_12 : decode cX8_mended 12 = .ok (.aload_n 0, 1) := by decide +kernel
theorem dX8_mended_13 : decode cX8_mended 13 = .ok (.getfield 36, 3) := by decide +kernel
theorem dX8_mended_16 : decode cX8_mended 16 = .ok (.aload_n 0, 1) := by decide +kernel
theorem dX8_mended_17 : decode cX8_mended 17 = .ok (.getfield 10, 3) := by decide +kernel
theorem dX8_mended_20 : decode cX8_mended 20 = .ok (.getfield 80, 3) := by decide +kernel
theorem dX8_mended_23 : decode cX8_mended 23 = .ok (.invokevirtual 119, 3) := by decide +kernel
theorem dX8_mended_26 : decode cX8_mended 26 = .ok (.bipush (-9), 2) := by decide +kernel
theorem dX8_mended_28 : decode cX8_mended 28 = .ok (.if_icmp .ne 14, 3) := by decide +kernel
theorem dX8_mended_31 : decode cX8_mended 31 = .ok (.iload_n 1, 1) := by decide +kernel
theorem dX8_mended_32 : decode cX8_mended 32 = .ok (.ifCond .ne 7, 3) := by decide +kernel
theorem dX8_mended_35 : decode cX8_mended 35 = .ok (.iconst 0, 1) := by decide +kernel
theorem dX8_mended_36 : decode cX8_mended 36 = .ok (.goto 5, 3) := by decide +kernel
theorem dX8_mended_39 : decode cX8_mended 39 = .ok (.bipush (-9), 2) := by decide +kernel
theorem dX8_mended_41 : decode cX8_mended 41 = .ok (.ireturn, 1) := by decide +kernel
theorem dX8_mended_42 : decode cX8_mended 42 = .ok (.aload_n 0, 1) := by decide +kernel
theorem dX8_mended_43 : decode cX8_mended 43 = .ok (.getfield 16, 3) := by decide +kernel
theorem dX8_mended_46 : decode cX8_mended 46 = .ok (.getfield 80, 3) := by decide +kernel
theorem dX8_mended_49 : decode cX8_mended 49 = .ok (.aload_n 0, 1) := by decide +kernel
theorem dX8_mended_50 : decode cX8_mended 50 = .ok (.getfield 10, 3) := by decide +kernel
theorem dX8_mended_53 : decode cX8_mended 53 = .ok (.getfield 80, 3) := by decide +kernel
theorem dX8_mended_56 : decode cX8_mended 56 = .ok (.invokevirtual 87, 3) := by decide +kernel
theorem dX8_mended_59 : decode cX8_mended 59 = .ok (.iconst 0, 1) := by decide +kernel
theorem dX8_mended_60 : decode cX8_mended 60 = .ok (.istore_n 2, 1) := by decide +kernel
theorem dX8_mended_61 : decode cX8_mended 61 = .ok (.bipush (-9), 2) := by decide +kernel
theorem dX8_mended_63 : decode cX8_mended 63 = .ok (.istore_n 3, 1) := by decide +kernel
theorem dX8_mended_64 : decode cX8_mended 64 = .ok (.iconst 0, 1) := by decide +kernel
theorem dX8_mended_65 : decode cX8_mended 65 = .ok (.istore 4, 2) := by decide +kernel
theorem dX8_mended_67 : decode cX8_mended 67 = .ok (.iload 4, 2) := by decide +kernel
theorem dX8_mended_69 : decode cX8_mended 69 = .ok (.iconst 1, 1) := by decide +kernel
theorem dX8_mended_70 : decode cX8_mended 70 = .ok (.if_icmp .gt 156, 3) := by decide +kernel
theorem dX8_mended_73 : decode cX8_mended 73 = .ok (.iconst 0, 1) := by decide +kernel
theorem dX8_mended_74 : decode cX8_mended 74 = .ok (.istore 5, 2) := by decide +kernel
theorem dX8_mended_76 : decode cX8_mended 76 = .ok (.iload 5, 2) := by decide +kernel
theorem dX8_mended_78 : decode cX8_mended 78 = .ok (.aload_n 0, 1) := by decide +kernel
theorem dX8_mended_79 : decode cX8_mended 79 = .ok (.getfield 16, 3) := by decide +kernel
theorem dX8_mended_82 : decode cX8_mended 82 = .ok (.getfield 80, 3) := by decide +kernel
theorem dX8_mended_85 : decode cX8_mended 85 = .ok (.iload 4, 2) := by decide +kernel
theorem dX8_mended_87 : decode cX8_mended 87 = .ok (.invokevirtual 129, 3) := by decide +kernel
theorem dX8_mended_90 : decode cX8_mended 90 = .ok (.if_icmp .ge 130, 3) := by decide +kernel
theorem dX8_mended_93 : decode cX8_mended 93 = .ok (.aload_n 0, 1) := by decide +kernel
theorem dX8_mended_94 : decode cX8_mended 94 = .ok (.getfield 16, 3) := by decide +kernel
theorem dX8_mended_97 : decode cX8_mended 97 = .ok (.getfield 80, 3) := by decide +kernel
theorem dX8_mended_100 : decode cX8_mended 100 = .ok (.iload 4, 2) := by decide +kernel
theorem dX8_mended_102 : decode cX8_mended 102 = .ok (.iload 5, 2) := by decide +kernel
theorem dX8_mended_104 : decode cX8_mended 104 = .ok (.invokevirtual 108, 3) := by decide +kernel
theorem dX8_mended_107 : decode cX8_mended 107 = .ok (.istore 6, 2) := by decide +kernel
theorem dX8_mended_109 : decode cX8_mended 109 = .ok (.iconst 0, 1) := by decide +kernel
theorem dX8_mended_110 : decode cX8_mended 110 = .ok (.istore 7, 2) := by decide +kernel
theorem dX8_mended_112 : decode cX8_mended 112 = .ok (.iload 7, 2) := by decide +kernel
theorem dX8_mended_114 : decode cX8_mended 114 = .ok (.aload_n 0, 1) := by decide +kernel
theorem dX8_mended_115 : decode cX8_mended 115 = .ok (.getfield 16, 3) := by decide +kernel
theorem dX8_mended_118 : decode cX8_mended 118 = .ok (.getfield 80, 3) := by decide +kernel
theorem dX8_mended_121 : decode cX8_mended 121 = .ok (.iload 4, 2) := by decide +kernel
theorem dX8_mended_123 : decode cX8_mended 123 = .ok (.invokevirtual 132, 3) := by decide +kernel
theorem dX8_mended_126 : decode cX8_mended 126 = .ok (.if_icmp .gt 72, 3) := by decide +kernel
theorem dX8_mended_129 : decode cX8_mended 129 = .ok (.aload_n 0, 1) := by decide +kernel
theorem dX8_mended_130 : decode cX8_mended 130 = .ok (.getfield 16, 3) := by decide +kernel
theorem dX8_mended_133 : decode cX8_mended 133 = .ok (.getfield 80, 3) := by decide +kernel
theorem dX8_mended_136 : decode cX8_mended 136 = .ok (.iload 4, 2) := by decide +kernel
theorem dX8_mended_138 : decode cX8_mended 138 = .ok (.iload 5, 2) := by decide +kernel
theorem dX8_mended_140 : decode cX8_mended 140 = .ok (.iload 7, 2) := by decide +kernel
theorem dX8_mended_142 : decode cX8_mended 142 = .ok (.invokevirtual 135, 3) := by decide +kernel
theorem dX8_mended_145 : decode cX8_mended 145 = .ok (.aload_n 0, 1) := by decide +kernel
theorem dX8_mended_146 : decode cX8_mended 146 = .ok (.getfield 36, 3) := by decide +kernel
theorem dX8_mended_149 : decode cX8_mended 149 = .ok (.aload_n 0, 1) := by decide +kernel
theorem dX8_mended_150 : decode cX8_mended 150 = .ok (.getfield 16, 3) := by decide +kernel
theorem dX8_mended_153 : decode cX8_mended 153 = .ok (.getfield 80, 3) := by decide +kernel
theorem dX8_mended_156 : decode cX8_mended 156 = .ok (.invokevirtual 119, 3) := by decide +kernel
theorem dX8_mended_159 : decode cX8_mended 159 = .ok (.bipush (-9), 2) := by decide +kernel
theorem dX8_mended_161 : decode cX8_mended 161 = .ok (.if_icmp .ne 31, 3) := by decide +kernel
theorem dX8_mended_164 : decode cX8_mended 164 = .ok (.iinc 2 1, 3) := by decide +kernel
theorem dX8_mended_167 : decode cX8_mended 167 = .ok (.iload_n 3, 1) := by decide +kernel
theorem dX8_mended_168 : decode cX8_mended 168 = .ok (.bipush (-9), 2) := by decide +kernel
theorem dX8_mended_170 : decode cX8_mended 170 = .ok (.if_icmp .ne 20, 3) := by decide +kernel
theorem dX8_mended_173 : decode cX8_mended 173 = .ok (.bipush 100, 2) := by decide +kernel
theorem dX8_mended_175 : decode cX8_mended 175 = .ok (.iload 4, 2) := by decide +kernel
theorem dX8_mended_177 : decode cX8_mended 177 = .ok (.imul, 1) := by decide +kernel
theorem dX8_mended_178 : decode cX8_mended 178 = .ok (.bipush 10, 2) := by decide +kernel
theorem dX8_mended_180 : decode cX8_mended 180 = .ok (.iload 5, 2) := by decide +kernel
theorem dX8_mended_182 : decode cX8_mended 182 = .ok (.imul, 1) := by decide +kernel
theorem dX8_mended_183 : decode cX8_mended 183 = .ok (.iadd, 1) := by decide +kernel
theorem dX8_mended_184 : decode cX8_mended 184 = .ok (.iload 7, 2) := by decide +kernel
theorem dX8_mended_186 : decode cX8_mended 186 = .ok (.iadd, 1) := by decide +kernel
theorem dX8_mended_187 : decode cX8_mended 187 = .ok (.goto 4, 3) := by decide +kernel
theorem dX8_mended_190 : decode cX8_mended 190 = .ok (.iload_n 3, 1) := by decide +kernel
theorem dX8_mended_191 : decode cX8_mended 191 = .ok (.istore_n 3, 1) := by decide +kernel
theorem dX8_mended_192 : decode cX8_mended 192 = .ok (.iinc 7 1, 3) := by decide +kernel
theorem dX8_mended_195 : decode cX8_mended 195 = .ok (.goto (-83), 3) := by decide +kernel
theorem dX8_mended_198 : decode cX8_mended 198 = .ok (.aload_n 0, 1) := by decide +kernel
theorem dX8_mended_199 : decode cX8_mended 199 = .ok (.getfield 16, 3) := by decide +kernel
theorem dX8_mended_202 : decode cX8_mended 202 = .ok (.getfield 80, 3) := by decide +kernel
theorem dX8_mended_205 : decode cX8_mended 205 = .ok (.iload 4, 2) := by decide +kernel
theorem dX8_mended_207 : decode cX8_mended 207 = .ok (.iload 5, 2) := by decide +kernel
theorem dX8_mended_209 : decode cX8_mended 209 = .ok (.iload 6, 2) := by decide +kernel
theorem dX8_mended_211 : decode cX8_mended 211 = .ok (.invokevirtual 135, 3) := by decide +kernel
theorem dX8_mended_214 : decode cX8_mended 214 = .ok (.iinc 5 1, 3) := by decide +kernel
theorem dX8_mended_217 : decode cX8_mended 217 = .ok (.goto (-141), 3) := by decide +kernel
theorem dX8_mended_220 : decode cX8_mended 220 = .ok (.iinc 4 1, 3) := by decide +kernel
theorem dX8_mended_223 : decode cX8_mended 223 = .ok (.goto (-156), 3) := by decide +kernel
theorem dX8_mended_226 : decode cX8_mended 226 = .ok (.iload_n 1, 1) := by decide +kernel
theorem dX8_mended_227 : decode cX8_mended 227 = .ok (.ifCond .ne 7, 3) := by decide +kernel
theorem dX8_mended_230 : decode cX8_mended 230 = .ok (.iload_n 2, 1) := by decide +kernel
theorem dX8_mended_231 : decode cX8_mended 231 = .ok (.goto 4, 3) := by decide +kernel
theorem dX8_mended_234 : decode cX8_mended 234 = .ok (.iload_n 3, 1) := by decide +kernel
theorem dX8_mended_235 : decode cX8_mended 235 = .ok (.ireturn, 1) := by decide +kernel
theorem dX8_answers_0 : decode cX8_answers 0 = .ok (.aload_n 0, 1) := by decide +kernel
theorem dX8_answers_1 : decode cX8_answers 1 = .ok (.getfield 10, 3) := by decide +kernel
theorem dX8_answers_4 : decode cX8_answers 4 = .ok (.getfield 95, 3) := by decide +kernel
theorem dX8_answers_7 : decode cX8_answers 7 = .ok (.getfield 99, 3) := by decide +kernel
theorem dX8_answers_10 : decode cX8_answers 10 = .ok (.ireturn, 1) := by decide +kernel
theorem dX8_cell_0 : decode cX8_cell 0 = .ok (.aload_n 0, 1) := by decide +kernel
theorem dX8_cell_1 : decode cX8_cell 1 = .ok (.getfield 10, 3) := by decide +kernel
theorem dX8_cell_4 : decode cX8_cell 4 = .ok (.getfield 80, 3) := by decide +kernel
theorem dX8_cell_7 : decode cX8_cell 7 = .ok (.iload_n 1, 1) := by decide +kernel
theorem dX8_cell_8 : decode cX8_cell 8 = .ok (.invokevirtual 112, 3) := by decide +kernel
theorem dX8_cell_11 : decode cX8_cell 11 = .ok (.ifCond .ne 5, 3) := by decide +kernel
theorem dX8_cell_14 : decode cX8_cell 14 = .ok (.iconst (-1), 1) := by decide +kernel
theorem dX8_cell_15 : decode cX8_cell 15 = .ok (.ireturn, 1) := by decide +kernel
theorem dX8_cell_16 : decode cX8_cell 16 = .ok (.iload_n 2, 1) := by decide +kernel
theorem dX8_cell_17 : decode cX8_cell 17 = .ok (.tableswitch 60 0 2 #[27, 36, 48], 27) := by decide +kernel
theorem dX8_cell_44 : decode cX8_cell 44 = .ok (.aload_n 0, 1) := by decide +kernel
theorem dX8_cell_45 : decode cX8_cell 45 = .ok (.getfield 10, 3) := by decide +kernel
theorem dX8_cell_48 : decode cX8_cell 48 = .ok (.iload_n 1, 1) := by decide +kernel
theorem dX8_cell_49 : decode cX8_cell 49 = .ok (.invokevirtual 139, 3) := by decide +kernel
theorem dX8_cell_52 : decode cX8_cell 52 = .ok (.ireturn, 1) := by decide +kernel
theorem dX8_cell_53 : decode cX8_cell 53 = .ok (.aload_n 0, 1) := by decide +kernel
theorem dX8_cell_54 : decode cX8_cell 54 = .ok (.getfield 10, 3) := by decide +kernel
theorem dX8_cell_57 : decode cX8_cell 57 = .ok (.getfield 95, 3) := by decide +kernel
theorem dX8_cell_60 : decode cX8_cell 60 = .ok (.iload_n 1, 1) := by decide +kernel
theorem dX8_cell_61 : decode cX8_cell 61 = .ok (.invokevirtual 142, 3) := by decide +kernel
theorem dX8_cell_64 : decode cX8_cell 64 = .ok (.ireturn, 1) := by decide +kernel
theorem dX8_cell_65 : decode cX8_cell 65 = .ok (.aload_n 0, 1) := by decide +kernel
theorem dX8_cell_66 : decode cX8_cell 66 = .ok (.getfield 10, 3) := by decide +kernel
theorem dX8_cell_69 : decode cX8_cell 69 = .ok (.getfield 95, 3) := by decide +kernel
theorem dX8_cell_72 : decode cX8_cell 72 = .ok (.iload_n 1, 1) := by decide +kernel
theorem dX8_cell_73 : decode cX8_cell 73 = .ok (.invokevirtual 145, 3) := by decide +kernel
theorem dX8_cell_76 : decode cX8_cell 76 = .ok (.ireturn, 1) := by decide +kernel
theorem dX8_cell_77 : decode cX8_cell 77 = .ok (.bipush (-2), 2) := by decide +kernel
theorem dX8_cell_79 : decode cX8_cell 79 = .ok (.ireturn, 1) := by decide +kernel
theorem dX8_odds_0 : decode cX8_odds 0 = .ok (.aload_n 0, 1) := by decide +kernel
theorem dX8_odds_1 : decode cX8_odds 1 = .ok (.getfield 10, 3) := by decide +kernel
theorem dX8_odds_4 : decode cX8_odds 4 = .ok (.getfield 80, 3) := by decide +kernel
theorem dX8_odds_7 : decode cX8_odds 7 = .ok (.iload_n 1, 1) := by decide +kernel
theorem dX8_odds_8 : decode cX8_odds 8 = .ok (.invokevirtual 112, 3) := by decide +kernel
theorem dX8_odds_11 : decode cX8_odds 11 = .ok (.ifCond .ne 5, 3) := by decide +kernel
theorem dX8_odds_14 : decode cX8_odds 14 = .ok (.iconst (-1), 1) := by decide +kernel
theorem dX8_odds_15 : decode cX8_odds 15 = .ok (.ireturn, 1) := by decide +kernel
theorem dX8_odds_16 : decode cX8_odds 16 = .ok (.aload_n 0, 1) := by decide +kernel
theorem dX8_odds_17 : decode cX8_odds 17 = .ok (.getfield 10, 3) := by decide +kernel
theorem dX8_odds_20 : decode cX8_odds 20 = .ok (.getfield 95, 3) := by decide +kernel
theorem dX8_odds_23 : decode cX8_odds 23 = .ok (.getfield 99, 3) := by decide +kernel
theorem dX8_odds_26 : decode cX8_odds 26 = .ok (.ifCond .ne 6, 3) := by decide +kernel
theorem dX8_odds_29 : decode cX8_odds 29 = .ok (.bipush (-3), 2) := by decide +kernel
theorem dX8_odds_31 : decode cX8_odds 31 = .ok (.ireturn, 1) := by decide +kernel
theorem dX8_odds_32 : decode cX8_odds 32 = .ok (.aload_n 0, 1) := by decide +kernel
theorem dX8_odds_33 : decode cX8_odds 33 = .ok (.getfield 10, 3) := by decide +kernel
theorem dX8_odds_36 : decode cX8_odds 36 = .ok (.getfield 95, 3) := by decide +kernel
theorem dX8_odds_39 : decode cX8_odds 39 = .ok (.iload_n 1, 1) := by decide +kernel
theorem dX8_odds_40 : decode cX8_odds 40 = .ok (.invokevirtual 145, 3) := by decide +kernel
theorem dX8_odds_43 : decode cX8_odds 43 = .ok (.aload_n 0, 1) := by decide +kernel
theorem dX8_odds_44 : decode cX8_odds 44 = .ok (.getfield 10, 3) := by decide +kernel
theorem dX8_odds_47 : decode cX8_odds 47 = .ok (.getfield 95, 3) := by decide +kernel
theorem dX8_odds_50 : decode cX8_odds 50 = .ok (.getfield 99, 3) := by decide +kernel
theorem dX8_odds_53 : decode cX8_odds 53 = .ok (.iload_n 2, 1) := by decide +kernel
theorem dX8_odds_54 : decode cX8_odds 54 = .ok (.invokestatic 148, 3) := by decide +kernel
theorem dX8_odds_57 : decode cX8_odds 57 = .ok (.ireturn, 1) := by decide +kernel
theorem dX8_ask_0 : decode cX8_ask 0 = .ok (.iload_n 1, 1) := by decide +kernel
theorem dX8_ask_1 : decode cX8_ask 1 = .ok (.ifCond .eq 11, 3) := by decide +kernel
theorem dX8_ask_4 : decode cX8_ask 4 = .ok (.iload_n 1, 1) := by decide +kernel
theorem dX8_ask_5 : decode cX8_ask 5 = .ok (.iconst 1, 1) := by decide +kernel
theorem dX8_ask_6 : decode cX8_ask 6 = .ok (.if_icmp .eq 6, 3) := by decide +kernel
theorem dX8_ask_9 : decode cX8_ask 9 = .ok (.bipush (-2), 2) := by decide +kernel
theorem dX8_ask_11 : decode cX8_ask 11 = .ok (.ireturn, 1) := by decide +kernel
theorem dX8_ask_12 : decode cX8_ask 12 = .ok (.bipush (-9), 2) := by decide +kernel
theorem dX8_ask_14 : decode cX8_ask 14 = .ok (.istore_n 2, 1) := by decide +kernel
theorem dX8_ask_15 : decode cX8_ask 15 = .ok (.bipush (-9), 2) := by decide +kernel
theorem dX8_ask_17 : decode cX8_ask 17 = .ok (.istore_n 3, 1) := by decide +kernel
theorem dX8_ask_18 : decode cX8_ask 18 = .ok (.iconst 0, 1) := by decide +kernel
theorem dX8_ask_19 : decode cX8_ask 19 = .ok (.istore 4, 2) := by decide +kernel
theorem dX8_ask_21 : decode cX8_ask 21 = .ok (.iload 4, 2) := by decide +kernel
theorem dX8_ask_23 : decode cX8_ask 23 = .ok (.aload_n 0, 1) := by decide +kernel
theorem dX8_ask_24 : decode cX8_ask 24 = .ok (.getfield 10, 3) := by decide +kernel
theorem dX8_ask_27 : decode cX8_ask 27 = .ok (.getfield 80, 3) := by decide +kernel
theorem dX8_ask_30 : decode cX8_ask 30 = .ok (.invokevirtual 152, 3) := by decide +kernel
theorem dX8_ask_33 : decode cX8_ask 33 = .ok (.if_icmp .ge 77, 3) := by decide +kernel
theorem dX8_ask_36 : decode cX8_ask 36 = .ok (.aload_n 0, 1) := by decide +kernel
theorem dX8_ask_37 : decode cX8_ask 37 = .ok (.getfield 10, 3) := by decide +kernel
theorem dX8_ask_40 : decode cX8_ask 40 = .ok (.getfield 95, 3) := by decide +kernel
theorem dX8_ask_43 : decode cX8_ask 43 = .ok (.iload 4, 2) := by decide +kernel
theorem dX8_ask_45 : decode cX8_ask 45 = .ok (.invokevirtual 142, 3) := by decide +kernel
theorem dX8_ask_48 : decode cX8_ask 48 = .ok (.iconst 2, 1) := by decide +kernel
theorem dX8_ask_49 : decode cX8_ask 49 = .ok (.if_icmp .ne 55, 3) := by decide +kernel
theorem dX8_ask_52 : decode cX8_ask 52 = .ok (.aload_n 0, 1) := by decide +kernel
theorem dX8_ask_53 : decode cX8_ask 53 = .ok (.getfield 10, 3) := by decide +kernel
theorem dX8_ask_56 : decode cX8_ask 56 = .ok (.getfield 95, 3) := by decide +kernel
theorem dX8_ask_59 : decode cX8_ask 59 = .ok (.iload 4, 2) := by decide +kernel
theorem dX8_ask_61 : decode cX8_ask 61 = .ok (.invokevirtual 145, 3) := by decide +kernel
theorem dX8_ask_64 : decode cX8_ask 64 = .ok (.istore 5, 2) := by decide +kernel
theorem dX8_ask_66 : decode cX8_ask 66 = .ok (.iload 5, 2) := by decide +kernel
theorem dX8_ask_68 : decode cX8_ask 68 = .ok (.aload_n 0, 1) := by decide +kernel
theorem dX8_ask_69 : decode cX8_ask 69 = .ok (.getfield 10, 3) := by decide +kernel
theorem dX8_ask_72 : decode cX8_ask 72 = .ok (.getfield 95, 3) := by decide +kernel
theorem dX8_ask_75 : decode cX8_ask 75 = .ok (.getfield 99, 3) := by decide +kernel
theorem dX8_ask_78 : decode cX8_ask 78 = .ok (.iload 5, 2) := by decide +kernel
theorem dX8_ask_80 : decode cX8_ask 80 = .ok (.isub, 1) := by decide +kernel
theorem dX8_ask_81 : decode cX8_ask 81 = .ok (.invokestatic 155, 3) := by decide +kernel
theorem dX8_ask_84 : decode cX8_ask 84 = .ok (.istore 6, 2) := by decide +kernel
theorem dX8_ask_86 : decode cX8_ask 86 = .ok (.iload_n 2, 1) := by decide +kernel
theorem dX8_ask_87 : decode cX8_ask 87 = .ok (.bipush (-9), 2) := by decide +kernel
theorem dX8_ask_89 : decode cX8_ask 89 = .ok (.if_icmp .eq 9, 3) := by decide +kernel
theorem dX8_ask_92 : decode cX8_ask 92 = .ok (.iload 6, 2) := by decide +kernel
theorem dX8_ask_94 : decode cX8_ask 94 = .ok (.iload_n 3, 1) := by decide +kernel
theorem dX8_ask_95 : decode cX8_ask 95 = .ok (.if_icmp .ge 9, 3) := by decide +kernel
theorem dX8_ask_98 : decode cX8_ask 98 = .ok (.iload 4, 2) := by decide +kernel
theorem dX8_ask_100 : decode cX8_ask 100 = .ok (.istore_n 2, 1) := by decide +kernel
theorem dX8_ask_101 : decode cX8_ask 101 = .ok (.iload 6, 2) := by decide +kernel
theorem dX8_ask_103 : decode cX8_ask 103 = .ok (.istore_n 3, 1) := by decide +kernel
theorem dX8_ask_104 : decode cX8_ask 104 = .ok (.iinc 4 1, 3) := by decide +kernel
theorem dX8_ask_107 : decode cX8_ask 107 = .ok (.goto (-86), 3) := by decide +kernel
theorem dX8_ask_110 : decode cX8_ask 110 = .ok (.iload_n 1, 1) := by decide +kernel
theorem dX8_ask_111 : decode cX8_ask 111 = .ok (.ifCond .ne 7, 3) := by decide +kernel
theorem dX8_ask_114 : decode cX8_ask 114 = .ok (.iload_n 2, 1) := by decide +kernel
theorem dX8_ask_115 : decode cX8_ask 115 = .ok (.goto 4, 3) := by decide +kernel
theorem dX8_ask_118 : decode cX8_ask 118 = .ok (.iload_n 3, 1) := by decide +kernel
theorem dX8_ask_119 : decode cX8_ask 119 = .ok (.ireturn, 1) := by decide +kernel
theorem dX8_plane_0 : decode cX8_plane 0 = .ok (.aload_n 0, 1) := by decide +kernel
theorem dX8_plane_1 : decode cX8_plane 1 = .ok (.getfield 10, 3) := by decide +kernel
theorem dX8_plane_4 : decode cX8_plane 4 = .ok (.getfield 95, 3) := by decide +kernel
theorem dX8_plane_7 : decode cX8_plane 7 = .ok (.aload_n 0, 1) := by decide +kernel
theorem dX8_plane_8 : decode cX8_plane 8 = .ok (.getfield 10, 3) := by decide +kernel
theorem dX8_plane_11 : decode cX8_plane 11 = .ok (.getfield 80, 3) := by decide +kernel
theorem dX8_plane_14 : decode cX8_plane 14 = .ok (.getfield 91, 3) := by decide +kernel
theorem dX8_plane_17 : decode cX8_plane 17 = .ok (.invokevirtual 160, 3) := by decide +kernel
theorem dX8_plane_20 : decode cX8_plane 20 = .ok (.ireturn, 1) := by decide +kernel
theorem dX8_go_0 : decode cX8_go 0 = .ok (.iload_n 1, 1) := by decide +kernel
theorem dX8_go_1 : decode cX8_go 1 = .ok (.ifCond .lt 17, 3) := by decide +kernel
theorem dX8_go_4 : decode cX8_go 4 = .ok (.iload_n 1, 1) := by decide +kernel
theorem dX8_go_5 : decode cX8_go 5 = .ok (.aload_n 0, 1) := by decide +kernel
theorem dX8_go_6 : decode cX8_go 6 = .ok (.getfield 10, 3) := by decide +kernel
theorem dX8_go_9 : decode cX8_go 9 = .ok (.getfield 95, 3) := by decide +kernel
theorem dX8_go_12 : decode cX8_go 12 = .ok (.getfield 99, 3) := by decide +kernel
theorem dX8_go_15 : decode cX8_go 15 = .ok (.if_icmp .lt 5, 3) := by decide +kernel
theorem dX8_go_18 : decode cX8_go 18 = .ok (.iconst (-1), 1) := by decide +kernel
theorem dX8_go_19 : decode cX8_go 19 = .ok (.ireturn, 1) := by decide +kernel
theorem dX8_go_20 : decode cX8_go 20 = .ok (.aload_n 0, 1) := by decide +kernel
theorem dX8_go_21 : decode cX8_go 21 = .ok (.getfield 10, 3) := by decide +kernel
theorem dX8_go_24 : decode cX8_go 24 = .ok (.getfield 80, 3) := by decide +kernel
theorem dX8_go_27 : decode cX8_go 27 = .ok (.getfield 91, 3) := by decide +kernel
theorem dX8_go_30 : decode cX8_go 30 = .ok (.istore_n 2, 1) := by decide +kernel
theorem dX8_go_31 : decode cX8_go 31 = .ok (.aload_n 0, 1) := by decide +kernel
theorem dX8_go_32 : decode cX8_go 32 = .ok (.getfield 29, 3) := by decide +kernel
theorem dX8_go_35 : decode cX8_go 35 = .ok (.aload_n 0, 1) := by decide +kernel
theorem dX8_go_36 : decode cX8_go 36 = .ok (.getfield 10, 3) := by decide +kernel
theorem dX8_go_39 : decode cX8_go 39 = .ok (.getfield 80, 3) := by decide +kernel
theorem dX8_go_42 : decode cX8_go 42 = .ok (.invokevirtual 163, 3) := by decide +kernel
theorem dX8_go_45 : decode cX8_go 45 = .ok (.aload_n 0, 1) := by decide +kernel
theorem dX8_go_46 : decode cX8_go 46 = .ok (.getfield 10, 3) := by decide +kernel
theorem dX8_go_49 : decode cX8_go 49 = .ok (.getfield 80, 3) := by decide +kernel
theorem dX8_go_52 : decode cX8_go 52 = .ok (.aload_n 0, 1) := by decide +kernel
theorem dX8_go_53 : decode cX8_go 53 = .ok (.getfield 10, 3) := by decide +kernel
theorem dX8_go_56 : decode cX8_go 56 = .ok (.getfield 95, 3) := by decide +kernel
theorem dX8_go_59 : decode cX8_go 59 = .ok (.getfield 166, 3) := by decide +kernel
theorem dX8_go_62 : decode cX8_go 62 = .ok (.iload_n 1, 1) := by decide +kernel
theorem dX8_go_63 : decode cX8_go 63 = .ok (.iaload, 1) := by decide +kernel
theorem dX8_go_64 : decode cX8_go 64 = .ok (.putfield 91, 3) := by decide +kernel
theorem dX8_go_67 : decode cX8_go 67 = .ok (.iload_n 2, 1) := by decide +kernel
theorem dX8_go_68 : decode cX8_go 68 = .ok (.aload_n 0, 1) := by decide +kernel
theorem dX8_go_69 : decode cX8_go 69 = .ok (.getfield 10, 3) := by decide +kernel
theorem dX8_go_72 : decode cX8_go 72 = .ok (.getfield 80, 3) := by decide +kernel
theorem dX8_go_75 : decode cX8_go 75 = .ok (.getfield 91, 3) := by decide +kernel
theorem dX8_go_78 : decode cX8_go 78 = .ok (.ixor, 1) := by decide +kernel
theorem dX8_go_79 : decode cX8_go 79 = .ok (.invokestatic 170, 3) := by decide +kernel
theorem dX8_go_82 : decode cX8_go 82 = .ok (.ireturn, 1) := by decide +kernel
theorem dX8_swap_0 : decode cX8_swap 0 = .ok (.aload_n 0, 1) := by decide +kernel
theorem dX8_swap_1 : decode cX8_swap 1 = .ok (.getfield 10, 3) := by decide +kernel
theorem dX8_swap_4 : decode cX8_swap 4 = .ok (.iload_n 1, 1) := by decide +kernel
theorem dX8_swap_5 : decode cX8_swap 5 = .ok (.iload_n 2, 1) := by decide +kernel
theorem dX8_swap_6 : decode cX8_swap 6 = .ok (.iload_n 3, 1) := by decide +kernel
theorem dX8_swap_7 : decode cX8_swap 7 = .ok (.iload 4, 2) := by decide +kernel
theorem dX8_swap_9 : decode cX8_swap 9 = .ok (.invokevirtual 175, 3) := by decide +kernel
theorem dX8_swap_12 : decode cX8_swap 12 = .ok (.istore 5, 2) := by decide +kernel
theorem dX8_swap_14 : decode cX8_swap 14 = .ok (.iload 5, 2) := by decide +kernel
theorem dX8_swap_16 : decode cX8_swap 16 = .ok (.ifCond .eq 6, 3) := by decide +kernel
theorem dX8_swap_19 : decode cX8_swap 19 = .ok (.iload 5, 2) := by decide +kernel
theorem dX8_swap_21 : decode cX8_swap 21 = .ok (.ireturn, 1) := by decide +kernel
theorem dX8_swap_22 : decode cX8_swap 22 = .ok (.aload_n 0, 1) := by decide +kernel
theorem dX8_swap_23 : decode cX8_swap 23 = .ok (.getfield 29, 3) := by decide +kernel
theorem dX8_swap_26 : decode cX8_swap 26 = .ok (.aload_n 0, 1) := by decide +kernel
theorem dX8_swap_27 : decode cX8_swap 27 = .ok (.getfield 10, 3) := by decide +kernel
theorem dX8_swap_30 : decode cX8_swap 30 = .ok (.getfield 80, 3) := by decide +kernel
theorem dX8_swap_33 : decode cX8_swap 33 = .ok (.invokevirtual 163, 3) := by decide +kernel
theorem dX8_swap_36 : decode cX8_swap 36 = .ok (.aload_n 0, 1) := by decide +kernel
theorem dX8_swap_37 : decode cX8_swap 37 = .ok (.getfield 10, 3) := by decide +kernel
theorem dX8_swap_40 : decode cX8_swap 40 = .ok (.iload_n 1, 1) := by decide +kernel
theorem dX8_swap_41 : decode cX8_swap 41 = .ok (.iload_n 2, 1) := by decide +kernel
theorem dX8_swap_42 : decode cX8_swap 42 = .ok (.iload_n 3, 1) := by decide +kernel
theorem dX8_swap_43 : decode cX8_swap 43 = .ok (.iload 4, 2) := by decide +kernel
theorem dX8_swap_45 : decode cX8_swap 45 = .ok (.invokevirtual 179, 3) := by decide +kernel
theorem dX8_swap_48 : decode cX8_swap 48 = .ok (.aload_n 0, 1) := by decide +kernel
theorem dX8_swap_49 : decode cX8_swap 49 = .ok (.getfield 10, 3) := by decide +kernel
theorem dX8_swap_52 : decode cX8_swap 52 = .ok (.getfield 80, 3) := by decide +kernel
theorem dX8_swap_55 : decode cX8_swap 55 = .ok (.invokevirtual 183, 3) := by decide +kernel
theorem dX8_swap_58 : decode cX8_swap 58 = .ok (.ireturn, 1) := by decide +kernel
theorem dX8_setTotal_0 : decode cX8_setTotal 0 = .ok (.aload_n 0, 1) := by decide +kernel
theorem dX8_setTotal_1 : decode cX8_setTotal 1 = .ok (.getfield 10, 3) := by decide +kernel
theorem dX8_setTotal_4 : decode cX8_setTotal 4 = .ok (.iload_n 1, 1) := by decide +kernel
theorem dX8_setTotal_5 : decode cX8_setTotal 5 = .ok (.iload_n 2, 1) := by decide +kernel
theorem dX8_setTotal_6 : decode cX8_setTotal 6 = .ok (.iload_n 3, 1) := by decide +kernel
theorem dX8_setTotal_7 : decode cX8_setTotal 7 = .ok (.invokevirtual 186, 3) := by decide +kernel
theorem dX8_setTotal_10 : decode cX8_setTotal 10 = .ok (.istore 4, 2) := by decide +kernel
theorem dX8_setTotal_12 : decode cX8_setTotal 12 = .ok (.iload 4, 2) := by decide +kernel
theorem dX8_setTotal_14 : decode cX8_setTotal 14 = .ok (.ifCond .eq 6, 3) := by decide +kernel
theorem dX8_setTotal_17 : decode cX8_setTotal 17 = .ok (.iload 4, 2) := by decide +kernel
theorem dX8_setTotal_19 : decode cX8_setTotal 19 = .ok (.ireturn, 1) := by decide +kernel
theorem dX8_setTotal_20 : decode cX8_setTotal 20 = .ok (.aload_n 0, 1) := by decide +kernel
theorem dX8_setTotal_21 : decode cX8_setTotal 21 = .ok (.getfield 29, 3) := by decide +kernel
theorem dX8_setTotal_24 : decode cX8_setTotal 24 = .ok (.aload_n 0, 1) := by decide +kernel
theorem dX8_setTotal_25 : decode cX8_setTotal 25 = .ok (.getfield 10, 3) := by decide +kernel
theorem dX8_setTotal_28 : decode cX8_setTotal 28 = .ok (.getfield 80, 3) := by decide +kernel
theorem dX8_setTotal_31 : decode cX8_setTotal 31 = .ok (.invokevirtual 163, 3) := by decide +kernel
theorem dX8_setTotal_34 : decode cX8_setTotal 34 = .ok (.aload_n 0, 1) := by decide +kernel
theorem dX8_setTotal_35 : decode cX8_setTotal 35 = .ok (.getfield 10, 3) := by decide +kernel
theorem dX8_setTotal_38 : decode cX8_setTotal 38 = .ok (.getfield 80, 3) := by decide +kernel
theorem dX8_setTotal_41 : decode cX8_setTotal 41 = .ok (.iload_n 1, 1) := by decide +kernel
theorem dX8_setTotal_42 : decode cX8_setTotal 42 = .ok (.iload_n 2, 1) := by decide +kernel
theorem dX8_setTotal_43 : decode cX8_setTotal 43 = .ok (.iload_n 3, 1) := by decide +kernel
theorem dX8_setTotal_44 : decode cX8_setTotal 44 = .ok (.invokevirtual 135, 3) := by decide +kernel
theorem dX8_setTotal_47 : decode cX8_setTotal 47 = .ok (.aload_n 0, 1) := by decide +kernel
theorem dX8_setTotal_48 : decode cX8_setTotal 48 = .ok (.getfield 10, 3) := by decide +kernel
theorem dX8_setTotal_51 : decode cX8_setTotal 51 = .ok (.invokevirtual 65, 3) := by decide +kernel
theorem dX8_setTotal_54 : decode cX8_setTotal 54 = .ok (.aload_n 0, 1) := by decide +kernel
theorem dX8_setTotal_55 : decode cX8_setTotal 55 = .ok (.getfield 10, 3) := by decide +kernel
theorem dX8_setTotal_58 : decode cX8_setTotal 58 = .ok (.getfield 95, 3) := by decide +kernel
theorem dX8_setTotal_61 : decode cX8_setTotal 61 = .ok (.getfield 99, 3) := by decide +kernel
theorem dX8_setTotal_64 : decode cX8_setTotal 64 = .ok (.ireturn, 1) := by decide +kernel
theorem dX8_setPin_0 : decode cX8_setPin 0 = .ok (.aload_n 0, 1) := by decide +kernel
theorem dX8_setPin_1 : decode cX8_setPin 1 = .ok (.getfield 10, 3) := by decide +kernel
theorem dX8_setPin_4 : decode cX8_setPin 4 = .ok (.iload_n 1, 1) := by decide +kernel
theorem dX8_setPin_5 : decode cX8_setPin 5 = .ok (.iload_n 2, 1) := by decide +kernel
theorem dX8_setPin_6 : decode cX8_setPin 6 = .ok (.invokevirtual 190, 3) := by decide +kernel
theorem dX8_setPin_9 : decode cX8_setPin 9 = .ok (.istore_n 3, 1) := by decide +kernel
theorem dX8_setPin_10 : decode cX8_setPin 10 = .ok (.iload_n 3, 1) := by decide +kernel
theorem dX8_setPin_11 : decode cX8_setPin 11 = .ok (.ifCond .eq 5, 3) := by decide +kernel
theorem dX8_setPin_14 : decode cX8_setPin 14 = .ok (.iload_n 3, 1) := by decide +kernel
theorem dX8_setPin_15 : decode cX8_setPin 15 = .ok (.ireturn, 1) := by decide +kernel
theorem dX8_setPin_16 : decode cX8_setPin 16 = .ok (.aload_n 0, 1) := by decide +kernel
theorem dX8_setPin_17 : decode cX8_setPin 17 = .ok (.getfield 29, 3) := by decide +kernel
theorem dX8_setPin_20 : decode cX8_setPin 20 = .ok (.aload_n 0, 1) := by decide +kernel
theorem dX8_setPin_21 : decode cX8_setPin 21 = .ok (.getfield 10, 3) := by decide +kernel
theorem dX8_setPin_24 : decode cX8_setPin 24 = .ok (.getfield 80, 3) := by decide +kernel
theorem dX8_setPin_27 : decode cX8_setPin 27 = .ok (.invokevirtual 163, 3) := by decide +kernel
theorem dX8_setPin_30 : decode cX8_setPin 30 = .ok (.aload_n 0, 1) := by decide +kernel
theorem dX8_setPin_31 : decode cX8_setPin 31 = .ok (.getfield 10, 3) := by decide +kernel
theorem dX8_setPin_34 : decode cX8_setPin 34 = .ok (.getfield 80, 3) := by decide +kernel
theorem dX8_setPin_37 : decode cX8_setPin 37 = .ok (.iload_n 1, 1) := by decide +kernel
theorem dX8_setPin_38 : decode cX8_setPin 38 = .ok (.iload_n 2, 1) := by decide +kernel
theorem dX8_setPin_39 : decode cX8_setPin 39 = .ok (.invokevirtual 193, 3) := by decide +kernel
theorem dX8_setPin_42 : decode cX8_setPin 42 = .ok (.aload_n 0, 1) := by decide +kernel
theorem dX8_setPin_43 : decode cX8_setPin 43 = .ok (.getfield 10, 3) := by decide +kernel
theorem dX8_setPin_46 : decode cX8_setPin 46 = .ok (.invokevirtual 65, 3) := by decide +kernel
theorem dX8_setPin_49 : decode cX8_setPin 49 = .ok (.aload_n 0, 1) := by decide +kernel
theorem dX8_setPin_50 : decode cX8_setPin 50 = .ok (.getfield 10, 3) := by decide +kernel
theorem dX8_setPin_53 : decode cX8_setPin 53 = .ok (.getfield 95, 3) := by decide +kernel
theorem dX8_setPin_56 : decode cX8_setPin 56 = .ok (.getfield 99, 3) := by decide +kernel
theorem dX8_setPin_59 : decode cX8_setPin 59 = .ok (.ireturn, 1) := by decide +kernel
theorem dX8_undo_0 : decode cX8_undo 0 = .ok (.aload_n 0, 1) := by decide +kernel
theorem dX8_undo_1 : decode cX8_undo 1 = .ok (.getfield 29, 3) := by decide +kernel
theorem dX8_undo_4 : decode cX8_undo 4 = .ok (.getfield 94, 3) := by decide +kernel
theorem dX8_undo_7 : decode cX8_undo 7 = .ok (.ifCond .ne 6, 3) := by decide +kernel
theorem dX8_undo_10 : decode cX8_undo 10 = .ok (.bipush (-3), 2) := by decide +kernel
theorem dX8_undo_12 : decode cX8_undo 12 = .ok (.ireturn, 1) := by decide +kernel
theorem dX8_undo_13 : decode cX8_undo 13 = .ok (.aload_n 0, 1) := by decide +kernel
theorem dX8_undo_14 : decode cX8_undo 14 = .ok (.getfield 29, 3) := by decide +kernel
theorem dX8_undo_17 : decode cX8_undo 17 = .ok (.aload_n 0, 1) := by decide +kernel
theorem dX8_undo_18 : decode cX8_undo 18 = .ok (.getfield 10, 3) := by decide +kernel
theorem dX8_undo_21 : decode cX8_undo 21 = .ok (.getfield 80, 3) := by decide +kernel
theorem dX8_undo_24 : decode cX8_undo 24 = .ok (.invokevirtual 197, 3) := by decide +kernel
theorem dX8_undo_27 : decode cX8_undo 27 = .ok (.aload_n 0, 1) := by decide +kernel
theorem dX8_undo_28 : decode cX8_undo 28 = .ok (.getfield 10, 3) := by decide +kernel
theorem dX8_undo_31 : decode cX8_undo 31 = .ok (.invokevirtual 65, 3) := by decide +kernel
theorem dX8_undo_34 : decode cX8_undo 34 = .ok (.aload_n 0, 1) := by decide +kernel
theorem dX8_undo_35 : decode cX8_undo 35 = .ok (.getfield 29, 3) := by decide +kernel
theorem dX8_undo_38 : decode cX8_undo 38 = .ok (.getfield 94, 3) := by decide +kernel
theorem dX8_undo_41 : decode cX8_undo 41 = .ok (.ireturn, 1) := by decide +kernel
theorem dX8_switches_0 : decode cX8_switches 0 = .ok (.iload_n 1, 1) := by decide +kernel
theorem dX8_switches_1 : decode cX8_switches 1 = .ok (.ifCond .eq 11, 3) := by decide +kernel
theorem dX8_switches_4 : decode cX8_switches 4 = .ok (.iload_n 1, 1) := by decide +kernel
theorem dX8_switches_5 : decode cX8_switches 5 = .ok (.iconst 1, 1) := by decide +kernel
theorem dX8_switches_6 : decode cX8_switches 6 = .ok (.if_icmp .eq 6, 3) := by decide +kernel
theorem dX8_switches_9 : decode cX8_switches 9 = .ok (.bipush (-2), 2) := by decide +kernel
theorem dX8_switches_11 : decode cX8_switches 11 = .ok (.ireturn, 1) := by decide +kernel
theorem dX8_switches_12 : decode cX8_switches 12 = .ok (.iload_n 1, 1) := by decide +kernel
theorem dX8_switches_13 : decode cX8_switches 13 = .ok (.ifCond .ne 16, 3) := by decide +kernel
theorem dX8_switches_16 : decode cX8_switches 16 = .ok (.aload_n 0, 1) := by decide +kernel
theorem dX8_switches_17 : decode cX8_switches 17 = .ok (.getfield 10, 3) := by decide +kernel
theorem dX8_switches_20 : decode cX8_switches 20 = .ok (.getfield 80, 3) := by decide +kernel
theorem dX8_switches_23 : decode cX8_switches 23 = .ok (.invokevirtual 183, 3) := by decide +kernel
theorem dX8_switches_26 : decode cX8_switches 26 = .ok (.goto 13, 3) := by decide +kernel
theorem dX8_switches_29 : decode cX8_switches 29 = .ok (.aload_n 0, 1) := by decide +kernel
theorem dX8_switches_30 : decode cX8_switches 30 = .ok (.getfield 10, 3) := by decide +kernel
theorem dX8_switches_33 : decode cX8_switches 33 = .ok (.getfield 80, 3) := by decide +kernel
theorem dX8_switches_36 : decode cX8_switches 36 = .ok (.invokevirtual 200, 3) := by decide +kernel
theorem dX8_switches_39 : decode cX8_switches 39 = .ok (.ireturn, 1) := by decide +kernel
theorem dX8_reached_0 : decode cX8_reached 0 = .ok (.aload_n 0, 1) := by decide +kernel
theorem dX8_reached_1 : decode cX8_reached 1 = .ok (.getfield 43, 3) := by decide +kernel
theorem dX8_reached_4 : decode cX8_reached 4 = .ok (.aload_n 0, 1) := by decide +kernel
theorem dX8_reached_5 : decode cX8_reached 5 = .ok (.getfield 10, 3) := by decide +kernel
theorem dX8_reached_8 : decode cX8_reached 8 = .ok (.invokevirtual 203, 3) := by decide +kernel
theorem dX8_reached_11 : decode cX8_reached 11 = .ok (.aload_n 0, 1) := by decide +kernel
theorem dX8_reached_12 : decode cX8_reached 12 = .ok (.getfield 43, 3) := by decide +kernel
theorem dX8_reached_15 : decode cX8_reached 15 = .ok (.getfield 207, 3) := by decide +kernel
theorem dX8_reached_18 : decode cX8_reached 18 = .ok (.ireturn, 1) := by decide +kernel
theorem dX8_apart_0 : decode cX8_apart 0 = .ok (.iload_n 1, 1) := by decide +kernel
theorem dX8_apart_1 : decode cX8_apart 1 = .ok (.ifCond .lt 8, 3) := by decide +kernel
theorem dX8_apart_4 : decode cX8_apart 4 = .ok (.iload_n 1, 1) := by decide +kernel
theorem dX8_apart_5 : decode cX8_apart 5 = .ok (.iconst 2, 1) := by decide +kernel
theorem dX8_apart_6 : decode cX8_apart 6 = .ok (.if_icmp .lt 5, 3) := by decide +kernel
theorem dX8_apart_9 : decode cX8_apart 9 = .ok (.iconst (-1), 1) := by decide +kernel
theorem dX8_apart_10 : decode cX8_apart 10 = .ok (.ireturn, 1) := by decide +kernel
theorem dX8_apart_11 : decode cX8_apart 11 = .ok (.aload_n 0, 1) := by decide +kernel
theorem dX8_apart_12 : decode cX8_apart 12 = .ok (.getfield 60, 3) := by decide +kernel
theorem dX8_apart_15 : decode cX8_apart 15 = .ok (.iload_n 1, 1) := by decide +kernel
theorem dX8_apart_16 : decode cX8_apart 16 = .ok (.baload, 1) := by decide +kernel
theorem dX8_apart_17 : decode cX8_apart 17 = .ok (.ifCond .ne 6, 3) := by decide +kernel
theorem dX8_apart_20 : decode cX8_apart 20 = .ok (.bipush (-3), 2) := by decide +kernel
theorem dX8_apart_22 : decode cX8_apart 22 = .ok (.ireturn, 1) := by decide +kernel
theorem dX8_apart_23 : decode cX8_apart 23 = .ok (.aload_n 0, 1) := by decide +kernel
theorem dX8_apart_24 : decode cX8_apart 24 = .ok (.getfield 56, 3) := by decide +kernel
theorem dX8_apart_27 : decode cX8_apart 27 = .ok (.iload_n 1, 1) := by decide +kernel
theorem dX8_apart_28 : decode cX8_apart 28 = .ok (.aaload, 1) := by decide +kernel
theorem dX8_apart_29 : decode cX8_apart 29 = .ok (.astore_n 2, 1) := by decide +kernel
theorem dX8_apart_30 : decode cX8_apart 30 = .ok (.aload_n 2, 1) := by decide +kernel
theorem dX8_apart_31 : decode cX8_apart 31 = .ok (.getfield 210, 3) := by decide +kernel
theorem dX8_apart_34 : decode cX8_apart 34 = .ok (.aload_n 0, 1) := by decide +kernel
theorem dX8_apart_35 : decode cX8_apart 35 = .ok (.getfield 10, 3) := by decide +kernel
theorem dX8_apart_38 : decode cX8_apart 38 = .ok (.getfield 80, 3) := by decide +kernel
theorem dX8_apart_41 : decode cX8_apart 41 = .ok (.getfield 210, 3) := by decide +kernel
theorem dX8_apart_44 : decode cX8_apart 44 = .ok (.if_icmp .ne 20, 3) := by decide +kernel
theorem dX8_apart_47 : decode cX8_apart 47 = .ok (.aload_n 2, 1) := by decide +kernel
theorem dX8_apart_48 : decode cX8_apart 48 = .ok (.getfield 213, 3) := by decide +kernel
theorem dX8_apart_51 : decode cX8_apart 51 = .ok (.aload_n 0, 1) := by decide +kernel
theorem dX8_apart_52 : decode cX8_apart 52 = .ok (.getfield 10, 3) := by decide +kernel
theorem dX8_apart_55 : decode cX8_apart 55 = .ok (.getfield 80, 3) := by decide +kernel
theorem dX8_apart_58 : decode cX8_apart 58 = .ok (.getfield 213, 3) := by decide +kernel
theorem dX8_apart_61 : decode cX8_apart 61 = .ok (.if_icmp .eq 6, 3) := by decide +kernel
theorem dX8_apart_64 : decode cX8_apart 64 = .ok (.bipush (-9), 2) := by decide +kernel
theorem dX8_apart_66 : decode cX8_apart 66 = .ok (.ireturn, 1) := by decide +kernel
theorem dX8_apart_67 : decode cX8_apart 67 = .ok (.aload_n 0, 1) := by decide +kernel
theorem dX8_apart_68 : decode cX8_apart 68 = .ok (.getfield 43, 3) := by decide +kernel
theorem dX8_apart_71 : decode cX8_apart 71 = .ok (.aload_n 0, 1) := by decide +kernel
theorem dX8_apart_72 : decode cX8_apart 72 = .ok (.getfield 10, 3) := by decide +kernel
theorem dX8_apart_75 : decode cX8_apart 75 = .ok (.invokevirtual 203, 3) := by decide +kernel
theorem dX8_apart_78 : decode cX8_apart 78 = .ok (.aload_n 0, 1) := by decide +kernel
theorem dX8_apart_79 : decode cX8_apart 79 = .ok (.getfield 43, 3) := by decide +kernel
theorem dX8_apart_82 : decode cX8_apart 82 = .ok (.aload_n 0, 1) := by decide +kernel
theorem dX8_apart_83 : decode cX8_apart 83 = .ok (.getfield 10, 3) := by decide +kernel
theorem dX8_apart_86 : decode cX8_apart 86 = .ok (.getfield 95, 3) := by decide +kernel
theorem dX8_apart_89 : decode cX8_apart 89 = .ok (.aload_n 2, 1) := by decide +kernel
theorem dX8_apart_90 : decode cX8_apart 90 = .ok (.getfield 91, 3) := by decide +kernel
theorem dX8_apart_93 : decode cX8_apart 93 = .ok (.invokevirtual 160, 3) := by decide +kernel
theorem dX8_apart_96 : decode cX8_apart 96 = .ok (.invokevirtual 216, 3) := by decide +kernel
theorem dX8_apart_99 : decode cX8_apart 99 = .ok (.ireturn, 1) := by decide +kernel
theorem dX8_key_0 : decode cX8_key 0 = .ok (.iload_n 1, 1) := by decide +kernel
theorem dX8_key_1 : decode cX8_key 1 = .ok (.ifCond .eq 11, 3) := by decide +kernel
theorem dX8_key_4 : decode cX8_key 4 = .ok (.iload_n 1, 1) := by decide +kernel
theorem dX8_key_5 : decode cX8_key 5 = .ok (.iconst 1, 1) := by decide +kernel
theorem dX8_key_6 : decode cX8_key 6 = .ok (.if_icmp .eq 6, 3) := by decide +kernel
theorem dX8_key_9 : decode cX8_key 9 = .ok (.bipush (-2), 2) := by decide +kernel
theorem dX8_key_11 : decode cX8_key 11 = .ok (.ireturn, 1) := by decide +kernel
theorem dX8_key_12 : decode cX8_key 12 = .ok (.aload_n 0, 1) := by decide +kernel
theorem dX8_key_13 : decode cX8_key 13 = .ok (.getfield 10, 3) := by decide +kernel
theorem dX8_key_16 : decode cX8_key 16 = .ok (.invokevirtual 219, 3) := by decide +kernel
theorem dX8_key_19 : decode cX8_key 19 = .ok (.istore_n 2, 1) := by decide +kernel
theorem dX8_key_20 : decode cX8_key 20 = .ok (.iload_n 2, 1) := by decide +kernel
theorem dX8_key_21 : decode cX8_key 21 = .ok (.bipush (-9), 2) := by decide +kernel
theorem dX8_key_23 : decode cX8_key 23 = .ok (.if_icmp .eq 8, 3) := by decide +kernel
theorem dX8_key_26 : decode cX8_key 26 = .ok (.iload_n 1, 1) := by decide +kernel
theorem dX8_key_27 : decode cX8_key 27 = .ok (.iconst 1, 1) := by decide +kernel
theorem dX8_key_28 : decode cX8_key 28 = .ok (.if_icmp .ne 5, 3) := by decide +kernel
theorem dX8_key_31 : decode cX8_key 31 = .ok (.iload_n 2, 1) := by decide +kernel
theorem dX8_key_32 : decode cX8_key 32 = .ok (.ireturn, 1) := by decide +kernel
theorem dX8_key_33 : decode cX8_key 33 = .ok (.iconst 0, 1) := by decide +kernel
theorem dX8_key_34 : decode cX8_key 34 = .ok (.istore_n 3, 1) := by decide +kernel
theorem dX8_key_35 : decode cX8_key 35 = .ok (.iload_n 2, 1) := by decide +kernel
theorem dX8_key_36 : decode cX8_key 36 = .ok (.istore 4, 2) := by decide +kernel
theorem dX8_key_38 : decode cX8_key 38 = .ok (.iload 4, 2) := by decide +kernel
theorem dX8_key_40 : decode cX8_key 40 = .ok (.ifCond .le 16, 3) := by decide +kernel
theorem dX8_key_43 : decode cX8_key 43 = .ok (.iinc 3 1, 3) := by decide +kernel
theorem dX8_key_46 : decode cX8_key 46 = .ok (.iload 4, 2) := by decide +kernel
theorem dX8_key_48 : decode cX8_key 48 = .ok (.bipush 100, 2) := by decide +kernel
theorem dX8_key_50 : decode cX8_key 50 = .ok (.idiv, 1) := by decide +kernel
theorem dX8_key_51 : decode cX8_key 51 = .ok (.istore 4, 2) := by decide +kernel
theorem dX8_key_53 : decode cX8_key 53 = .ok (.goto (-15), 3) := by decide +kernel
theorem dX8_key_56 : decode cX8_key 56 = .ok (.iload_n 3, 1) := by decide +kernel
theorem dX8_key_57 : decode cX8_key 57 = .ok (.ireturn, 1) := by decide +kernel
theorem dX8_judge_0 : decode cX8_judge 0 = .ok (.iload_n 1, 1) := by decide +kernel
theorem dX8_judge_1 : decode cX8_judge 1 = .ok (.iconst 1, 1) := by decide +kernel
theorem dX8_judge_2 : decode cX8_judge 2 = .ok (.if_icmp .lt 24, 3) := by decide +kernel
theorem dX8_judge_5 : decode cX8_judge 5 = .ok (.iload_n 1, 1) := by decide +kernel
theorem dX8_judge_6 : decode cX8_judge 6 = .ok (.iconst 3, 1) := by decide +kernel
theorem dX8_judge_7 : decode cX8_judge 7 = .ok (.if_icmp .gt 19, 3) := by decide +kernel
theorem dX8_judge_10 : decode cX8_judge 10 = .ok (.lload_n 2, 1) := by decide +kernel
theorem dX8_judge_11 : decode cX8_judge 11 = .ok (.lconst 0, 1) := by decide +kernel
theorem dX8_judge_12 : decode cX8_judge 12 = .ok (.lcmp, 1) := by decide +kernel
theorem dX8_judge_13 : decode cX8_judge 13 = .ok (.ifCond .lt 13, 3) := by decide +kernel
theorem dX8_judge_16 : decode cX8_judge 16 = .ok (.lload_n 2, 1) := by decide +kernel
theorem dX8_judge_17 : decode cX8_judge 17 = .ok (.getstatic 222, 3) := by decide +kernel
theorem dX8_judge_20 : decode cX8_judge 20 = .ok (.iload_n 1, 1) := by decide +kernel
theorem dX8_judge_21 : decode cX8_judge 21 = .ok (.laload, 1) := by decide +kernel
theorem dX8_judge_22 : decode cX8_judge 22 = .ok (.lcmp, 1) := by decide +kernel
theorem dX8_judge_23 : decode cX8_judge 23 = .ok (.ifCond .lt 6, 3) := by decide +kernel
theorem dX8_judge_26 : decode cX8_judge 26 = .ok (.bipush (-2), 2) := by decide +kernel
theorem dX8_judge_28 : decode cX8_judge 28 = .ok (.ireturn, 1) := by decide +kernel
theorem dX8_judge_29 : decode cX8_judge 29 = .ok (.aload_n 0, 1) := by decide +kernel
theorem dX8_judge_30 : decode cX8_judge 30 = .ok (.getfield 16, 3) := by decide +kernel
theorem dX8_judge_33 : decode cX8_judge 33 = .ok (.getfield 80, 3) := by decide +kernel
theorem dX8_judge_36 : decode cX8_judge 36 = .ok (.aload_n 0, 1) := by decide +kernel
theorem dX8_judge_37 : decode cX8_judge 37 = .ok (.getfield 10, 3) := by decide +kernel
theorem dX8_judge_40 : decode cX8_judge 40 = .ok (.getfield 80, 3) := by decide +kernel
theorem dX8_judge_43 : decode cX8_judge 43 = .ok (.invokevirtual 87, 3) := by decide +kernel
theorem dX8_judge_46 : decode cX8_judge 46 = .ok (.aload_n 0, 1) := by decide +kernel
theorem dX8_judge_47 : decode cX8_judge 47 = .ok (.getfield 16, 3) := by decide +kernel
theorem dX8_judge_50 : decode cX8_judge 50 = .ok (.invokevirtual 65, 3) := by decide +kernel
theorem dX8_judge_53 : decode cX8_judge 53 = .ok (.iconst 0, 1) := by decide +kernel
theorem dX8_judge_54 : decode cX8_judge 54 = .ok (.istore 4, 2) := by decide +kernel
theorem dX8_judge_56 : decode cX8_judge 56 = .ok (.iload 4, 2) := by decide +kernel
theorem dX8_judge_58 : decode cX8_judge 58 = .ok (.iload_n 1, 1) := by decide +kernel
theorem dX8_judge_59 : decode cX8_judge 59 = .ok (.if_icmp .ge 49, 3) := by decide +kernel
theorem dX8_judge_62 : decode cX8_judge 62 = .ok (.getstatic 222, 3) := by decide +kernel
theorem dX8_judge_65 : decode cX8_judge 65 = .ok (.iload_n 1, 1) := by decide +kernel
theorem dX8_judge_66 : decode cX8_judge 66 = .ok (.iconst 1, 1) := by decide +kernel
theorem dX8_judge_67 : decode cX8_judge 67 = .ok (.isub, 1) := by decide +kernel
theorem dX8_judge_68 : decode cX8_judge 68 = .ok (.iload 4, 2) := by decide +kernel
theorem dX8_judge_70 : decode cX8_judge 70 = .ok (.isub, 1) := by decide +kernel
theorem dX8_judge_71 : decode cX8_judge 71 = .ok (.laload, 1) := by decide +kernel
theorem dX8_judge_72 : decode cX8_judge 72 = .ok (.lstore 5, 2) := by decide +kernel
theorem dX8_judge_74 : decode cX8_judge 74 = .ok (.lload_n 2, 1) := by decide +kernel
theorem dX8_judge_75 : decode cX8_judge 75 = .ok (.lload 5, 2) := by decide +kernel
theorem dX8_judge_77 : decode cX8_judge 77 = .ok (.ldiv, 1) := by decide +kernel
theorem dX8_judge_78 : decode cX8_judge 78 = .ok (.getstatic 222, 3) := by decide +kernel
theorem dX8_judge_81 : decode cX8_judge 81 = .ok (.iconst 1, 1) := by decide +kernel
theorem dX8_judge_82 : decode cX8_judge 82 = .ok (.laload, 1) := by decide +kernel
theorem dX8_judge_83 : decode cX8_judge 83 = .ok (.lrem, 1) := by decide +kernel
theorem dX8_judge_84 : decode cX8_judge 84 = .ok (.l2i, 1) := by decide +kernel
theorem dX8_judge_85 : decode cX8_judge 85 = .ok (.istore 7, 2) := by decide +kernel
theorem dX8_judge_87 : decode cX8_judge 87 = .ok (.aload_n 0, 1) := by decide +kernel
theorem dX8_judge_88 : decode cX8_judge 88 = .ok (.getfield 16, 3) := by decide +kernel
theorem dX8_judge_91 : decode cX8_judge 91 = .ok (.iload 7, 2) := by decide +kernel
theorem dX8_judge_93 : decode cX8_judge 93 = .ok (.invokevirtual 226, 3) := by decide +kernel
theorem dX8_judge_96 : decode cX8_judge 96 = .ok (.ifCond .ne 6, 3) := by decide +kernel
theorem dX8_judge_99 : decode cX8_judge 99 = .ok (.iload 4, 2) := by decide +kernel
theorem dX8_judge_101 : decode cX8_judge 101 = .ok (.ireturn, 1) := by decide +kernel
theorem dX8_judge_102 : decode cX8_judge 102 = .ok (.iinc 4 1, 3) := by decide +kernel
theorem dX8_judge_105 : decode cX8_judge 105 = .ok (.goto (-49), 3) := by decide +kernel
theorem dX8_judge_108 : decode cX8_judge 108 = .ok (.bipush (-9), 2) := by decide +kernel
theorem dX8_judge_110 : decode cX8_judge 110 = .ok (.ireturn, 1) := by decide +kernel
theorem dX8_see_0 : decode cX8_see 0 = .ok (.iload_n 1, 1) := by decide +kernel
theorem dX8_see_1 : decode cX8_see 1 = .ok (.ifCond .lt 18, 3) := by decide +kernel
theorem dX8_see_4 : decode cX8_see 4 = .ok (.iload_n 1, 1) := by decide +kernel
theorem dX8_see_5 : decode cX8_see 5 = .ok (.bipush 20, 2) := by decide +kernel
theorem dX8_see_7 : decode cX8_see 7 = .ok (.if_icmp .ge 12, 3) := by decide +kernel
theorem dX8_see_10 : decode cX8_see 10 = .ok (.iload_n 2, 1) := by decide +kernel
theorem dX8_see_11 : decode cX8_see 11 = .ok (.ifCond .eq 11, 3) := by decide +kernel
theorem dX8_see_14 : decode cX8_see 14 = .ok (.iload_n 2, 1) := by decide +kernel
theorem dX8_see_15 : decode cX8_see 15 = .ok (.iconst 1, 1) := by decide +kernel
theorem dX8_see_16 : decode cX8_see 16 = .ok (.if_icmp .eq 6, 3) := by decide +kernel
theorem dX8_see_19 : decode cX8_see 19 = .ok (.bipush (-2), 2) := by decide +kernel
theorem dX8_see_21 : decode cX8_see 21 = .ok (.ireturn, 1) := by decide +kernel
theorem dX8_see_22 : decode cX8_see 22 = .ok (.aload_n 0, 1) := by decide +kernel
theorem dX8_see_23 : decode cX8_see 23 = .ok (.getfield 229, 3) := by decide +kernel
theorem dX8_see_26 : decode cX8_see 26 = .ok (.bipush 6, 2) := by decide +kernel
theorem dX8_see_28 : decode cX8_see 28 = .ok (.if_icmp .lt 6, 3) := by decide +kernel
theorem dX8_see_31 : decode cX8_see 31 = .ok (.bipush (-4), 2) := by decide +kernel
theorem dX8_see_33 : decode cX8_see 33 = .ok (.ireturn, 1) := by decide +kernel
theorem dX8_see_34 : decode cX8_see 34 = .ok (.iload_n 2, 1) := by decide +kernel
theorem dX8_see_35 : decode cX8_see 35 = .ok (.iconst 1, 1) := by decide +kernel
theorem dX8_see_36 : decode cX8_see 36 = .ok (.if_icmp .ne 19, 3) := by decide +kernel
theorem dX8_see_39 : decode cX8_see 39 = .ok (.aload_n 0, 1) := by decide +kernel
theorem dX8_see_40 : decode cX8_see 40 = .ok (.dup, 1) := by decide +kernel
theorem dX8_see_41 : decode cX8_see 41 = .ok (.getfield 232, 3) := by decide +kernel
theorem dX8_see_44 : decode cX8_see 44 = .ok (.iload_n 1, 1) := by decide +kernel
theorem dX8_see_45 : decode cX8_see 45 = .ok (.invokestatic 235, 3) := by decide +kernel
theorem dX8_see_48 : decode cX8_see 48 = .ok (.ior, 1) := by decide +kernel
theorem dX8_see_49 : decode cX8_see 49 = .ok (.putfield 232, 3) := by decide +kernel
theorem dX8_see_52 : decode cX8_see 52 = .ok (.goto 16, 3) := by decide +kernel
theorem dX8_see_55 : decode cX8_see 55 = .ok (.aload_n 0, 1) := by decide +kernel
theorem dX8_see_56 : decode cX8_see 56 = .ok (.dup, 1) := by decide +kernel
theorem dX8_see_57 : decode cX8_see 57 = .ok (.getfield 238, 3) := by decide +kernel
theorem dX8_see_60 : decode cX8_see 60 = .ok (.iload_n 1, 1) := by decide +kernel
theorem dX8_see_61 : decode cX8_see 61 = .ok (.invokestatic 235, 3) := by decide +kernel
theorem dX8_see_64 : decode cX8_see 64 = .ok (.ior, 1) := by decide +kernel
theorem dX8_see_65 : decode cX8_see 65 = .ok (.putfield 238, 3) := by decide +kernel
theorem dX8_see_68 : decode cX8_see 68 = .ok (.aload_n 0, 1) := by decide +kernel
theorem dX8_see_69 : decode cX8_see 69 = .ok (.dup, 1) := by decide +kernel
theorem dX8_see_70 : decode cX8_see 70 = .ok (.getfield 229, 3) := by decide +kernel
theorem dX8_see_73 : decode cX8_see 73 = .ok (.iconst 1, 1) := by decide +kernel
theorem dX8_see_74 : decode cX8_see 74 = .ok (.iadd, 1) := by decide +kernel
theorem dX8_see_75 : decode cX8_see 75 = .ok (.putfield 229, 3) := by decide +kernel
theorem dX8_see_78 : decode cX8_see 78 = .ok (.aload_n 0, 1) := by decide +kernel
theorem dX8_see_79 : decode cX8_see 79 = .ok (.getfield 229, 3) := by decide +kernel
theorem dX8_see_82 : decode cX8_see 82 = .ok (.ireturn, 1) := by decide +kernel
theorem dX8_unsee_0 : decode cX8_unsee 0 = .ok (.aload_n 0, 1) := by decide +kernel
theorem dX8_unsee_1 : decode cX8_unsee 1 = .ok (.getfield 229, 3) := by decide +kernel
theorem dX8_unsee_4 : decode cX8_unsee 4 = .ok (.istore_n 1, 1) := by decide +kernel
theorem dX8_unsee_5 : decode cX8_unsee 5 = .ok (.aload_n 0, 1) := by decide +kernel
theorem dX8_unsee_6 : decode cX8_unsee 6 = .ok (.iconst 0, 1) := by decide +kernel
theorem dX8_unsee_7 : decode cX8_unsee 7 = .ok (.putfield 232, 3) := by decide +kernel
theorem dX8_unsee_10 : decode cX8_unsee 10 = .ok (.aload_n 0, 1) := by decide +kernel
theorem dX8_unsee_11 : decode cX8_unsee 11 = .ok (.iconst 0, 1) := by decide +kernel
theorem dX8_unsee_12 : decode cX8_unsee 12 = .ok (.putfield 238, 3) := by decide +kernel
theorem dX8_unsee_15 : decode cX8_unsee 15 = .ok (.aload_n 0, 1) := by decide +kernel
theorem dX8_unsee_16 : decode cX8_unsee 16 = .ok (.iconst 0, 1) := by decide +kernel
theorem dX8_unsee_17 : decode cX8_unsee 17 = .ok (.putfield 229, 3) := by decide +kernel
theorem dX8_unsee_20 : decode cX8_unsee 20 = .ok (.iload_n 1, 1) := by decide +kernel
theorem dX8_unsee_21 : decode cX8_unsee 21 = .ok (.ireturn, 1) := by decide +kernel
theorem dX8_which_0 : decode cX8_which 0 = .ok (.iload_n 1, 1) := by decide +kernel
theorem dX8_which_1 : decode cX8_which 1 = .ok (.ifCond .eq 11, 3) := by decide +kernel
theorem dX8_which_4 : decode cX8_which 4 = .ok (.iload_n 1, 1) := by decide +kernel
theorem dX8_which_5 : decode cX8_which 5 = .ok (.iconst 1, 1) := by decide +kernel
theorem dX8_which_6 : decode cX8_which 6 = .ok (.if_icmp .eq 6, 3) := by decide +kernel
theorem dX8_which_9 : decode cX8_which 9 = .ok (.bipush (-2), 2) := by decide +kernel
theorem dX8_which_11 : decode cX8_which 11 = .ok (.ireturn, 1) := by decide +kernel
theorem dX8_which_12 : decode cX8_which 12 = .ok (.iconst 0, 1) := by decide +kernel
theorem dX8_which_13 : decode cX8_which 13 = .ok (.istore_n 2, 1) := by decide +kernel
theorem dX8_which_14 : decode cX8_which 14 = .ok (.bipush (-9), 2) := by decide +kernel
theorem dX8_which_16 : decode cX8_which 16 = .ok (.istore_n 3, 1) := by decide +kernel
theorem dX8_which_17 : decode cX8_which 17 = .ok (.iconst 0, 1) := by decide +kernel
theorem dX8_which_18 : decode cX8_which 18 = .ok (.istore 4, 2) := by decide +kernel
theorem dX8_which_20 : decode cX8_which 20 = .ok (.iload 4, 2) := by decide +kernel
theorem dX8_which_22 : decode cX8_which 22 = .ok (.aload_n 0, 1) := by decide +kernel
theorem dX8_which_23 : decode cX8_which 23 = .ok (.getfield 10, 3) := by decide +kernel
theorem dX8_which_26 : decode cX8_which 26 = .ok (.getfield 95, 3) := by decide +kernel
theorem dX8_which_29 : decode cX8_which 29 = .ok (.getfield 99, 3) := by decide +kernel
theorem dX8_which_32 : decode cX8_which 32 = .ok (.if_icmp .ge 64, 3) := by decide +kernel
theorem dX8_which_35 : decode cX8_which 35 = .ok (.aload_n 0, 1) := by decide +kernel
theorem dX8_which_36 : decode cX8_which 36 = .ok (.getfield 10, 3) := by decide +kernel
theorem dX8_which_39 : decode cX8_which 39 = .ok (.getfield 95, 3) := by decide +kernel
theorem dX8_which_42 : decode cX8_which 42 = .ok (.getfield 166, 3) := by decide +kernel
theorem dX8_which_45 : decode cX8_which 45 = .ok (.iload 4, 2) := by decide +kernel
theorem dX8_which_47 : decode cX8_which 47 = .ok (.iaload, 1) := by decide +kernel
theorem dX8_which_48 : decode cX8_which 48 = .ok (.istore 5, 2) := by decide +kernel
theorem dX8_which_50 : decode cX8_which 50 = .ok (.iload 5, 2) := by decide +kernel
theorem dX8_which_52 : decode cX8_which 52 = .ok (.aload_n 0, 1) := by decide +kernel
theorem dX8_which_53 : decode cX8_which 53 = .ok (.getfield 232, 3) := by decide +kernel
theorem dX8_which_56 : decode cX8_which 56 = .ok (.iand, 1) := by decide +kernel
theorem dX8_which_57 : decode cX8_which 57 = .ok (.aload_n 0, 1) := by decide +kernel
theorem dX8_which_58 : decode cX8_which 58 = .ok (.getfield 232, 3) := by decide +kernel
theorem dX8_which_61 : decode cX8_which 61 = .ok (.if_icmp .ne 29, 3) := by decide +kernel
theorem dX8_which_64 : decode cX8_which 64 = .ok (.iload 5, 2) := by decide +kernel
theorem dX8_which_66 : decode cX8_which 66 = .ok (.aload_n 0, 1) := by decide +kernel
theorem dX8_which_67 : decode cX8_which 67 = .ok (.getfield 238, 3) := by decide +kernel
theorem dX8_which_70 : decode cX8_which 70 = .ok (.iand, 1) := by decide +kernel
theorem dX8_which_71 : decode cX8_which 71 = .ok (.ifCond .ne 19, 3) := by decide +kernel
theorem dX8_which_74 : decode cX8_which 74 = .ok (.iinc 2 1, 3) := by decide +kernel
theorem dX8_which_77 : decode cX8_which 77 = .ok (.iload_n 3, 1) := by decide +kernel
theorem dX8_which_78 : decode cX8_which 78 = .ok (.bipush (-9), 2) := by decide +kernel
theorem dX8_which_80 : decode cX8_which 80 = .ok (.if_icmp .ne 8, 3) := by decide +kernel
theorem dX8_which_83 : decode cX8_which 83 = .ok (.iload 4, 2) := by decide +kernel
theorem dX8_which_85 : decode cX8_which 85 = .ok (.goto 4, 3) := by decide +kernel
theorem dX8_which_88 : decode cX8_which 88 = .ok (.iload_n 3, 1) := by decide +kernel
theorem dX8_which_89 : decode cX8_which 89 = .ok (.istore_n 3, 1) := by decide +kernel
theorem dX8_which_90 : decode cX8_which 90 = .ok (.iinc 4 1, 3) := by decide +kernel
theorem dX8_which_93 : decode cX8_which 93 = .ok (.goto (-73), 3) := by decide +kernel
theorem dX8_which_96 : decode cX8_which 96 = .ok (.iload_n 1, 1) := by decide +kernel
theorem dX8_which_97 : decode cX8_which 97 = .ok (.ifCond .ne 7, 3) := by decide +kernel
theorem dX8_which_100 : decode cX8_which 100 = .ok (.iload_n 2, 1) := by decide +kernel
theorem dX8_which_101 : decode cX8_which 101 = .ok (.goto 4, 3) := by decide +kernel
theorem dX8_which_104 : decode cX8_which 104 = .ok (.iload_n 3, 1) := by decide +kernel
theorem dX8_which_105 : decode cX8_which 105 = .ok (.ireturn, 1) := by decide +kernel
theorem dX8_share_0 : decode cX8_share 0 = .ok (.aload_n 0, 1) := by decide +kernel
theorem dX8_share_1 : decode cX8_share 1 = .ok (.getfield 10, 3) := by decide +kernel
theorem dX8_share_4 : decode cX8_share 4 = .ok (.getfield 80, 3) := by decide +kernel
theorem dX8_share_7 : decode cX8_share 7 = .ok (.iload_n 1, 1) := by decide +kernel
theorem dX8_share_8 : decode cX8_share 8 = .ok (.invokevirtual 112, 3) := by decide +kernel
theorem dX8_share_11 : decode cX8_share 11 = .ok (.ifCond .ne 5, 3) := by decide +kernel
theorem dX8_share_14 : decode cX8_share 14 = .ok (.iconst (-1), 1) := by decide +kernel
theorem dX8_share_15 : decode cX8_share 15 = .ok (.ireturn, 1) := by decide +kernel
theorem dX8_share_16 : decode cX8_share 16 = .ok (.aload_n 0, 1) := by decide +kernel
theorem dX8_share_17 : decode cX8_share 17 = .ok (.getfield 10, 3) := by decide +kernel
theorem dX8_share_20 : decode cX8_share 20 = .ok (.getfield 80, 3) := by decide +kernel
theorem dX8_share_23 : decode cX8_share 23 = .ok (.iload_n 1, 1) := by decide +kernel
theorem dX8_share_24 : decode cX8_share 24 = .ok (.invokevirtual 115, 3) := by decide +kernel
theorem dX8_share_27 : decode cX8_share 27 = .ok (.ifCond .ne 6, 3) := by decide +kernel
theorem dX8_share_30 : decode cX8_share 30 = .ok (.bipush (-3), 2) := by decide +kernel
theorem dX8_share_32 : decode cX8_share 32 = .ok (.ireturn, 1) := by decide +kernel
theorem dX8_share_33 : decode cX8_share 33 = .ok (.aload_n 0, 1) := by decide +kernel
theorem dX8_share_34 : decode cX8_share 34 = .ok (.getfield 50, 3) := by decide +kernel
theorem dX8_share_37 : decode cX8_share 37 = .ok (.aload_n 0, 1) := by decide +kernel
theorem dX8_share_38 : decode cX8_share 38 = .ok (.getfield 10, 3) := by decide +kernel
theorem dX8_share_41 : decode cX8_share 41 = .ok (.invokevirtual 241, 3) := by decide +kernel
theorem dX8_share_44 : decode cX8_share 44 = .ok (.aload_n 0, 1) := by decide +kernel
theorem dX8_share_45 : decode cX8_share 45 = .ok (.getfield 50, 3) := by decide +kernel
theorem dX8_share_48 : decode cX8_share 48 = .ok (.iload_n 1, 1) := by decide +kernel
theorem dX8_share_49 : decode cX8_share 49 = .ok (.invokevirtual 244, 3) := by decide +kernel
theorem dX8_share_52 : decode cX8_share 52 = .ok (.aload_n 0, 1) := by decide +kernel
theorem dX8_share_53 : decode cX8_share 53 = .ok (.getfield 50, 3) := by decide +kernel
theorem dX8_share_56 : decode cX8_share 56 = .ok (.aload_n 0, 1) := by decide +kernel
theorem dX8_share_57 : decode cX8_share 57 = .ok (.getfield 50, 3) := by decide +kernel
theorem dX8_share_60 : decode cX8_share 60 = .ok (.getfield 247, 3) := by decide +kernel
theorem dX8_share_63 : decode cX8_share 63 = .ok (.invokevirtual 250, 3) := by decide +kernel
theorem dX8_share_66 : decode cX8_share 66 = .ok (.iload_n 2, 1) := by decide +kernel
theorem dX8_share_67 : decode cX8_share 67 = .ok (.invokestatic 148, 3) := by decide +kernel
theorem dX8_share_70 : decode cX8_share 70 = .ok (.ireturn, 1) := by decide +kernel
theorem dX8_loose_0 : decode cX8_loose 0 = .ok (.iload_n 1, 1) := by decide +kernel
theorem dX8_loose_1 : decode cX8_loose 1 = .ok (.ifCond .lt 9, 3) := by decide +kernel
theorem dX8_loose_4 : decode cX8_loose 4 = .ok (.iload_n 1, 1) := by decide +kernel
theorem dX8_loose_5 : decode cX8_loose 5 = .ok (.bipush 10, 2) := by decide +kernel
theorem dX8_loose_7 : decode cX8_loose 7 = .ok (.if_icmp .le 6, 3) := by decide +kernel
theorem dX8_loose_10 : decode cX8_loose 10 = .ok (.bipush (-2), 2) := by decide +kernel
theorem dX8_loose_12 : decode cX8_loose 12 = .ok (.ireturn, 1) := by decide +kernel
theorem dX8_loose_13 : decode cX8_loose 13 = .ok (.aload_n 0, 1) := by decide +kernel
theorem dX8_loose_14 : decode cX8_loose 14 = .ok (.getfield 50, 3) := by decide +kernel
theorem dX8_loose_17 : decode cX8_loose 17 = .ok (.aload_n 0, 1) := by decide +kernel
theorem dX8_loose_18 : decode cX8_loose 18 = .ok (.getfield 10, 3) := by decide +kernel
theorem dX8_loose_21 : decode cX8_loose 21 = .ok (.invokevirtual 241, 3) := by decide +kernel
theorem dX8_loose_24 : decode cX8_loose 24 = .ok (.aload_n 0, 1) := by decide +kernel
theorem dX8_loose_25 : decode cX8_loose 25 = .ok (.getfield 50, 3) := by decide +kernel
theorem dX8_loose_28 : decode cX8_loose 28 = .ok (.iload_n 1, 1) := by decide +kernel
theorem dX8_loose_29 : decode cX8_loose 29 = .ok (.invokevirtual 253, 3) := by decide +kernel
theorem dX8_loose_32 : decode cX8_loose 32 = .ok (.bipush 10, 2) := by decide +kernel
theorem dX8_loose_34 : decode cX8_loose 34 = .ok (.aload_n 0, 1) := by decide +kernel
theorem dX8_loose_35 : decode cX8_loose 35 = .ok (.getfield 50, 3) := by decide +kernel
theorem dX8_loose_38 : decode cX8_loose 38 = .ok (.getfield 247, 3) := by decide +kernel
theorem dX8_loose_41 : decode cX8_loose 41 = .ok (.invokestatic 256, 3) := by decide +kernel
theorem dX8_loose_44 : decode cX8_loose 44 = .ok (.iload_n 2, 1) := by decide +kernel
theorem dX8_loose_45 : decode cX8_loose 45 = .ok (.invokestatic 148, 3) := by decide +kernel
theorem dX8_loose_48 : decode cX8_loose 48 = .ok (.ireturn, 1) := by decide +kernel
theorem dX8_seed_0 : decode cX8_seed 0 = .ok (.aload_n 0, 1) := by decide +kernel
theorem dX8_seed_1 : decode cX8_seed 1 = .ok (.getfield 259, 3) := by decide +kernel
theorem dX8_seed_4 : decode cX8_seed 4 = .ok (.lstore_n 3, 1) := by decide +kernel
theorem dX8_seed_5 : decode cX8_seed 5 = .ok (.aload_n 0, 1) := by decide +kernel
theorem dX8_seed_6 : decode cX8_seed 6 = .ok (.lload_n 1, 1) := by decide +kernel
theorem dX8_seed_7 : decode cX8_seed 7 = .ok (.putfield 259, 3) := by decide +kernel
theorem dX8_seed_10 : decode cX8_seed 10 = .ok (.lload_n 3, 1) := by decide +kernel
theorem dX8_seed_11 : decode cX8_seed 11 = .ok (.lreturn, 1) := by decide +kernel
theorem dX8_drawn_0 : decode cX8_drawn 0 = .ok (.iload_n 1, 1) := by decide +kernel
theorem dX8_drawn_1 : decode cX8_drawn 1 = .ok (.iconst 1, 1) := by decide +kernel
theorem dX8_drawn_2 : decode cX8_drawn 2 = .ok (.if_icmp .lt 9, 3) := by decide +kernel
theorem dX8_drawn_5 : decode cX8_drawn 5 = .ok (.iload_n 1, 1) := by decide +kernel
theorem dX8_drawn_6 : decode cX8_drawn 6 = .ok (.bipush 20, 2) := by decide +kernel
theorem dX8_drawn_8 : decode cX8_drawn 8 = .ok (.if_icmp .le 6, 3) := by decide +kernel
theorem dX8_drawn_11 : decode cX8_drawn 11 = .ok (.bipush (-2), 2) := by decide +kernel
theorem dX8_drawn_13 : decode cX8_drawn 13 = .ok (.ireturn, 1) := by decide +kernel
theorem dX8_drawn_14 : decode cX8_drawn 14 = .ok (.aload_n 0, 1) := by decide +kernel
theorem dX8_drawn_15 : decode cX8_drawn 15 = .ok (.getfield 10, 3) := by decide +kernel
theorem dX8_drawn_18 : decode cX8_drawn 18 = .ok (.getfield 80, 3) := by decide +kernel
theorem dX8_drawn_21 : decode cX8_drawn 21 = .ok (.getfield 91, 3) := by decide +kernel
theorem dX8_drawn_24 : decode cX8_drawn 24 = .ok (.istore_n 2, 1) := by decide +kernel
theorem dX8_drawn_25 : decode cX8_drawn 25 = .ok (.iconst 0, 1) := by decide +kernel
theorem dX8_drawn_26 : decode cX8_drawn 26 = .ok (.istore_n 3, 1) := by decide +kernel
theorem dX8_drawn_27 : decode cX8_drawn 27 = .ok (.iconst 0, 1) := by decide +kernel
theorem dX8_drawn_28 : decode cX8_drawn 28 = .ok (.istore 4, 2) := by decide +kernel
theorem dX8_drawn_30 : decode cX8_drawn 30 = .ok (.iload 4, 2) := by decide +kernel
theorem dX8_drawn_32 : decode cX8_drawn 32 = .ok (.iload_n 1, 1) := by decide +kernel
theorem dX8_drawn_33 : decode cX8_drawn 33 = .ok (.if_icmp .ge 57, 3) := by decide +kernel
theorem dX8_drawn_36 : decode cX8_drawn 36 = .ok (.aload_n 0, 1) := by decide +kernel
theorem dX8_drawn_37 : decode cX8_drawn 37 = .ok (.aload_n 0, 1) := by decide +kernel
theorem dX8_drawn_38 : decode cX8_drawn 38 = .ok (.getfield 259, 3) := by decide +kernel
theorem dX8_drawn_41 : decode cX8_drawn 41 = .ok (.ldc2_w 263, 3) := by decide +kernel
theorem dX8_drawn_44 : decode cX8_drawn 44 = .ok (.lmul, 1) := by decide +kernel
theorem dX8_drawn_45 : decode cX8_drawn 45 = .ok (.ldc2_w 265, 3) := by decide +kernel
theorem dX8_drawn_48 : decode cX8_drawn 48 = .ok (.ladd, 1) := by decide +kernel
theorem dX8_drawn_49 : decode cX8_drawn 49 = .ok (.putfield 259, 3) := by decide +kernel
theorem dX8_drawn_52 : decode cX8_drawn 52 = .ok (.aload_n 0, 1) := by decide +kernel
theorem dX8_drawn_53 : decode cX8_drawn 53 = .ok (.iload_n 2, 1) := by decide +kernel
theorem dX8_drawn_54 : decode cX8_drawn 54 = .ok (.aload_n 0, 1) := by decide +kernel
theorem dX8_drawn_55 : decode cX8_drawn 55 = .ok (.getfield 259, 3) := by decide +kernel
theorem dX8_drawn_58 : decode cX8_drawn 58 = .ok (.bipush 33, 2) := by decide +kernel
theorem dX8_drawn_60 : decode cX8_drawn 60 = .ok (.lushr, 1) := by decide +kernel
theorem dX8_drawn_61 : decode cX8_drawn 61 = .ok (.l2i, 1) := by decide +kernel
theorem dX8_drawn_62 : decode cX8_drawn 62 = .ok (.invokevirtual 267, 3) := by decide +kernel
theorem dX8_drawn_65 : decode cX8_drawn 65 = .ok (.istore_n 2, 1) := by decide +kernel
theorem dX8_drawn_66 : decode cX8_drawn 66 = .ok (.iload_n 3, 1) := by decide +kernel
theorem dX8_drawn_67 : decode cX8_drawn 67 = .ok (.iconst 0, 1) := by decide +kernel
theorem dX8_drawn_68 : decode cX8_drawn 68 = .ok (.aload_n 0, 1) := by decide +kernel
theorem dX8_drawn_69 : decode cX8_drawn 69 = .ok (.getfield 10, 3) := by decide +kernel
theorem dX8_drawn_72 : decode cX8_drawn 72 = .ok (.getfield 95, 3) := by decide +kernel
theorem dX8_drawn_75 : decode cX8_drawn 75 = .ok (.iload_n 2, 1) := by decide +kernel
theorem dX8_drawn_76 : decode cX8_drawn 76 = .ok (.invokevirtual 160, 3) := by decide +kernel
theorem dX8_drawn_79 : decode cX8_drawn 79 = .ok (.invokestatic 155, 3) := by decide +kernel
theorem dX8_drawn_82 : decode cX8_drawn 82 = .ok (.iadd, 1) := by decide +kernel
theorem dX8_drawn_83 : decode cX8_drawn 83 = .ok (.istore_n 3, 1) := by decide +kernel
theorem dX8_drawn_84 : decode cX8_drawn 84 = .ok (.iinc 4 1, 3) := by decide +kernel
theorem dX8_drawn_87 : decode cX8_drawn 87 = .ok (.goto (-57), 3) := by decide +kernel
theorem dX8_drawn_90 : decode cX8_drawn 90 = .ok (.iload_n 3, 1) := by decide +kernel
theorem dX8_drawn_91 : decode cX8_drawn 91 = .ok (.ireturn, 1) := by decide +kernel
theorem dX8_drawSwitch_0 : decode cX8_drawSwitch 0 = .ok (.aload_n 0, 1) := by decide +kernel
theorem dX8_drawSwitch_1 : decode cX8_drawSwitch 1 = .ok (.getfield 10, 3) := by decide +kernel
theorem dX8_drawSwitch_4 : decode cX8_drawSwitch 4 = .ok (.getfield 80, 3) := by decide +kernel
theorem dX8_drawSwitch_7 : decode cX8_drawSwitch 7 = .ok (.astore_n 3, 1) := by decide +kernel
theorem dX8_drawSwitch_8 : decode cX8_drawSwitch 8 = .ok (.iload_n 2, 1) := by decide +kernel
theorem dX8_drawSwitch_9 : decode cX8_drawSwitch 9 = .ok (.aload_n 3, 1) := by decide +kernel
theorem dX8_drawSwitch_10 : decode cX8_drawSwitch 10 = .ok (.getfield 210, 3) := by decide +kernel
theorem dX8_drawSwitch_13 : decode cX8_drawSwitch 13 = .ok (.invokestatic 270, 3) := by decide +kernel
theorem dX8_drawSwitch_16 : decode cX8_drawSwitch 16 = .ok (.istore 4, 2) := by decide +kernel
theorem dX8_drawSwitch_18 : decode cX8_drawSwitch 18 = .ok (.iload_n 2, 1) := by decide +kernel
theorem dX8_drawSwitch_19 : decode cX8_drawSwitch 19 = .ok (.iconst 4, 1) := by decide +kernel
theorem dX8_drawSwitch_20 : decode cX8_drawSwitch 20 = .ok (.idiv, 1) := by decide +kernel
theorem dX8_drawSwitch_21 : decode cX8_drawSwitch 21 = .ok (.aload_n 3, 1) := by decide +kernel
theorem dX8_drawSwitch_22 : decode cX8_drawSwitch 22 = .ok (.getfield 210, 3) := by decide +kernel
theorem dX8_drawSwitch_25 : decode cX8_drawSwitch 25 = .ok (.invokestatic 270, 3) := by decide +kernel
theorem dX8_drawSwitch_28 : decode cX8_drawSwitch 28 = .ok (.istore 5, 2) := by decide +kernel
theorem dX8_drawSwitch_30 : decode cX8_drawSwitch 30 = .ok (.iload_n 2, 1) := by decide +kernel
theorem dX8_drawSwitch_31 : decode cX8_drawSwitch 31 = .ok (.bipush 16, 2) := by decide +kernel
theorem dX8_drawSwitch_33 : decode cX8_drawSwitch 33 = .ok (.idiv, 1) := by decide +kernel
theorem dX8_drawSwitch_34 : decode cX8_drawSwitch 34 = .ok (.aload_n 3, 1) := by decide +kernel
theorem dX8_drawSwitch_35 : decode cX8_drawSwitch 35 = .ok (.getfield 213, 3) := by decide +kernel
theorem dX8_drawSwitch_38 : decode cX8_drawSwitch 38 = .ok (.invokestatic 270, 3) := by decide +kernel
theorem dX8_drawSwitch_41 : decode cX8_drawSwitch 41 = .ok (.istore 6, 2) := by decide +kernel
theorem dX8_drawSwitch_43 : decode cX8_drawSwitch 43 = .ok (.iload_n 2, 1) := by decide +kernel
theorem dX8_drawSwitch_44 : decode cX8_drawSwitch 44 = .ok (.sipush 128, 3) := by decide +kernel
theorem dX8_drawSwitch_47 : decode cX8_drawSwitch 47 = .ok (.idiv, 1) := by decide +kernel
theorem dX8_drawSwitch_48 : decode cX8_drawSwitch 48 = .ok (.aload_n 3, 1) := by decide +kernel
theorem dX8_drawSwitch_49 : decode cX8_drawSwitch 49 = .ok (.getfield 213, 3) := by decide +kernel
theorem dX8_drawSwitch_52 : decode cX8_drawSwitch 52 = .ok (.invokestatic 270, 3) := by decide +kernel
theorem dX8_drawSwitch_55 : decode cX8_drawSwitch 55 = .ok (.istore 7, 2) := by decide +kernel
theorem dX8_drawSwitch_57 : decode cX8_drawSwitch 57 = .ok (.iload_n 1, 1) := by decide +kernel
theorem dX8_drawSwitch_58 : decode cX8_drawSwitch 58 = .ok (.iconst (-1), 1) := by decide +kernel
theorem dX8_drawSwitch_59 : decode cX8_drawSwitch 59 = .ok (.if_icmp .eq 23, 3) := by decide +kernel
theorem dX8_drawSwitch_62 : decode cX8_drawSwitch 62 = .ok (.aload_n 3, 1) := by decide +kernel
theorem dX8_drawSwitch_63 : decode cX8_drawSwitch 63 = .ok (.iload_n 1, 1) := by decide +kernel
theorem dX8_drawSwitch_64 : decode cX8_drawSwitch 64 = .ok (.iload 4, 2) := by decide +kernel
theorem dX8_drawSwitch_66 : decode cX8_drawSwitch 66 = .ok (.iload 5, 2) := by decide +kernel
theorem dX8_drawSwitch_68 : decode cX8_drawSwitch 68 = .ok (.iload 6, 2) := by decide +kernel
theorem dX8_drawSwitch_70 : decode cX8_drawSwitch 70 = .ok (.iload 7, 2) := by decide +kernel
theorem dX8_drawSwitch_72 : decode cX8_drawSwitch 72 = .ok (.invokevirtual 273, 3) := by decide +kernel
theorem dX8_drawSwitch_75 : decode cX8_drawSwitch 75 = .ok (.ifCond .eq 7, 3) := by decide +kernel
theorem dX8_drawSwitch_78 : decode cX8_drawSwitch 78 = .ok (.iconst 1, 1) := by decide +kernel
theorem dX8_drawSwitch_79 : decode cX8_drawSwitch 79 = .ok (.goto 4, 3) := by decide +kernel
theorem dX8_drawSwitch_82 : decode cX8_drawSwitch 82 = .ok (.iconst 0, 1) := by decide +kernel
theorem dX8_drawSwitch_83 : decode cX8_drawSwitch 83 = .ok (.istore 8, 2) := by decide +kernel
theorem dX8_drawSwitch_85 : decode cX8_drawSwitch 85 = .ok (.iload 8, 2) := by decide +kernel
theorem dX8_drawSwitch_87 : decode cX8_drawSwitch 87 = .ok (.ifCond .eq 19, 3) := by decide +kernel
theorem dX8_drawSwitch_90 : decode cX8_drawSwitch 90 = .ok (.aload_n 3, 1) := by decide +kernel
theorem dX8_drawSwitch_91 : decode cX8_drawSwitch 91 = .ok (.iload_n 1, 1) := by decide +kernel
theorem dX8_drawSwitch_92 : decode cX8_drawSwitch 92 = .ok (.iload 4, 2) := by decide +kernel
theorem dX8_drawSwitch_94 : decode cX8_drawSwitch 94 = .ok (.iload 5, 2) := by decide +kernel
theorem dX8_drawSwitch_96 : decode cX8_drawSwitch 96 = .ok (.iload 6, 2) := by decide +kernel
theorem dX8_drawSwitch_98 : decode cX8_drawSwitch 98 = .ok (.iload 7, 2) := by decide +kernel
theorem dX8_drawSwitch_100 : decode cX8_drawSwitch 100 = .ok (.invokevirtual 277, 3) := by decide +kernel
theorem dX8_drawSwitch_103 : decode cX8_drawSwitch 103 = .ok (.goto 4, 3) := by decide +kernel
theorem dX8_drawSwitch_106 : decode cX8_drawSwitch 106 = .ok (.iload_n 1, 1) := by decide +kernel
theorem dX8_drawSwitch_107 : decode cX8_drawSwitch 107 = .ok (.ireturn, 1) := by decide +kernel
theorem dX8_keep_0 : decode cX8_keep 0 = .ok (.iload_n 1, 1) := by decide +kernel
theorem dX8_keep_1 : decode cX8_keep 1 = .ok (.ifCond .lt 8, 3) := by decide +kernel
theorem dX8_keep_4 : decode cX8_keep 4 = .ok (.iload_n 1, 1) := by decide +kernel
theorem dX8_keep_5 : decode cX8_keep 5 = .ok (.iconst 2, 1) := by decide +kernel
theorem dX8_keep_6 : decode cX8_keep 6 = .ok (.if_icmp .lt 5, 3) := by decide +kernel
theorem dX8_keep_9 : decode cX8_keep 9 = .ok (.iconst (-1), 1) := by decide +kernel
theorem dX8_keep_10 : decode cX8_keep 10 = .ok (.ireturn, 1) := by decide +kernel
theorem dX8_keep_11 : decode cX8_keep 11 = .ok (.aload_n 0, 1) := by decide +kernel
theorem dX8_keep_12 : decode cX8_keep 12 = .ok (.getfield 56, 3) := by decide +kernel
theorem dX8_keep_15 : decode cX8_keep 15 = .ok (.iload_n 1, 1) := by decide +kernel
theorem dX8_keep_16 : decode cX8_keep 16 = .ok (.aaload, 1) := by decide +kernel
theorem dX8_keep_17 : decode cX8_keep 17 = .ok (.aload_n 0, 1) := by decide +kernel
theorem dX8_keep_18 : decode cX8_keep 18 = .ok (.getfield 10, 3) := by decide +kernel
theorem dX8_keep_21 : decode cX8_keep 21 = .ok (.getfield 80, 3) := by decide +kernel
theorem dX8_keep_24 : decode cX8_keep 24 = .ok (.invokevirtual 87, 3) := by decide +kernel
theorem dX8_keep_27 : decode cX8_keep 27 = .ok (.aload_n 0, 1) := by decide +kernel
theorem dX8_keep_28 : decode cX8_keep 28 = .ok (.getfield 60, 3) := by decide +kernel
theorem dX8_keep_31 : decode cX8_keep 31 = .ok (.iload_n 1, 1) := by decide +kernel
theorem dX8_keep_32 : decode cX8_keep 32 = .ok (.iconst 1, 1) := by decide +kernel
theorem dX8_keep_33 : decode cX8_keep 33 = .ok (.bastore, 1) := by decide +kernel
theorem dX8_keep_34 : decode cX8_keep 34 = .ok (.aload_n 0, 1) := by decide +kernel
theorem dX8_keep_35 : decode cX8_keep 35 = .ok (.getfield 10, 3) := by decide +kernel
theorem dX8_keep_38 : decode cX8_keep 38 = .ok (.getfield 80, 3) := by decide +kernel
theorem dX8_keep_41 : decode cX8_keep 41 = .ok (.invokevirtual 152, 3) := by decide +kernel
theorem dX8_keep_44 : decode cX8_keep 44 = .ok (.ireturn, 1) := by decide +kernel
theorem dX8_again_0 : decode cX8_again 0 = .ok (.iload_n 1, 1) := by decide +kernel
theorem dX8_again_1 : decode cX8_again 1 = .ok (.ifCond .lt 8, 3) := by decide +kernel
theorem dX8_again_4 : decode cX8_again 4 = .ok (.iload_n 1, 1) := by decide +kernel
theorem dX8_again_5 : decode cX8_again 5 = .ok (.iconst 2, 1) := by decide +kernel
theorem dX8_again_6 : decode cX8_again 6 = .ok (.if_icmp .lt 5, 3) := by decide +kernel
theorem dX8_again_9 : decode cX8_again 9 = .ok (.iconst (-1), 1) := by decide +kernel
theorem dX8_again_10 : decode cX8_again 10 = .ok (.ireturn, 1) := by decide +kernel
theorem dX8_again_11 : decode cX8_again 11 = .ok (.aload_n 0, 1) := by decide +kernel
theorem dX8_again_12 : decode cX8_again 12 = .ok (.getfield 60, 3) := by decide +kernel
theorem dX8_again_15 : decode cX8_again 15 = .ok (.iload_n 1, 1) := by decide +kernel
theorem dX8_again_16 : decode cX8_again 16 = .ok (.baload, 1) := by decide +kernel
theorem dX8_again_17 : decode cX8_again 17 = .ok (.ifCond .ne 6, 3) := by decide +kernel
theorem dX8_again_20 : decode cX8_again 20 = .ok (.bipush (-3), 2) := by decide +kernel
theorem dX8_again_22 : decode cX8_again 22 = .ok (.ireturn, 1) := by decide +kernel
theorem dX8_again_23 : decode cX8_again 23 = .ok (.aload_n 0, 1) := by decide +kernel
theorem dX8_again_24 : decode cX8_again 24 = .ok (.getfield 10, 3) := by decide +kernel
theorem dX8_again_27 : decode cX8_again 27 = .ok (.getfield 80, 3) := by decide +kernel
theorem dX8_again_30 : decode cX8_again 30 = .ok (.aload_n 0, 1) := by decide +kernel
theorem dX8_again_31 : decode cX8_again 31 = .ok (.getfield 56, 3) := by decide +kernel
theorem dX8_again_34 : decode cX8_again 34 = .ok (.iload_n 1, 1) := by decide +kernel
theorem dX8_again_35 : decode cX8_again 35 = .ok (.aaload, 1) := by decide +kernel
theorem dX8_again_36 : decode cX8_again 36 = .ok (.invokevirtual 87, 3) := by decide +kernel
theorem dX8_again_39 : decode cX8_again 39 = .ok (.aload_n 0, 1) := by decide +kernel
theorem dX8_again_40 : decode cX8_again 40 = .ok (.getfield 10, 3) := by decide +kernel
theorem dX8_again_43 : decode cX8_again 43 = .ok (.invokevirtual 65, 3) := by decide +kernel
theorem dX8_again_46 : decode cX8_again 46 = .ok (.aload_n 0, 1) := by decide +kernel
theorem dX8_again_47 : decode cX8_again 47 = .ok (.getfield 29, 3) := by decide +kernel
theorem dX8_again_50 : decode cX8_again 50 = .ok (.iconst 0, 1) := by decide +kernel
theorem dX8_again_51 : decode cX8_again 51 = .ok (.putfield 94, 3) := by decide +kernel
theorem dX8_again_54 : decode cX8_again 54 = .ok (.aload_n 0, 1) := by decide +kernel
theorem dX8_again_55 : decode cX8_again 55 = .ok (.getfield 10, 3) := by decide +kernel
theorem dX8_again_58 : decode cX8_again 58 = .ok (.getfield 80, 3) := by decide +kernel
theorem dX8_again_61 : decode cX8_again 61 = .ok (.invokevirtual 152, 3) := by decide +kernel
theorem dX8_again_64 : decode cX8_again 64 = .ok (.ireturn, 1) := by decide +kernel
theorem dX8_count_0 : decode cX8_count 0 = .ok (.iload_n 1, 1) := by decide +kernel
theorem dX8_count_1 : decode cX8_count 1 = .ok (.tableswitch 179 0 9 #[55, 63, 74, 85, 96, 128, 142, 150, 155, 167], 55) := by decide +kernel
theorem dX8_count_56 : decode cX8_count 56 = .ok (.aload_n 0, 1) := by decide +kernel
theorem dX8_count_57 : decode cX8_count 57 = .ok (.getfield 22, 3) := by decide +kernel
theorem dX8_count_60 : decode cX8_count 60 = .ok (.getfield 72, 3) := by decide +kernel
theorem dX8_count_63 : decode cX8_count 63 = .ok (.ireturn, 1) := by decide +kernel
theorem dX8_count_64 : decode cX8_count 64 = .ok (.aload_n 0, 1) := by decide +kernel
theorem dX8_count_65 : decode cX8_count 65 = .ok (.getfield 10, 3) := by decide +kernel
theorem dX8_count_68 : decode cX8_count 68 = .ok (.getfield 80, 3) := by decide +kernel
theorem dX8_count_71 : decode cX8_count 71 = .ok (.getfield 210, 3) := by decide +kernel
theorem dX8_count_74 : decode cX8_count 74 = .ok (.ireturn, 1) := by decide +kernel
theorem dX8_count_75 : decode cX8_count 75 = .ok (.aload_n 0, 1) := by decide +kernel
theorem dX8_count_76 : decode cX8_count 76 = .ok (.getfield 10, 3) := by decide +kernel
theorem dX8_count_79 : decode cX8_count 79 = .ok (.getfield 80, 3) := by decide +kernel
theorem dX8_count_82 : decode cX8_count 82 = .ok (.getfield 213, 3) := by decide +kernel
theorem dX8_count_85 : decode cX8_count 85 = .ok (.ireturn, 1) := by decide +kernel
theorem dX8_count_86 : decode cX8_count 86 = .ok (.aload_n 0, 1) := by decide +kernel
theorem dX8_count_87 : decode cX8_count 87 = .ok (.getfield 10, 3) := by decide +kernel
theorem dX8_count_90 : decode cX8_count 90 = .ok (.getfield 80, 3) := by decide +kernel
theorem dX8_count_93 : decode cX8_count 93 = .ok (.invokevirtual 281, 3) := by decide +kernel
theorem dX8_count_96 : decode cX8_count 96 = .ok (.ireturn, 1) := by decide +kernel
theorem dX8_count_97 : decode cX8_count 97 = .ok (.aload_n 0, 1) := by decide +kernel
theorem dX8_count_98 : decode cX8_count 98 = .ok (.getfield 10, 3) := by decide +kernel
theorem dX8_count_101 : decode cX8_count 101 = .ok (.getfield 80, 3) := by decide +kernel
theorem dX8_count_104 : decode cX8_count 104 = .ok (.getfield 91, 3) := by decide +kernel
theorem dX8_count_107 : decode cX8_count 107 = .ok (.iconst (-1), 1) := by decide +kernel
theorem dX8_count_108 : decode cX8_count 108 = .ok (.if_icmp .ne 7, 3) := by decide +kernel
theorem dX8_count_111 : decode cX8_count 111 = .ok (.iconst 0, 1) := by decide +kernel
theorem dX8_count_112 : decode cX8_count 112 = .ok (.goto 16, 3) := by decide +kernel
theorem dX8_count_115 : decode cX8_count 115 = .ok (.aload_n 0, 1) := by decide +kernel
theorem dX8_count_116 : decode cX8_count 116 = .ok (.getfield 10, 3) := by decide +kernel
theorem dX8_count_119 : decode cX8_count 119 = .ok (.getfield 80, 3) := by decide +kernel
theorem dX8_count_122 : decode cX8_count 122 = .ok (.getfield 91, 3) := by decide +kernel
theorem dX8_count_125 : decode cX8_count 125 = .ok (.invokestatic 170, 3) := by decide +kernel
theorem dX8_count_128 : decode cX8_count 128 = .ok (.ireturn, 1) := by decide +kernel
theorem dX8_count_129 : decode cX8_count 129 = .ok (.aload_n 0, 1) := by decide +kernel
theorem dX8_count_130 : decode cX8_count 130 = .ok (.getfield 10, 3) := by decide +kernel
theorem dX8_count_133 : decode cX8_count 133 = .ok (.getfield 95, 3) := by decide +kernel
theorem dX8_count_136 : decode cX8_count 136 = .ok (.invokevirtual 284, 3) := by decide +kernel
theorem dX8_count_139 : decode cX8_count 139 = .ok (.invokestatic 170, 3) := by decide +kernel
theorem dX8_count_142 : decode cX8_count 142 = .ok (.ireturn, 1) := by decide +kernel
theorem dX8_count_143 : decode cX8_count 143 = .ok (.aload_n 0, 1) := by decide +kernel
theorem dX8_count_144 : decode cX8_count 144 = .ok (.getfield 29, 3) := by decide +kernel
theorem dX8_count_147 : decode cX8_count 147 = .ok (.getfield 94, 3) := by decide +kernel
theorem dX8_count_150 : decode cX8_count 150 = .ok (.ireturn, 1) := by decide +kernel
theorem dX8_count_151 : decode cX8_count 151 = .ok (.aload_n 0, 1) := by decide +kernel
theorem dX8_count_152 : decode cX8_count 152 = .ok (.getfield 229, 3) := by decide +kernel
theorem dX8_count_155 : decode cX8_count 155 = .ok (.ireturn, 1) := by decide +kernel
theorem dX8_count_156 : decode cX8_count 156 = .ok (.aload_n 0, 1) := by decide +kernel
theorem dX8_count_157 : decode cX8_count 157 = .ok (.getfield 10, 3) := by decide +kernel
theorem dX8_count_160 : decode cX8_count 160 = .ok (.getfield 80, 3) := by decide +kernel
theorem dX8_count_163 : decode cX8_count 163 = .ok (.iconst 0, 1) := by decide +kernel
theorem dX8_count_164 : decode cX8_count 164 = .ok (.invokevirtual 287, 3) := by decide +kernel
theorem dX8_count_167 : decode cX8_count 167 = .ok (.ireturn, 1) := by decide +kernel
theorem dX8_count_168 : decode cX8_count 168 = .ok (.aload_n 0, 1) := by decide +kernel
theorem dX8_count_169 : decode cX8_count 169 = .ok (.getfield 10, 3) := by decide +kernel
theorem dX8_count_172 : decode cX8_count 172 = .ok (.getfield 80, 3) := by decide +kernel
theorem dX8_count_175 : decode cX8_count 175 = .ok (.iconst 1, 1) := by decide +kernel
theorem dX8_count_176 : decode cX8_count 176 = .ok (.invokevirtual 287, 3) := by decide +kernel
theorem dX8_count_179 : decode cX8_count 179 = .ok (.ireturn, 1) := by decide +kernel
theorem dX8_count_180 : decode cX8_count 180 = .ok (.bipush (-2), 2) := by decide +kernel
theorem dX8_count_182 : decode cX8_count 182 = .ok (.ireturn, 1) := by decide +kernel
theorem dX8_bitOf_0 : decode cX8_bitOf 0 = .ok (.iconst 1, 1) := by decide +kernel
theorem dX8_bitOf_1 : decode cX8_bitOf 1 = .ok (.bipush 19, 2) := by decide +kernel
theorem dX8_bitOf_3 : decode cX8_bitOf 3 = .ok (.iload_n 0, 1) := by decide +kernel
theorem dX8_bitOf_4 : decode cX8_bitOf 4 = .ok (.isub, 1) := by decide +kernel
theorem dX8_bitOf_5 : decode cX8_bitOf 5 = .ok (.ishl, 1) := by decide +kernel
theorem dX8_bitOf_6 : decode cX8_bitOf 6 = .ok (.ireturn, 1) := by decide +kernel
theorem dX8_columnBit_0 : decode cX8_columnBit 0 = .ok (.iconst 1, 1) := by decide +kernel
theorem dX8_columnBit_1 : decode cX8_columnBit 1 = .ok (.iconst 4, 1) := by decide +kernel
theorem dX8_columnBit_2 : decode cX8_columnBit 2 = .ok (.iload_n 0, 1) := by decide +kernel
theorem dX8_columnBit_3 : decode cX8_columnBit 3 = .ok (.isub, 1) := by decide +kernel
theorem dX8_columnBit_4 : decode cX8_columnBit 4 = .ok (.ishl, 1) := by decide +kernel
theorem dX8_columnBit_5 : decode cX8_columnBit 5 = .ok (.ireturn, 1) := by decide +kernel
theorem dX8_yesIn_0 : decode cX8_yesIn 0 = .ok (.iload_n 0, 1) := by decide +kernel
theorem dX8_yesIn_1 : decode cX8_yesIn 1 = .ok (.iload_n 1, 1) := by decide +kernel
theorem dX8_yesIn_2 : decode cX8_yesIn 2 = .ok (.invokestatic 235, 3) := by decide +kernel
theorem dX8_yesIn_5 : decode cX8_yesIn 5 = .ok (.iand, 1) := by decide +kernel
theorem dX8_yesIn_6 : decode cX8_yesIn 6 = .ok (.ifCond .eq 7, 3) := by decide +kernel
theorem dX8_yesIn_9 : decode cX8_yesIn 9 = .ok (.iconst 1, 1) := by decide +kernel
theorem dX8_yesIn_10 : decode cX8_yesIn 10 = .ok (.goto 4, 3) := by decide +kernel
theorem dX8_yesIn_13 : decode cX8_yesIn 13 = .ok (.iconst 0, 1) := by decide +kernel
theorem dX8_yesIn_14 : decode cX8_yesIn 14 = .ok (.ireturn, 1) := by decide +kernel
theorem dX8_leastCell_0 : decode cX8_leastCell 0 = .ok (.iconst 0, 1) := by decide +kernel
theorem dX8_leastCell_1 : decode cX8_leastCell 1 = .ok (.istore_n 1, 1) := by decide +kernel
theorem dX8_leastCell_2 : decode cX8_leastCell 2 = .ok (.iload_n 1, 1) := by decide +kernel
theorem dX8_leastCell_3 : decode cX8_leastCell 3 = .ok (.bipush 20, 2) := by decide +kernel
theorem dX8_leastCell_5 : decode cX8_leastCell 5 = .ok (.if_icmp .ge 20, 3) := by decide +kernel
theorem dX8_leastCell_8 : decode cX8_leastCell 8 = .ok (.iload_n 0, 1) := by decide +kernel
theorem dX8_leastCell_9 : decode cX8_leastCell 9 = .ok (.iload_n 1, 1) := by decide +kernel
theorem dX8_leastCell_10 : decode cX8_leastCell 10 = .ok (.invokestatic 235, 3) := by decide +kernel
theorem dX8_leastCell_13 : decode cX8_leastCell 13 = .ok (.iand, 1) := by decide +kernel
theorem dX8_leastCell_14 : decode cX8_leastCell 14 = .ok (.ifCond .eq 5, 3) := by decide +kernel
theorem dX8_leastCell_17 : decode cX8_leastCell 17 = .ok (.iload_n 1, 1) := by decide +kernel
theorem dX8_leastCell_18 : decode cX8_leastCell 18 = .ok (.ireturn, 1) := by decide +kernel
theorem dX8_leastCell_19 : decode cX8_leastCell 19 = .ok (.iinc 1 1, 3) := by decide +kernel
theorem dX8_leastCell_22 : decode cX8_leastCell 22 = .ok (.goto (-20), 3) := by decide +kernel
theorem dX8_leastCell_25 : decode cX8_leastCell 25 = .ok (.bipush (-9), 2) := by decide +kernel
theorem dX8_leastCell_27 : decode cX8_leastCell 27 = .ok (.ireturn, 1) := by decide +kernel
theorem dX8_remainder_0 : decode cX8_remainder 0 = .ok (.iload_n 1, 1) := by decide +kernel
theorem dX8_remainder_1 : decode cX8_remainder 1 = .ok (.ifCond .le 9, 3) := by decide +kernel
theorem dX8_remainder_4 : decode cX8_remainder 4 = .ok (.iload_n 0, 1) := by decide +kernel
theorem dX8_remainder_5 : decode cX8_remainder 5 = .ok (.iload_n 1, 1) := by decide +kernel
theorem dX8_remainder_6 : decode cX8_remainder 6 = .ok (.irem, 1) := by decide +kernel
theorem dX8_remainder_7 : decode cX8_remainder 7 = .ok (.goto 4, 3) := by decide +kernel
theorem dX8_remainder_10 : decode cX8_remainder 10 = .ok (.iconst 0, 1) := by decide +kernel
theorem dX8_remainder_11 : decode cX8_remainder 11 = .ok (.ireturn, 1) := by decide +kernel
theorem dX8_power_0 : decode cX8_power 0 = .ok (.iconst 1, 1) := by decide +kernel
theorem dX8_power_1 : decode cX8_power 1 = .ok (.istore_n 2, 1) := by decide +kernel
theorem dX8_power_2 : decode cX8_power 2 = .ok (.iconst 0, 1) := by decide +kernel
theorem dX8_power_3 : decode cX8_power 3 = .ok (.istore_n 3, 1) := by decide +kernel
theorem dX8_power_4 : decode cX8_power 4 = .ok (.iload_n 3, 1) := by decide +kernel
theorem dX8_power_5 : decode cX8_power 5 = .ok (.iload_n 1, 1) := by decide +kernel
theorem dX8_power_6 : decode cX8_power 6 = .ok (.if_icmp .ge 13, 3) := by decide +kernel
theorem dX8_power_9 : decode cX8_power 9 = .ok (.iload_n 2, 1) := by decide +kernel
theorem dX8_power_10 : decode cX8_power 10 = .ok (.iload_n 0, 1) := by decide +kernel
theorem dX8_power_11 : decode cX8_power 11 = .ok (.imul, 1) := by decide +kernel
theorem dX8_power_12 : decode cX8_power 12 = .ok (.istore_n 2, 1) := by decide +kernel
theorem dX8_power_13 : decode cX8_power 13 = .ok (.iinc 3 1, 3) := by decide +kernel
theorem dX8_power_16 : decode cX8_power 16 = .ok (.goto (-12), 3) := by decide +kernel
theorem dX8_power_19 : decode cX8_power 19 = .ok (.iload_n 2, 1) := by decide +kernel
theorem dX8_power_20 : decode cX8_power 20 = .ok (.ireturn, 1) := by decide +kernel
theorem dX8_inLeastTerms_0 : decode cX8_inLeastTerms 0 = .ok (.iconst 1, 1) := by decide +kernel
theorem dX8_inLeastTerms_1 : decode cX8_inLeastTerms 1 = .ok (.iload_n 0, 1) := by decide +kernel
theorem dX8_inLeastTerms_2 : decode cX8_inLeastTerms 2 = .ok (.iload_n 1, 1) := by decide +kernel
theorem dX8_inLeastTerms_3 : decode cX8_inLeastTerms 3 = .ok (.invokestatic 290, 3) := by decide +kernel
theorem dX8_inLeastTerms_6 : decode cX8_inLeastTerms 6 = .ok (.invokestatic 155, 3) := by decide +kernel
theorem dX8_inLeastTerms_9 : decode cX8_inLeastTerms 9 = .ok (.istore_n 3, 1) := by decide +kernel
theorem dX8_inLeastTerms_10 : decode cX8_inLeastTerms 10 = .ok (.iload_n 2, 1) := by decide +kernel
theorem dX8_inLeastTerms_11 : decode cX8_inLeastTerms 11 = .ok (.ifCond .eq 9, 3) := by decide +kernel
theorem dX8_inLeastTerms_14 : decode cX8_inLeastTerms 14 = .ok (.iload_n 0, 1) := by decide +kernel
theorem dX8_inLeastTerms_15 : decode cX8_inLeastTerms 15 = .ok (.iload_n 3, 1) := by decide +kernel
theorem dX8_inLeastTerms_16 : decode cX8_inLeastTerms 16 = .ok (.idiv, 1) := by decide +kernel
theorem dX8_inLeastTerms_17 : decode cX8_inLeastTerms 17 = .ok (.goto 6, 3) := by decide +kernel
theorem dX8_inLeastTerms_20 : decode cX8_inLeastTerms 20 = .ok (.iload_n 1, 1) := by decide +kernel
theorem dX8_inLeastTerms_21 : decode cX8_inLeastTerms 21 = .ok (.iload_n 3, 1) := by decide +kernel
theorem dX8_inLeastTerms_22 : decode cX8_inLeastTerms 22 = .ok (.idiv, 1) := by decide +kernel
theorem dX8_inLeastTerms_23 : decode cX8_inLeastTerms 23 = .ok (.ireturn, 1) := by decide +kernel
theorem dX8_greatestDivisor_0 : decode cX8_greatestDivisor 0 = .ok (.iload_n 0, 1) := by decide +kernel
theorem dX8_greatestDivisor_1 : decode cX8_greatestDivisor 1 = .ok (.istore_n 2, 1) := by decide +kernel
theorem dX8_greatestDivisor_2 : decode cX8_greatestDivisor 2 = .ok (.iload_n 1, 1) := by decide +kernel
theorem dX8_greatestDivisor_3 : decode cX8_greatestDivisor 3 = .ok (.istore_n 3, 1) := by decide +kernel
theorem dX8_greatestDivisor_4 : decode cX8_greatestDivisor 4 = .ok (.iconst 0, 1) := by decide +kernel
theorem dX8_greatestDivisor_5 : decode cX8_greatestDivisor 5 = .ok (.istore 4, 2) := by decide +kernel
theorem dX8_greatestDivisor_7 : decode cX8_greatestDivisor 7 = .ok (.iload 4, 2) := by decide +kernel
theorem dX8_greatestDivisor_9 : decode cX8_greatestDivisor 9 = .ok (.bipush 64, 2) := by decide +kernel
theorem dX8_greatestDivisor_11 : decode cX8_greatestDivisor 11 = .ok (.if_icmp .ge 23, 3) := by decide +kernel
theorem dX8_greatestDivisor_14 : decode cX8_greatestDivisor 14 = .ok (.iload_n 3, 1) := by decide +kernel
theorem dX8_greatestDivisor_15 : decode cX8_greatestDivisor 15 = .ok (.ifCond .eq 19, 3) := by decide +kernel
theorem dX8_greatestDivisor_18 : decode cX8_greatestDivisor 18 = .ok (.iload_n 2, 1) := by decide +kernel
theorem dX8_greatestDivisor_19 : decode cX8_greatestDivisor 19 = .ok (.iload_n 3, 1) := by decide +kernel
theorem dX8_greatestDivisor_20 : decode cX8_greatestDivisor 20 = .ok (.irem, 1) := by decide +kernel
theorem dX8_greatestDivisor_21 : decode cX8_greatestDivisor 21 = .ok (.istore 5, 2) := by decide +kernel
theorem dX8_greatestDivisor_23 : decode cX8_greatestDivisor 23 = .ok (.iload_n 3, 1) := by decide +kernel
theorem dX8_greatestDivisor_24 : decode cX8_greatestDivisor 24 = .ok (.istore_n 2, 1) := by decide +kernel
theorem dX8_greatestDivisor_25 : decode cX8_greatestDivisor 25 = .ok (.iload 5, 2) := by decide +kernel
theorem dX8_greatestDivisor_27 : decode cX8_greatestDivisor 27 = .ok (.istore_n 3, 1) := by decide +kernel
theorem dX8_greatestDivisor_28 : decode cX8_greatestDivisor 28 = .ok (.iinc 4 1, 3) := by decide +kernel
theorem dX8_greatestDivisor_31 : decode cX8_greatestDivisor 31 = .ok (.goto (-24), 3) := by decide +kernel
theorem dX8_greatestDivisor_34 : decode cX8_greatestDivisor 34 = .ok (.iload_n 2, 1) := by decide +kernel
theorem dX8_greatestDivisor_35 : decode cX8_greatestDivisor 35 = .ok (.ireturn, 1) := by decide +kernel
theorem dX9_in_0 : decode cX9_in 0 = .ok (.lload_n 0, 1) := by decide +kernel
theorem dX9_in_1 : decode cX9_in 1 = .ok (.lload_n 2, 1) := by decide +kernel
theorem dX9_in_2 : decode cX9_in 2 = .ok (.lcmp, 1) := by decide +kernel
theorem dX9_in_3 : decode cX9_in 3 = .ok (.ifCond .lt 14, 3) := by decide +kernel
theorem dX9_in_6 : decode cX9_in 6 = .ok (.lload_n 0, 1) := by decide +kernel
theorem dX9_in_7 : decode cX9_in 7 = .ok (.lload 4, 2) := by decide +kernel
theorem dX9_in_9 : decode cX9_in 9 = .ok (.lcmp, 1) := by decide +kernel
theorem dX9_in_10 : decode cX9_in 10 = .ok (.ifCond .gt 7, 3) := by decide +kernel
theorem dX9_in_13 : decode cX9_in 13 = .ok (.iconst 1, 1) := by decide +kernel
theorem dX9_in_14 : decode cX9_in 14 = .ok (.goto 4, 3) := by decide +kernel
theorem dX9_in_17 : decode cX9_in 17 = .ok (.iconst 0, 1) := by decide +kernel
theorem dX9_in_18 : decode cX9_in 18 = .ok (.ireturn, 1) := by decide +kernel
theorem dX9_has_0 : decode cX9_has 0 = .ok (.iload_n 0, 1) := by decide +kernel
theorem dX9_has_1 : decode cX9_has 1 = .ok (.iload_n 1, 1) := by decide +kernel
theorem dX9_has_2 : decode cX9_has 2 = .ok (.ishr, 1) := by decide +kernel
theorem dX9_has_3 : decode cX9_has 3 = .ok (.iconst 1, 1) := by decide +kernel
theorem dX9_has_4 : decode cX9_has 4 = .ok (.iand, 1) := by decide +kernel
theorem dX9_has_5 : decode cX9_has 5 = .ok (.iconst 1, 1) := by decide +kernel
theorem dX9_has_6 : decode cX9_has 6 = .ok (.if_icmp .ne 7, 3) := by decide +kernel
theorem dX9_has_9 : decode cX9_has 9 = .ok (.iconst 1, 1) := by decide +kernel
theorem dX9_has_10 : decode cX9_has 10 = .ok (.goto 4, 3) := by decide +kernel
theorem dX9_has_13 : decode cX9_has 13 = .ok (.iconst 0, 1) := by decide +kernel
theorem dX9_has_14 : decode cX9_has 14 = .ok (.ireturn, 1) := by decide +kernel
theorem dX9_ones_0 : decode cX9_ones 0 = .ok (.iconst 0, 1) := by decide +kernel
theorem dX9_ones_1 : decode cX9_ones 1 = .ok (.istore_n 1, 1) := by decide +kernel
theorem dX9_ones_2 : decode cX9_ones 2 = .ok (.iconst 0, 1) := by decide +kernel
theorem dX9_ones_3 : decode cX9_ones 3 = .ok (.istore_n 2, 1) := by decide +kernel
theorem dX9_ones_4 : decode cX9_ones 4 = .ok (.iload_n 2, 1) := by decide +kernel
theorem dX9_ones_5 : decode cX9_ones 5 = .ok (.bipush 20, 2) := by decide +kernel
theorem dX9_ones_7 : decode cX9_ones 7 = .ok (.if_icmp .ge 17, 3) := by decide +kernel
theorem dX9_ones_10 : decode cX9_ones 10 = .ok (.iload_n 1, 1) := by decide +kernel
theorem dX9_ones_11 : decode cX9_ones 11 = .ok (.iload_n 0, 1) := by decide +kernel
theorem dX9_ones_12 : decode cX9_ones 12 = .ok (.iload_n 2, 1) := by decide +kernel
theorem dX9_ones_13 : decode cX9_ones 13 = .ok (.ishr, 1) := by decide +kernel
theorem dX9_ones_14 : decode cX9_ones 14 = .ok (.iconst 1, 1) := by decide +kernel
theorem dX9_ones_15 : decode cX9_ones 15 = .ok (.iand, 1) := by decide +kernel
theorem dX9_ones_16 : decode cX9_ones 16 = .ok (.iadd, 1) := by decide +kernel
theorem dX9_ones_17 : decode cX9_ones 17 = .ok (.istore_n 1, 1) := by decide +kernel
theorem dX9_ones_18 : decode cX9_ones 18 = .ok (.iinc 2 1, 3) := by decide +kernel
theorem dX9_ones_21 : decode cX9_ones 21 = .ok (.goto (-17), 3) := by decide +kernel
theorem dX9_ones_24 : decode cX9_ones 24 = .ok (.iload_n 1, 1) := by decide +kernel
theorem dX9_ones_25 : decode cX9_ones 25 = .ok (.ireturn, 1) := by decide +kernel
theorem dX9_cells_0 : decode cX9_cells 0 = .ok (.aload_n 0, 1) := by decide +kernel
theorem dX9_cells_1 : decode cX9_cells 1 = .ok (.iconst 0, 1) := by decide +kernel
theorem dX9_cells_2 : decode cX9_cells 2 = .ok (.iaload, 1) := by decide +kernel
theorem dX9_cells_3 : decode cX9_cells 3 = .ok (.aload_n 0, 1) := by decide +kernel
theorem dX9_cells_4 : decode cX9_cells 4 = .ok (.iconst 1, 1) := by decide +kernel
theorem dX9_cells_5 : decode cX9_cells 5 = .ok (.iaload, 1) := by decide +kernel
theorem dX9_cells_6 : decode cX9_cells 6 = .ok (.imul, 1) := by decide +kernel
theorem dX9_cells_7 : decode cX9_cells 7 = .ok (.ireturn, 1) := by decide +kernel
theorem dX9_isYes_0 : decode cX9_isYes 0 = .ok (.iload_n 1, 1) := by decide +kernel
theorem dX9_isYes_1 : decode cX9_isYes 1 = .ok (.aload_n 0, 1) := by decide +kernel
theorem dX9_isYes_2 : decode cX9_isYes 2 = .ok (.invokestatic 69, 3) := by decide +kernel
theorem dX9_isYes_5 : decode cX9_isYes 5 = .ok (.iconst 1, 1) := by decide +kernel
theorem dX9_isYes_6 : decode cX9_isYes 6 = .ok (.isub, 1) := by decide +kernel
theorem dX9_isYes_7 : decode cX9_isYes 7 = .ok (.iload_n 2, 1) := by decide +kernel
theorem dX9_isYes_8 : decode cX9_isYes 8 = .ok (.isub, 1) := by decide +kernel
theorem dX9_isYes_9 : decode cX9_isYes 9 = .ok (.invokestatic 73, 3) := by decide +kernel
theorem dX9_isYes_12 : decode cX9_isYes 12 = .ok (.ireturn, 1) := by decide +kernel
theorem dX9_noCell_0 : decode cX9_noCell 0 = .ok (.iload_n 1, 1) := by decide +kernel
theorem dX9_noCell_1 : decode cX9_noCell 1 = .ok (.i2l, 1) := by decide +kernel
theorem dX9_noCell_2 : decode cX9_noCell 2 = .ok (.lconst 0, 1) := by decide +kernel
theorem dX9_noCell_3 : decode cX9_noCell 3 = .ok (.aload_n 0, 1) := by decide +kernel
theorem dX9_noCell_4 : decode cX9_noCell 4 = .ok (.getfield 16, 3) := by decide +kernel
theorem dX9_noCell_7 : decode cX9_noCell 7 = .ok (.invokestatic 69, 3) := by decide +kernel
theorem dX9_noCell_10 : decode cX9_noCell 10 = .ok (.iconst 1, 1) := by decide +kernel
theorem dX9_noCell_11 : decode cX9_noCell 11 = .ok (.isub, 1) := by decide +kernel
theorem dX9_noCell_12 : decode cX9_noCell 12 = .ok (.i2l, 1) := by decide +kernel
theorem dX9_noCell_13 : decode cX9_noCell 13 = .ok (.invokestatic 77, 3) := by decide +kernel
theorem dX9_noCell_16 : decode cX9_noCell 16 = .ok (.ifCond .ne 7, 3) := by decide +kernel
theorem dX9_noCell_19 : decode cX9_noCell 19 = .ok (.iconst 1, 1) := by decide +kernel
theorem dX9_noCell_20 : decode cX9_noCell 20 = .ok (.goto 4, 3) := by decide +kernel
theorem dX9_noCell_23 : decode cX9_noCell 23 = .ok (.iconst 0, 1) := by decide +kernel
theorem dX9_noCell_24 : decode cX9_noCell 24 = .ok (.ireturn, 1) := by decide +kernel
theorem dX9_lay_0 : decode cX9_lay 0 = .ok (.iconst 0, 1) := by decide +kernel
theorem dX9_lay_1 : decode cX9_lay 1 = .ok (.istore_n 2, 1) := by decide +kernel
theorem dX9_lay_2 : decode cX9_lay 2 = .ok (.iload_n 2, 1) := by decide +kernel
theorem dX9_lay_3 : decode cX9_lay 3 = .ok (.bipush 32, 2) := by decide +kernel
theorem dX9_lay_5 : decode cX9_lay 5 = .ok (.if_icmp .ge 15, 3) := by decide +kernel
theorem dX9_lay_8 : decode cX9_lay 8 = .ok (.aload_n 0, 1) := by decide +kernel
theorem dX9_lay_9 : decode cX9_lay 9 = .ok (.iload_n 2, 1) := by decide +kernel
theorem dX9_lay_10 : decode cX9_lay 10 = .ok (.aload_n 1, 1) := by decide +kernel
theorem dX9_lay_11 : decode cX9_lay 11 = .ok (.iload_n 2, 1) := by decide +kernel
theorem dX9_lay_12 : decode cX9_lay 12 = .ok (.iaload, 1) := by decide +kernel
theorem dX9_lay_13 : decode cX9_lay 13 = .ok (.iastore, 1) := by decide +kernel
theorem dX9_lay_14 : decode cX9_lay 14 = .ok (.iinc 2 1, 3) := by decide +kernel
theorem dX9_lay_17 : decode cX9_lay 17 = .ok (.goto (-15), 3) := by decide +kernel
theorem dX9_lay_20 : decode cX9_lay 20 = .ok (.return_, 1) := by decide +kernel
theorem dX9_write_0 : decode cX9_write 0 = .ok (.aload_n 0, 1) := by decide +kernel
theorem dX9_write_1 : decode cX9_write 1 = .ok (.iconst 0, 1) := by decide +kernel
theorem dX9_write_2 : decode cX9_write 2 = .ok (.putfield 65, 3) := by decide +kernel
theorem dX9_write_5 : decode cX9_write 5 = .ok (.iload_n 1, 1) := by decide +kernel
theorem dX9_write_6 : decode cX9_write 6 = .ok (.i2l, 1) := by decide +kernel
theorem dX9_write_7 : decode cX9_write 7 = .ok (.lconst 0, 1) := by decide +kernel
theorem dX9_write_8 : decode cX9_write 8 = .ok (.ldc2_w 81, 3) := by decide +kernel
theorem dX9_write_11 : decode cX9_write 11 = .ok (.invokestatic 77, 3) := by decide +kernel
theorem dX9_write_14 : decode cX9_write 14 = .ok (.ifCond .ne 6, 3) := by decide +kernel
theorem dX9_write_17 : decode cX9_write 17 = .ok (.bipush (-2), 2) := by decide +kernel
theorem dX9_write_19 : decode cX9_write 19 = .ok (.ireturn, 1) := by decide +kernel
theorem dX9_write_20 : decode cX9_write 20 = .ok (.aload_n 0, 1) := by decide +kernel
theorem dX9_write_21 : decode cX9_write 21 = .ok (.getfield 83, 3) := by decide +kernel
theorem dX9_write_24 : decode cX9_write 24 = .ok (.bipush 40, 2) := by decide +kernel
theorem dX9_write_26 : decode cX9_write 26 = .ok (.if_icmp .ne 6, 3) := by decide +kernel
theorem dX9_write_29 : decode cX9_write 29 = .ok (.bipush (-4), 2) := by decide +kernel
theorem dX9_write_31 : decode cX9_write 31 = .ok (.ireturn, 1) := by decide +kernel
theorem dX9_write_32 : decode cX9_write 32 = .ok (.aload_n 0, 1) := by decide +kernel
theorem dX9_write_33 : decode cX9_write 33 = .ok (.getfield 7, 3) := by decide +kernel
theorem dX9_write_36 : decode cX9_write 36 = .ok (.aload_n 0, 1) := by decide +kernel
theorem dX9_write_37 : decode cX9_write 37 = .ok (.getfield 83, 3) := by decide +kernel
theorem dX9_write_40 : decode cX9_write 40 = .ok (.iload_n 1, 1) := by decide +kernel
theorem dX9_write_41 : decode cX9_write 41 = .ok (.iastore, 1) := by decide +kernel
theorem dX9_write_42 : decode cX9_write 42 = .ok (.aload_n 0, 1) := by decide +kernel
theorem dX9_write_43 : decode cX9_write 43 = .ok (.dup, 1) := by decide +kernel
theorem dX9_write_44 : decode cX9_write 44 = .ok (.getfield 83, 3) := by decide +kernel
theorem dX9_write_47 : decode cX9_write 47 = .ok (.iconst 1, 1) := by decide +kernel
theorem dX9_write_48 : decode cX9_write 48 = .ok (.iadd, 1) := by decide +kernel
theorem dX9_write_49 : decode cX9_write 49 = .ok (.putfield 83, 3) := by decide +kernel
theorem dX9_write_52 : decode cX9_write 52 = .ok (.aload_n 0, 1) := by decide +kernel
theorem dX9_write_53 : decode cX9_write 53 = .ok (.getfield 83, 3) := by decide +kernel
theorem dX9_write_56 : decode cX9_write 56 = .ok (.ireturn, 1) := by decide +kernel
theorem dX9_wipe_0 : decode cX9_wipe 0 = .ok (.aload_n 0, 1) := by decide +kernel
theorem dX9_wipe_1 : decode cX9_wipe 1 = .ok (.iconst 0, 1) := by decide +kernel
theorem dX9_wipe_2 : decode cX9_wipe 2 = .ok (.putfield 65, 3) := by decide +kernel
theorem dX9_wipe_5 : decode cX9_wipe 5 = .ok (.aload_n 0, 1) := by decide +kernel
theorem dX9_wipe_6 : decode cX9_wipe 6 = .ok (.getfield 83, 3) := by decide +kernel
theorem dX9_wipe_9 : decode cX9_wipe 9 = .ok (.istore_n 1, 1) := by decide +kernel
theorem dX9_wipe_10 : decode cX9_wipe 10 = .ok (.aload_n 0, 1) := by decide +kernel
theorem dX9_wipe_11 : decode cX9_wipe 11 = .ok (.iconst 0, 1) := by decide +kernel
theorem dX9_wipe_12 : decode cX9_wipe 12 = .ok (.putfield 83, 3) := by decide +kernel
theorem dX9_wipe_15 : decode cX9_wipe 15 = .ok (.iload_n 1, 1) := by decide +kernel
theorem dX9_wipe_16 : decode cX9_wipe 16 = .ok (.ireturn, 1) := by decide +kernel
theorem dX9_figure_0 : decode cX9_figure 0 = .ok (.iload_n 1, 1) := by decide +kernel
theorem dX9_figure_1 : decode cX9_figure 1 = .ok (.aload_n 0, 1) := by decide +kernel
theorem dX9_figure_2 : decode cX9_figure 2 = .ok (.getfield 83, 3) := by decide +kernel
theorem dX9_figure_5 : decode cX9_figure 5 = .ok (.if_icmp .ge 35, 3) := by decide +kernel
theorem dX9_figure_8 : decode cX9_figure 8 = .ok (.aload_n 0, 1) := by decide +kernel
theorem dX9_figure_9 : decode cX9_figure 9 = .ok (.getfield 7, 3) := by decide +kernel
theorem dX9_figure_12 : decode cX9_figure 12 = .ok (.iload_n 1, 1) := by decide +kernel
theorem dX9_figure_13 : decode cX9_figure 13 = .ok (.iaload, 1) := by decide +kernel
theorem dX9_figure_14 : decode cX9_figure 14 = .ok (.bipush 48, 2) := by decide +kernel
theorem dX9_figure_16 : decode cX9_figure 16 = .ok (.isub, 1) := by decide +kernel
theorem dX9_figure_17 : decode cX9_figure 17 = .ok (.i2l, 1) := by decide +kernel
theorem dX9_figure_18 : decode cX9_figure 18 = .ok (.iload_n 2, 1) := by decide +kernel
theorem dX9_figure_19 : decode cX9_figure 19 = .ok (.i2l, 1) := by decide +kernel
theorem dX9_figure_20 : decode cX9_figure 20 = .ok (.iload_n 3, 1) := by decide +kernel
theorem dX9_figure_21 : decode cX9_figure 21 = .ok (.i2l, 1) := by decide +kernel
theorem dX9_figure_22 : decode cX9_figure 22 = .ok (.invokestatic 77, 3) := by decide +kernel
theorem dX9_figure_25 : decode cX9_figure 25 = .ok (.ifCond .eq 15, 3) := by decide +kernel
theorem dX9_figure_28 : decode cX9_figure 28 = .ok (.aload_n 0, 1) := by decide +kernel
theorem dX9_figure_29 : decode cX9_figure 29 = .ok (.getfield 7, 3) := by decide +kernel
theorem dX9_figure_32 : decode cX9_figure 32 = .ok (.iload_n 1, 1) := by decide +kernel
theorem dX9_figure_33 : decode cX9_figure 33 = .ok (.iaload, 1) := by decide +kernel
theorem dX9_figure_34 : decode cX9_figure 34 = .ok (.bipush 48, 2) := by decide +kernel
theorem dX9_figure_36 : decode cX9_figure 36 = .ok (.isub, 1) := by decide +kernel
theorem dX9_figure_37 : decode cX9_figure 37 = .ok (.goto 5, 3) := by decide +kernel
theorem dX9_figure_40 : decode cX9_figure 40 = .ok (.bipush (-9), 2) := by decide +kernel
theorem dX9_figure_42 : decode cX9_figure 42 = .ok (.ireturn, 1) := by decide +kernel
theorem dX9_pinned_0 : decode cX9_pinned 0 = .ok (.iconst 0, 1) := by decide +kernel
theorem dX9_pinned_1 : decode cX9_pinned 1 = .ok (.istore_n 1, 1) := by decide +kernel
theorem dX9_pinned_2 : decode cX9_pinned 2 = .ok (.iconst 0, 1) := by decide +kernel
theorem dX9_pinned_3 : decode cX9_pinned 3 = .ok (.istore_n 2, 1) := by decide +kernel
theorem dX9_pinned_4 : decode cX9_pinned 4 = .ok (.iload_n 2, 1) := by decide +kernel
theorem dX9_pinned_5 : decode cX9_pinned 5 = .ok (.aload_n 0, 1) := by decide +kernel
theorem dX9_pinned_6 : decode cX9_pinned 6 = .ok (.invokestatic 69, 3) := by decide +kernel
theorem dX9_pinned_9 : decode cX9_pinned 9 = .ok (.if_icmp .ge 26, 3) := by decide +kernel
theorem dX9_pinned_12 : decode cX9_pinned 12 = .ok (.iload_n 1, 1) := by decide +kernel
theorem dX9_pinned_13 : decode cX9_pinned 13 = .ok (.aload_n 0, 1) := by decide +kernel
theorem dX9_pinned_14 : decode cX9_pinned 14 = .ok (.bipush 11, 2) := by decide +kernel
theorem dX9_pinned_16 : decode cX9_pinned 16 = .ok (.iload_n 2, 1) := by decide +kernel
theorem dX9_pinned_17 : decode cX9_pinned 17 = .ok (.iadd, 1) := by decide +kernel
theorem dX9_pinned_18 : decode cX9_pinned 18 = .ok (.iaload, 1) := by decide +kernel
theorem dX9_pinned_19 : decode cX9_pinned 19 = .ok (.ifCond .le 7, 3) := by decide +kernel
theorem dX9_pinned_22 : decode cX9_pinned 22 = .ok (.iconst 1, 1) := by decide +kernel
theorem dX9_pinned_23 : decode cX9_pinned 23 = .ok (.goto 4, 3) := by decide +kernel
theorem dX9_pinned_26 : decode cX9_pinned 26 = .ok (.iconst 0, 1) := by decide +kernel
theorem dX9_pinned_27 : decode cX9_pinned 27 = .ok (.iadd, 1) := by decide +kernel
theorem dX9_pinned_28 : decode cX9_pinned 28 = .ok (.istore_n 1, 1) := by decide +kernel
theorem dX9_pinned_29 : decode cX9_pinned 29 = .ok (.iinc 2 1, 3) := by decide +kernel
theorem dX9_pinned_32 : decode cX9_pinned 32 = .ok (.goto (-28), 3) := by decide +kernel
theorem dX9_pinned_35 : decode cX9_pinned 35 = .ok (.iload_n 1, 1) := by decide +kernel
theorem dX9_pinned_36 : decode cX9_pinned 36 = .ok (.ireturn, 1) := by decide +kernel
theorem dX9_isFullRow_0 : decode cX9_isFullRow 0 = .ok (.iconst 1, 1) := by decide +kernel
theorem dX9_isFullRow_1 : decode cX9_isFullRow 1 = .ok (.istore_n 2, 1) := by decide +kernel
theorem dX9_isFullRow_2 : decode cX9_isFullRow 2 = .ok (.iconst 0, 1) := by decide +kernel
theorem dX9_isFullRow_3 : decode cX9_isFullRow 3 = .ok (.istore_n 3, 1) := by decide +kernel
theorem dX9_isFullRow_4 : decode cX9_isFullRow 4 = .ok (.iload_n 3, 1) := by decide +kernel
theorem dX9_isFullRow_5 : decode cX9_isFullRow 5 = .ok (.aload_n 0, 1) := by decide +kernel
theorem dX9_isFullRow_6 : decode cX9_isFullRow 6 = .ok (.iconst 1, 1) := by decide +kernel
theorem dX9_isFullRow_7 : decode cX9_isFullRow 7 = .ok (.iaload, 1) := by decide +kernel
theorem dX9_isFullRow_8 : decode cX9_isFullRow 8 = .ok (.if_icmp .ge 34, 3) := by decide +kernel
theorem dX9_isFullRow_11 : decode cX9_isFullRow 11 = .ok (.iload_n 2, 1) := by decide +kernel
theorem dX9_isFullRow_12 : decode cX9_isFullRow 12 = .ok (.ifCond .eq 22, 3) := by decide +kernel
theorem dX9_isFullRow_15 : decode cX9_isFullRow 15 = .ok (.aload_n 0, 1) := by decide +kernel
theorem dX9_isFullRow_16 : decode cX9_isFullRow 16 = .ok (.bipush 11, 2) := by decide +kernel
theorem dX9_isFullRow_18 : decode cX9_isFullRow 18 = .ok (.aload_n 0, 1) := by decide +kernel
theorem dX9_isFullRow_19 : decode cX9_isFullRow 19 = .ok (.iconst 1, 1) := by decide +kernel
theorem dX9_isFullRow_20 : decode cX9_isFullRow 20 = .ok (.iaload, 1) := by decide +kernel
theorem dX9_isFullRow_21 : decode cX9_isFullRow 21 = .ok (.iload_n 1, 1) := by decide +kernel
theorem dX9_isFullRow_22 : decode cX9_isFullRow 22 = .ok (.imul, 1) := by decide +kernel
theorem dX9_isFullRow_23 : decode cX9_isFullRow 23 = .ok (.iadd, 1) := by decide +kernel
theorem dX9_isFullRow_24 : decode cX9_isFullRow 24 = .ok (.iload_n 3, 1) := by decide +kernel
theorem dX9_isFullRow_25 : decode cX9_isFullRow 25 = .ok (.iadd, 1) := by decide +kernel
theorem dX9_isFullRow_26 : decode cX9_isFullRow 26 = .ok (.iaload, 1) := by decide +kernel
theorem dX9_isFullRow_27 : decode cX9_isFullRow 27 = .ok (.ifCond .le 7, 3) := by decide +kernel
theorem dX9_isFullRow_30 : decode cX9_isFullRow 30 = .ok (.iconst 1, 1) := by decide +kernel
theorem dX9_isFullRow_31 : decode cX9_isFullRow 31 = .ok (.goto 4, 3) := by decide +kernel
theorem dX9_isFullRow_34 : decode cX9_isFullRow 34 = .ok (.iconst 0, 1) := by decide +kernel
theorem dX9_isFullRow_35 : decode cX9_isFullRow 35 = .ok (.istore_n 2, 1) := by decide +kernel
theorem dX9_isFullRow_36 : decode cX9_isFullRow 36 = .ok (.iinc 3 1, 3) := by decide +kernel
theorem dX9_isFullRow_39 : decode cX9_isFullRow 39 = .ok (.goto (-35), 3) := by decide +kernel
theorem dX9_isFullRow_42 : decode cX9_isFullRow 42 = .ok (.iload_n 2, 1) := by decide +kernel
theorem dX9_isFullRow_43 : decode cX9_isFullRow 43 = .ok (.ireturn, 1) := by decide +kernel
theorem dX9_readPins_0 : decode cX9_readPins 0 = .ok (.iload_n 1, 1) := by decide +kernel
theorem dX9_readPins_1 : decode cX9_readPins 1 = .ok (.istore_n 2, 1) := by decide +kernel
theorem dX9_readPins_2 : decode cX9_readPins 2 = .ok (.iload_n 2, 1) := by decide +kernel
theorem dX9_readPins_3 : decode cX9_readPins 3 = .ok (.aload_n 0, 1) := by decide +kernel
theorem dX9_readPins_4 : decode cX9_readPins 4 = .ok (.getfield 83, 3) := by decide +kernel
theorem dX9_readPins_7 : decode cX9_readPins 7 = .ok (.if_icmp .ge 193, 3) := by decide +kernel
theorem dX9_readPins_10 : decode cX9_readPins 10 = .ok (.aload_n 0, 1) := by decide +kernel
theorem dX9_readPins_11 : decode cX9_readPins 11 = .ok (.getfield 7, 3) := by decide +kernel
theorem dX9_readPins_14 : decode cX9_readPins 14 = .ok (.iload_n 2, 1) := by decide +kernel
theorem dX9_readPins_15 : decode cX9_readPins 15 = .ok (.iaload, 1) := by decide +kernel
theorem dX9_readPins_16 : decode cX9_readPins 16 = .ok (.bipush 111, 2) := by decide +kernel
theorem dX9_readPins_18 : decode cX9_readPins 18 = .ok (.if_icmp .ne 7, 3) := by decide +kernel
theorem dX9_readPins_21 : decode cX9_readPins 21 = .ok (.iconst 1, 1) := by decide +kernel
theorem dX9_readPins_22 : decode cX9_readPins 22 = .ok (.goto 4, 3) := by decide +kernel
theorem dX9_readPins_25 : decode cX9_readPins 25 = .ok (.iconst 0, 1) := by decide +kernel
theorem dX9_readPins_26 : decode cX9_readPins 26 = .ok (.istore_n 3, 1) := by decide +kernel
theorem dX9_readPins_27 : decode cX9_readPins 27 = .ok (.aload_n 0, 1) := by decide +kernel
theorem dX9_readPins_28 : decode cX9_readPins 28 = .ok (.getfield 13, 3) := by decide +kernel
theorem dX9_readPins_31 : decode cX9_readPins 31 = .ok (.invokestatic 86, 3) := by decide +kernel
theorem dX9_readPins_34 : decode cX9_readPins 34 = .ok (.istore 4, 2) := by decide +kernel
theorem dX9_readPins_36 : decode cX9_readPins 36 = .ok (.iload_n 3, 1) := by decide +kernel
theorem dX9_readPins_37 : decode cX9_readPins 37 = .ok (.ifCond .ne 14, 3) := by decide +kernel
theorem dX9_readPins_40 : decode cX9_readPins 40 = .ok (.aload_n 0, 1) := by decide +kernel
theorem dX9_readPins_41 : decode cX9_readPins 41 = .ok (.getfield 7, 3) := by decide +kernel
theorem dX9_readPins_44 : decode cX9_readPins 44 = .ok (.iload_n 2, 1) := by decide +kernel
theorem dX9_readPins_45 : decode cX9_readPins 45 = .ok (.iaload, 1) := by decide +kernel
theorem dX9_readPins_46 : decode cX9_readPins 46 = .ok (.bipush 120, 2) := by decide +kernel
theorem dX9_readPins_48 : decode cX9_readPins 48 = .ok (.if_icmp .ne 22, 3) := by decide +kernel
theorem dX9_readPins_51 : decode cX9_readPins 51 = .ok (.iload 4, 2) := by decide +kernel
theorem dX9_readPins_53 : decode cX9_readPins 53 = .ok (.bipush 6, 2) := by decide +kernel
theorem dX9_readPins_55 : decode cX9_readPins 55 = .ok (.if_icmp .eq 15, 3) := by decide +kernel
theorem dX9_readPins_58 : decode cX9_readPins 58 = .ok (.iload 4, 2) := by decide +kernel
theorem dX9_readPins_60 : decode cX9_readPins 60 = .ok (.aload_n 0, 1) := by decide +kernel
theorem dX9_readPins_61 : decode cX9_readPins 61 = .ok (.getfield 13, 3) := by decide +kernel
theorem dX9_readPins_64 : decode cX9_readPins 64 = .ok (.invokestatic 69, 3) := by decide +kernel
theorem dX9_readPins_67 : decode cX9_readPins 67 = .ok (.if_icmp .ne 5, 3) := by decide +kernel
theorem dX9_readPins_70 : decode cX9_readPins 70 = .ok (.iload_n 2, 1) := by decide +kernel
theorem dX9_readPins_71 : decode cX9_readPins 71 = .ok (.ireturn, 1) := by decide +kernel
theorem dX9_readPins_72 : decode cX9_readPins 72 = .ok (.aload_n 0, 1) := by decide +kernel
theorem dX9_readPins_73 : decode cX9_readPins 73 = .ok (.iload_n 2, 1) := by decide +kernel
theorem dX9_readPins_74 : decode cX9_readPins 74 = .ok (.iconst 1, 1) := by decide +kernel
theorem dX9_readPins_75 : decode cX9_readPins 75 = .ok (.iadd, 1) := by decide +kernel
theorem dX9_readPins_76 : decode cX9_readPins 76 = .ok (.iconst 0, 1) := by decide +kernel
theorem dX9_readPins_77 : decode cX9_readPins 77 = .ok (.aload_n 0, 1) := by decide +kernel
theorem dX9_readPins_78 : decode cX9_readPins 78 = .ok (.getfield 13, 3) := by decide +kernel
theorem dX9_readPins_81 : decode cX9_readPins 81 = .ok (.iconst 0, 1) := by decide +kernel
theorem dX9_readPins_82 : decode cX9_readPins 82 = .ok (.iaload, 1) := by decide +kernel
theorem dX9_readPins_83 : decode cX9_readPins 83 = .ok (.iconst 1, 1) := by decide +kernel
theorem dX9_readPins_84 : decode cX9_readPins 84 = .ok (.isub, 1) := by decide +kernel
theorem dX9_readPins_85 : decode cX9_readPins 85 = .ok (.invokevirtual 89, 3) := by decide +kernel
theorem dX9_readPins_88 : decode cX9_readPins 88 = .ok (.istore 5, 2) := by decide +kernel
theorem dX9_readPins_90 : decode cX9_readPins 90 = .ok (.iload 5, 2) := by decide +kernel
theorem dX9_readPins_92 : decode cX9_readPins 92 = .ok (.bipush (-9), 2) := by decide +kernel
theorem dX9_readPins_94 : decode cX9_readPins 94 = .ok (.if_icmp .eq 15, 3) := by decide +kernel
theorem dX9_readPins_97 : decode cX9_readPins 97 = .ok (.aload_n 0, 1) := by decide +kernel
theorem dX9_readPins_98 : decode cX9_readPins 98 = .ok (.getfield 13, 3) := by decide +kernel
theorem dX9_readPins_101 : decode cX9_readPins 101 = .ok (.iload 5, 2) := by decide +kernel
theorem dX9_readPins_103 : decode cX9_readPins 103 = .ok (.invokestatic 93, 3) := by decide +kernel
theorem dX9_readPins_106 : decode cX9_readPins 106 = .ok (.ifCond .eq 7, 3) := by decide +kernel
theorem dX9_readPins_109 : decode cX9_readPins 109 = .ok (.iload_n 2, 1) := by decide +kernel
theorem dX9_readPins_110 : decode cX9_readPins 110 = .ok (.iconst 1, 1) := by decide +kernel
theorem dX9_readPins_111 : decode cX9_readPins 111 = .ok (.iadd, 1) := by decide +kernel
theorem dX9_readPins_112 : decode cX9_readPins 112 = .ok (.ireturn, 1) := by decide +kernel
theorem dX9_readPins_113 : decode cX9_readPins 113 = .ok (.aload_n 0, 1) := by decide +kernel
theorem dX9_readPins_114 : decode cX9_readPins 114 = .ok (.iload_n 2, 1) := by decide +kernel
theorem dX9_readPins_115 : decode cX9_readPins 115 = .ok (.iconst 2, 1) := by decide +kernel
theorem dX9_readPins_116 : decode cX9_readPins 116 = .ok (.iadd, 1) := by decide +kernel
theorem dX9_readPins_117 : decode cX9_readPins 117 = .ok (.iconst 0, 1) := by decide +kernel
theorem dX9_readPins_118 : decode cX9_readPins 118 = .ok (.aload_n 0, 1) := by decide +kernel
theorem dX9_readPins_119 : decode cX9_readPins 119 = .ok (.getfield 13, 3) := by decide +kernel
theorem dX9_readPins_122 : decode cX9_readPins 122 = .ok (.iconst 1, 1) := by decide +kernel
theorem dX9_readPins_123 : decode cX9_readPins 123 = .ok (.iaload, 1) := by decide +kernel
theorem dX9_readPins_124 : decode cX9_readPins 124 = .ok (.iconst 1, 1) := by decide +kernel
theorem dX9_readPins_125 : decode cX9_readPins 125 = .ok (.isub, 1) := by decide +kernel
theorem dX9_readPins_126 : decode cX9_readPins 126 = .ok (.invokevirtual 89, 3) := by decide +kernel
theorem dX9_readPins_129 : decode cX9_readPins 129 = .ok (.istore 6, 2) := by decide +kernel
theorem dX9_readPins_131 : decode cX9_readPins 131 = .ok (.iload 6, 2) := by decide +kernel
theorem dX9_readPins_133 : decode cX9_readPins 133 = .ok (.bipush (-9), 2) := by decide +kernel
theorem dX9_readPins_135 : decode cX9_readPins 135 = .ok (.if_icmp .eq 26, 3) := by decide +kernel
theorem dX9_readPins_138 : decode cX9_readPins 138 = .ok (.aload_n 0, 1) := by decide +kernel
theorem dX9_readPins_139 : decode cX9_readPins 139 = .ok (.getfield 13, 3) := by decide +kernel
theorem dX9_readPins_142 : decode cX9_readPins 142 = .ok (.bipush 11, 2) := by decide +kernel
theorem dX9_readPins_144 : decode cX9_readPins 144 = .ok (.aload_n 0, 1) := by decide +kernel
theorem dX9_readPins_145 : decode cX9_readPins 145 = .ok (.getfield 13, 3) := by decide +kernel
theorem dX9_readPins_148 : decode cX9_readPins 148 = .ok (.iconst 1, 1) := by decide +kernel
theorem dX9_readPins_149 : decode cX9_readPins 149 = .ok (.iaload, 1) := by decide +kernel
theorem dX9_readPins_150 : decode cX9_readPins 150 = .ok (.iload 5, 2) := by decide +kernel
theorem dX9_readPins_152 : decode cX9_readPins 152 = .ok (.imul, 1) := by decide +kernel
theorem dX9_readPins_153 : decode cX9_readPins 153 = .ok (.iadd, 1) := by decide +kernel
theorem dX9_readPins_154 : decode cX9_readPins 154 = .ok (.iload 6, 2) := by decide +kernel
theorem dX9_readPins_156 : decode cX9_readPins 156 = .ok (.iadd, 1) := by decide +kernel
theorem dX9_readPins_157 : decode cX9_readPins 157 = .ok (.iaload, 1) := by decide +kernel
theorem dX9_readPins_158 : decode cX9_readPins 158 = .ok (.ifCond .le 7, 3) := by decide +kernel
theorem dX9_readPins_161 : decode cX9_readPins 161 = .ok (.iload_n 2, 1) := by decide +kernel
theorem dX9_readPins_162 : decode cX9_readPins 162 = .ok (.iconst 2, 1) := by decide +kernel
theorem dX9_readPins_163 : decode cX9_readPins 163 = .ok (.iadd, 1) := by decide +kernel
theorem dX9_readPins_164 : decode cX9_readPins 164 = .ok (.ireturn, 1) := by decide +kernel
theorem dX9_readPins_165 : decode cX9_readPins 165 = .ok (.aload_n 0, 1) := by decide +kernel
theorem dX9_readPins_166 : decode cX9_readPins 166 = .ok (.getfield 13, 3) := by decide +kernel
theorem dX9_readPins_169 : decode cX9_readPins 169 = .ok (.bipush 11, 2) := by decide +kernel
theorem dX9_readPins_171 : decode cX9_readPins 171 = .ok (.aload_n 0, 1) := by decide +kernel
theorem dX9_readPins_172 : decode cX9_readPins 172 = .ok (.getfield 13, 3) := by decide +kernel
theorem dX9_readPins_175 : decode cX9_readPins 175 = .ok (.iconst 1, 1) := by decide +kernel
theorem dX9_readPins_176 : decode cX9_readPins 176 = .ok (.iaload, 1) := by decide +kernel
theorem dX9_readPins_177 : decode cX9_readPins 177 = .ok (.iload 5, 2) := by decide +kernel
theorem dX9_readPins_179 : decode cX9_readPins 179 = .ok (.imul, 1) := by decide +kernel
theorem dX9_readPins_180 : decode cX9_readPins 180 = .ok (.iadd, 1) := by decide +kernel
theorem dX9_readPins_181 : decode cX9_readPins 181 = .ok (.iload 6, 2) := by decide +kernel
theorem dX9_readPins_183 : decode cX9_readPins 183 = .ok (.iadd, 1) := by decide +kernel
theorem dX9_readPins_184 : decode cX9_readPins 184 = .ok (.iload_n 3, 1) := by decide +kernel
theorem dX9_readPins_185 : decode cX9_readPins 185 = .ok (.ifCond .eq 7, 3) := by decide +kernel
theorem dX9_readPins_188 : decode cX9_readPins 188 = .ok (.iconst 1, 1) := by decide +kernel
theorem dX9_readPins_189 : decode cX9_readPins 189 = .ok (.goto 4, 3) := by decide +kernel
theorem dX9_readPins_192 : decode cX9_readPins 192 = .ok (.iconst 2, 1) := by decide +kernel
theorem dX9_readPins_193 : decode cX9_readPins 193 = .ok (.iastore, 1) := by decide +kernel
theorem dX9_readPins_194 : decode cX9_readPins 194 = .ok (.iinc 2 3, 3) := by decide +kernel
theorem dX9_readPins_197 : decode cX9_readPins 197 = .ok (.goto (-195), 3) := by decide +kernel
theorem dX9_readPins_200 : decode cX9_readPins 200 = .ok (.bipush (-9), 2) := by decide +kernel
theorem dX9_readPins_202 : decode cX9_readPins 202 = .ok (.ireturn, 1) := by decide +kernel
theorem dX9_readSheet_0 : decode cX9_readSheet 0 = .ok (.iconst 0, 1) := by decide +kernel
theorem dX9_readSheet_1 : decode cX9_readSheet 1 = .ok (.istore_n 1, 1) := by decide +kernel
theorem dX9_readSheet_2 : decode cX9_readSheet 2 = .ok (.iload_n 1, 1) := by decide +kernel
theorem dX9_readSheet_3 : decode cX9_readSheet 3 = .ok (.bipush 32, 2) := by decide +kernel
theorem dX9_readSheet_5 : decode cX9_readSheet 5 = .ok (.if_icmp .ge 16, 3) := by decide +kernel
theorem dX9_readSheet_8 : decode cX9_readSheet 8 = .ok (.aload_n 0, 1) := by decide +kernel
theorem dX9_readSheet_9 : decode cX9_readSheet 9 = .ok (.getfield 13, 3) := by decide +kernel
theorem dX9_readSheet_12 : decode cX9_readSheet 12 = .ok (.iload_n 1, 1) := by decide +kernel
theorem dX9_readSheet_13 : decode cX9_readSheet 13 = .ok (.iconst 0, 1) := by decide +kernel
theorem dX9_readSheet_14 : decode cX9_readSheet 14 = .ok (.iastore, 1) := by decide +kernel
theorem dX9_readSheet_15 : decode cX9_readSheet 15 = .ok (.iinc 1 1, 3) := by decide +kernel
theorem dX9_readSheet_18 : decode cX9_readSheet 18 = .ok (.goto (-16), 3) := by decide +kernel
theorem dX9_readSheet_21 : decode cX9_readSheet 21 = .ok (.aload_n 0, 1) := by decide +kernel
theorem dX9_readSheet_22 : decode cX9_readSheet 22 = .ok (.getfield 83, 3) := by decide +kernel
theorem dX9_readSheet_25 : decode cX9_readSheet 25 = .ok (.ifCond .eq 14, 3) := by decide +kernel
theorem dX9_readSheet_28 : decode cX9_readSheet 28 = .ok (.aload_n 0, 1) := by decide +kernel
theorem dX9_readSheet_29 : decode cX9_readSheet 29 = .ok (.getfield 7, 3) := by decide +kernel
theorem dX9_readSheet_32 : decode cX9_readSheet 32 = .ok (.iconst 0, 1) := by decide +kernel
theorem dX9_readSheet_33 : decode cX9_readSheet 33 = .ok (.iaload, 1) := by decide +kernel
theorem dX9_readSheet_34 : decode cX9_readSheet 34 = .ok (.bipush 80, 2) := by decide +kernel
theorem dX9_readSheet_36 : decode cX9_readSheet 36 = .ok (.if_icmp .eq 5, 3) := by decide +kernel
theorem dX9_readSheet_39 : decode cX9_readSheet 39 = .ok (.iconst 0, 1) := by decide +kernel
theorem dX9_readSheet_40 : decode cX9_readSheet 40 = .ok (.ireturn, 1) := by decide +kernel
theorem dX9_readSheet_41 : decode cX9_readSheet 41 = .ok (.aload_n 0, 1) := by decide +kernel
theorem dX9_readSheet_42 : decode cX9_readSheet 42 = .ok (.iconst 1, 1) := by decide +kernel
theorem dX9_readSheet_43 : decode cX9_readSheet 43 = .ok (.iconst 1, 1) := by decide +kernel
theorem dX9_readSheet_44 : decode cX9_readSheet 44 = .ok (.iconst 4, 1) := by decide +kernel
theorem dX9_readSheet_45 : decode cX9_readSheet 45 = .ok (.invokevirtual 89, 3) := by decide +kernel
theorem dX9_readSheet_48 : decode cX9_readSheet 48 = .ok (.istore_n 1, 1) := by decide +kernel
theorem dX9_readSheet_49 : decode cX9_readSheet 49 = .ok (.iload_n 1, 1) := by decide +kernel
theorem dX9_readSheet_50 : decode cX9_readSheet 50 = .ok (.bipush (-9), 2) := by decide +kernel
theorem dX9_readSheet_52 : decode cX9_readSheet 52 = .ok (.if_icmp .ne 5, 3) := by decide +kernel
theorem dX9_readSheet_55 : decode cX9_readSheet 55 = .ok (.iconst 1, 1) := by decide +kernel
theorem dX9_readSheet_56 : decode cX9_readSheet 56 = .ok (.ireturn, 1) := by decide +kernel
theorem dX9_readSheet_57 : decode cX9_readSheet 57 = .ok (.aload_n 0, 1) := by decide +kernel
theorem dX9_readSheet_58 : decode cX9_readSheet 58 = .ok (.iconst 2, 1) := by decide +kernel
theorem dX9_readSheet_59 : decode cX9_readSheet 59 = .ok (.iconst 1, 1) := by decide +kernel
theorem dX9_readSheet_60 : decode cX9_readSheet 60 = .ok (.iconst 5, 1) := by decide +kernel
theorem dX9_readSheet_61 : decode cX9_readSheet 61 = .ok (.invokevirtual 89, 3) := by decide +kernel
theorem dX9_readSheet_64 : decode cX9_readSheet 64 = .ok (.istore_n 2, 1) := by decide +kernel
theorem dX9_readSheet_65 : decode cX9_readSheet 65 = .ok (.iload_n 2, 1) := by decide +kernel
theorem dX9_readSheet_66 : decode cX9_readSheet 66 = .ok (.bipush (-9), 2) := by decide +kernel
theorem dX9_readSheet_68 : decode cX9_readSheet 68 = .ok (.if_icmp .ne 5, 3) := by decide +kernel
theorem dX9_readSheet_71 : decode cX9_readSheet 71 = .ok (.iconst 2, 1) := by decide +kernel
theorem dX9_readSheet_72 : decode cX9_readSheet 72 = .ok (.ireturn, 1) := by decide +kernel
theorem dX9_readSheet_73 : decode cX9_readSheet 73 = .ok (.aload_n 0, 1) := by decide +kernel
theorem dX9_readSheet_74 : decode cX9_readSheet 74 = .ok (.getfield 13, 3) := by decide +kernel
theorem dX9_readSheet_77 : decode cX9_readSheet 77 = .ok (.iconst 0, 1) := by decide +kernel
theorem dX9_readSheet_78 : decode cX9_readSheet 78 = .ok (.iload_n 1, 1) := by decide +kernel
theorem dX9_readSheet_79 : decode cX9_readSheet 79 = .ok (.iastore, 1) := by decide +kernel
theorem dX9_readSheet_80 : decode cX9_readSheet 80 = .ok (.aload_n 0, 1) := by decide +kernel
theorem dX9_readSheet_81 : decode cX9_readSheet 81 = .ok (.getfield 13, 3) := by decide +kernel
theorem dX9_readSheet_84 : decode cX9_readSheet 84 = .ok (.iconst 1, 1) := by decide +kernel
theorem dX9_readSheet_85 : decode cX9_readSheet 85 = .ok (.iload_n 2, 1) := by decide +kernel
theorem dX9_readSheet_86 : decode cX9_readSheet 86 = .ok (.iastore, 1) := by decide +kernel
theorem dX9_readSheet_87 : decode cX9_readSheet 87 = .ok (.iconst 0, 1) := by decide +kernel
theorem dX9_readSheet_88 : decode cX9_readSheet 88 = .ok (.istore_n 3, 1) := by decide +kernel
