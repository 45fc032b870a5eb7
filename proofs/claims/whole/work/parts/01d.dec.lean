theorem dX9_readSheet_89 : decode cX9_readSheet 89 = .ok (.iload_n 3, 1) := by decide +kernel
theorem dX9_readSheet_90 : decode cX9_readSheet 90 = .ok (.iload_n 1, 1) := by decide +kernel
theorem dX9_readSheet_91 : decode cX9_readSheet 91 = .ok (.iload_n 2, 1) := by decide +kernel
theorem dX9_readSheet_92 : decode cX9_readSheet 92 = .ok (.iadd, 1) := by decide +kernel
theorem dX9_readSheet_93 : decode cX9_readSheet 93 = .ok (.if_icmp .ge 64, 3) := by decide +kernel
theorem dX9_readSheet_96 : decode cX9_readSheet 96 = .ok (.aload_n 0, 1) := by decide +kernel
theorem dX9_readSheet_97 : decode cX9_readSheet 97 = .ok (.iconst 3, 1) := by decide +kernel
theorem dX9_readSheet_98 : decode cX9_readSheet 98 = .ok (.iload_n 3, 1) := by decide +kernel
theorem dX9_readSheet_99 : decode cX9_readSheet 99 = .ok (.iadd, 1) := by decide +kernel
theorem dX9_readSheet_100 : decode cX9_readSheet 100 = .ok (.iconst 0, 1) := by decide +kernel
theorem dX9_readSheet_101 : decode cX9_readSheet 101 = .ok (.iload_n 3, 1) := by decide +kernel
theorem dX9_readSheet_102 : decode cX9_readSheet 102 = .ok (.iload_n 1, 1) := by decide +kernel
theorem dX9_readSheet_103 : decode cX9_readSheet 103 = .ok (.if_icmp .ge 7, 3) := by decide +kernel
theorem dX9_readSheet_106 : decode cX9_readSheet 106 = .ok (.iload_n 2, 1) := by decide +kernel
theorem dX9_readSheet_107 : decode cX9_readSheet 107 = .ok (.goto 4, 3) := by decide +kernel
theorem dX9_readSheet_110 : decode cX9_readSheet 110 = .ok (.iload_n 1, 1) := by decide +kernel
theorem dX9_readSheet_111 : decode cX9_readSheet 111 = .ok (.invokevirtual 89, 3) := by decide +kernel
theorem dX9_readSheet_114 : decode cX9_readSheet 114 = .ok (.istore 4, 2) := by decide +kernel
theorem dX9_readSheet_116 : decode cX9_readSheet 116 = .ok (.iload 4, 2) := by decide +kernel
theorem dX9_readSheet_118 : decode cX9_readSheet 118 = .ok (.bipush (-9), 2) := by decide +kernel
theorem dX9_readSheet_120 : decode cX9_readSheet 120 = .ok (.if_icmp .ne 7, 3) := by decide +kernel
theorem dX9_readSheet_123 : decode cX9_readSheet 123 = .ok (.iconst 3, 1) := by decide +kernel
theorem dX9_readSheet_124 : decode cX9_readSheet 124 = .ok (.iload_n 3, 1) := by decide +kernel
theorem dX9_readSheet_125 : decode cX9_readSheet 125 = .ok (.iadd, 1) := by decide +kernel
theorem dX9_readSheet_126 : decode cX9_readSheet 126 = .ok (.ireturn, 1) := by decide +kernel
theorem dX9_readSheet_127 : decode cX9_readSheet 127 = .ok (.aload_n 0, 1) := by decide +kernel
theorem dX9_readSheet_128 : decode cX9_readSheet 128 = .ok (.getfield 13, 3) := by decide +kernel
theorem dX9_readSheet_131 : decode cX9_readSheet 131 = .ok (.iload_n 3, 1) := by decide +kernel
theorem dX9_readSheet_132 : decode cX9_readSheet 132 = .ok (.iload_n 1, 1) := by decide +kernel
theorem dX9_readSheet_133 : decode cX9_readSheet 133 = .ok (.if_icmp .ge 9, 3) := by decide +kernel
theorem dX9_readSheet_136 : decode cX9_readSheet 136 = .ok (.iconst 2, 1) := by decide +kernel
theorem dX9_readSheet_137 : decode cX9_readSheet 137 = .ok (.iload_n 3, 1) := by decide +kernel
theorem dX9_readSheet_138 : decode cX9_readSheet 138 = .ok (.iadd, 1) := by decide +kernel
theorem dX9_readSheet_139 : decode cX9_readSheet 139 = .ok (.goto 9, 3) := by decide +kernel
theorem dX9_readSheet_142 : decode cX9_readSheet 142 = .ok (.bipush 6, 2) := by decide +kernel
theorem dX9_readSheet_144 : decode cX9_readSheet 144 = .ok (.iload_n 3, 1) := by decide +kernel
theorem dX9_readSheet_145 : decode cX9_readSheet 145 = .ok (.iadd, 1) := by decide +kernel
theorem dX9_readSheet_146 : decode cX9_readSheet 146 = .ok (.iload_n 1, 1) := by decide +kernel
theorem dX9_readSheet_147 : decode cX9_readSheet 147 = .ok (.isub, 1) := by decide +kernel
theorem dX9_readSheet_148 : decode cX9_readSheet 148 = .ok (.iload 4, 2) := by decide +kernel
theorem dX9_readSheet_150 : decode cX9_readSheet 150 = .ok (.iastore, 1) := by decide +kernel
theorem dX9_readSheet_151 : decode cX9_readSheet 151 = .ok (.iinc 3 1, 3) := by decide +kernel
theorem dX9_readSheet_154 : decode cX9_readSheet 154 = .ok (.goto (-65), 3) := by decide +kernel
theorem dX9_readSheet_157 : decode cX9_readSheet 157 = .ok (.aload_n 0, 1) := by decide +kernel
theorem dX9_readSheet_158 : decode cX9_readSheet 158 = .ok (.iconst 3, 1) := by decide +kernel
theorem dX9_readSheet_159 : decode cX9_readSheet 159 = .ok (.iload_n 1, 1) := by decide +kernel
theorem dX9_readSheet_160 : decode cX9_readSheet 160 = .ok (.iadd, 1) := by decide +kernel
theorem dX9_readSheet_161 : decode cX9_readSheet 161 = .ok (.iload_n 2, 1) := by decide +kernel
theorem dX9_readSheet_162 : decode cX9_readSheet 162 = .ok (.iadd, 1) := by decide +kernel
theorem dX9_readSheet_163 : decode cX9_readSheet 163 = .ok (.invokevirtual 97, 3) := by decide +kernel
theorem dX9_readSheet_166 : decode cX9_readSheet 166 = .ok (.ireturn, 1) := by decide +kernel
theorem dX9_fault_0 : decode cX9_fault 0 = .ok (.aload_n 0, 1) := by decide +kernel
theorem dX9_fault_1 : decode cX9_fault 1 = .ok (.iconst 0, 1) := by decide +kernel
theorem dX9_fault_2 : decode cX9_fault 2 = .ok (.putfield 65, 3) := by decide +kernel
theorem dX9_fault_5 : decode cX9_fault 5 = .ok (.aload_n 0, 1) := by decide +kernel
theorem dX9_fault_6 : decode cX9_fault 6 = .ok (.invokevirtual 101, 3) := by decide +kernel
theorem dX9_fault_9 : decode cX9_fault 9 = .ok (.ireturn, 1) := by decide +kernel
theorem dX9_findMasks_0 : decode cX9_findMasks 0 = .ok (.aload_n 1, 1) := by decide +kernel
theorem dX9_findMasks_1 : decode cX9_findMasks 1 = .ok (.iconst 1, 1) := by decide +kernel
theorem dX9_findMasks_2 : decode cX9_findMasks 2 = .ok (.iaload, 1) := by decide +kernel
theorem dX9_findMasks_3 : decode cX9_findMasks 3 = .ok (.istore 4, 2) := by decide +kernel
theorem dX9_findMasks_5 : decode cX9_findMasks 5 = .ok (.aload_n 0, 1) := by decide +kernel
theorem dX9_findMasks_6 : decode cX9_findMasks 6 = .ok (.getfield 41, 3) := by decide +kernel
theorem dX9_findMasks_9 : decode cX9_findMasks 9 = .ok (.iload_n 2, 1) := by decide +kernel
theorem dX9_findMasks_10 : decode cX9_findMasks 10 = .ok (.iconst 0, 1) := by decide +kernel
theorem dX9_findMasks_11 : decode cX9_findMasks 11 = .ok (.iastore, 1) := by decide +kernel
theorem dX9_findMasks_12 : decode cX9_findMasks 12 = .ok (.iconst 0, 1) := by decide +kernel
theorem dX9_findMasks_13 : decode cX9_findMasks 13 = .ok (.istore 5, 2) := by decide +kernel
theorem dX9_findMasks_15 : decode cX9_findMasks 15 = .ok (.iload 5, 2) := by decide +kernel
theorem dX9_findMasks_17 : decode cX9_findMasks 17 = .ok (.iconst 1, 1) := by decide +kernel
theorem dX9_findMasks_18 : decode cX9_findMasks 18 = .ok (.iload 4, 2) := by decide +kernel
theorem dX9_findMasks_20 : decode cX9_findMasks 20 = .ok (.ishl, 1) := by decide +kernel
theorem dX9_findMasks_21 : decode cX9_findMasks 21 = .ok (.if_icmp .ge 143, 3) := by decide +kernel
theorem dX9_findMasks_24 : decode cX9_findMasks 24 = .ok (.iload 5, 2) := by decide +kernel
theorem dX9_findMasks_26 : decode cX9_findMasks 26 = .ok (.invokestatic 105, 3) := by decide +kernel
theorem dX9_findMasks_29 : decode cX9_findMasks 29 = .ok (.aload_n 1, 1) := by decide +kernel
theorem dX9_findMasks_30 : decode cX9_findMasks 30 = .ok (.iconst 2, 1) := by decide +kernel
theorem dX9_findMasks_31 : decode cX9_findMasks 31 = .ok (.iload_n 2, 1) := by decide +kernel
theorem dX9_findMasks_32 : decode cX9_findMasks 32 = .ok (.iadd, 1) := by decide +kernel
theorem dX9_findMasks_33 : decode cX9_findMasks 33 = .ok (.iaload, 1) := by decide +kernel
theorem dX9_findMasks_34 : decode cX9_findMasks 34 = .ok (.if_icmp .ne 7, 3) := by decide +kernel
theorem dX9_findMasks_37 : decode cX9_findMasks 37 = .ok (.iconst 1, 1) := by decide +kernel
theorem dX9_findMasks_38 : decode cX9_findMasks 38 = .ok (.goto 4, 3) := by decide +kernel
theorem dX9_findMasks_41 : decode cX9_findMasks 41 = .ok (.iconst 0, 1) := by decide +kernel
theorem dX9_findMasks_42 : decode cX9_findMasks 42 = .ok (.istore 6, 2) := by decide +kernel
theorem dX9_findMasks_44 : decode cX9_findMasks 44 = .ok (.iconst 0, 1) := by decide +kernel
theorem dX9_findMasks_45 : decode cX9_findMasks 45 = .ok (.istore 7, 2) := by decide +kernel
theorem dX9_findMasks_47 : decode cX9_findMasks 47 = .ok (.iload 7, 2) := by decide +kernel
theorem dX9_findMasks_49 : decode cX9_findMasks 49 = .ok (.iload 4, 2) := by decide +kernel
theorem dX9_findMasks_51 : decode cX9_findMasks 51 = .ok (.if_icmp .ge 74, 3) := by decide +kernel
theorem dX9_findMasks_54 : decode cX9_findMasks 54 = .ok (.iload 6, 2) := by decide +kernel
theorem dX9_findMasks_56 : decode cX9_findMasks 56 = .ok (.ifCond .eq 69, 3) := by decide +kernel
theorem dX9_findMasks_59 : decode cX9_findMasks 59 = .ok (.iload_n 3, 1) := by decide +kernel
theorem dX9_findMasks_60 : decode cX9_findMasks 60 = .ok (.ifCond .eq 18, 3) := by decide +kernel
theorem dX9_findMasks_63 : decode cX9_findMasks 63 = .ok (.aload_n 1, 1) := by decide +kernel
theorem dX9_findMasks_64 : decode cX9_findMasks 64 = .ok (.bipush 11, 2) := by decide +kernel
theorem dX9_findMasks_66 : decode cX9_findMasks 66 = .ok (.iload 4, 2) := by decide +kernel
theorem dX9_findMasks_68 : decode cX9_findMasks 68 = .ok (.iload_n 2, 1) := by decide +kernel
theorem dX9_findMasks_69 : decode cX9_findMasks 69 = .ok (.imul, 1) := by decide +kernel
theorem dX9_findMasks_70 : decode cX9_findMasks 70 = .ok (.iadd, 1) := by decide +kernel
theorem dX9_findMasks_71 : decode cX9_findMasks 71 = .ok (.iload 7, 2) := by decide +kernel
theorem dX9_findMasks_73 : decode cX9_findMasks 73 = .ok (.iadd, 1) := by decide +kernel
theorem dX9_findMasks_74 : decode cX9_findMasks 74 = .ok (.iaload, 1) := by decide +kernel
theorem dX9_findMasks_75 : decode cX9_findMasks 75 = .ok (.goto 4, 3) := by decide +kernel
theorem dX9_findMasks_78 : decode cX9_findMasks 78 = .ok (.iconst 0, 1) := by decide +kernel
theorem dX9_findMasks_79 : decode cX9_findMasks 79 = .ok (.istore 8, 2) := by decide +kernel
theorem dX9_findMasks_81 : decode cX9_findMasks 81 = .ok (.iload 8, 2) := by decide +kernel
theorem dX9_findMasks_83 : decode cX9_findMasks 83 = .ok (.ifCond .eq 29, 3) := by decide +kernel
theorem dX9_findMasks_86 : decode cX9_findMasks 86 = .ok (.iload 5, 2) := by decide +kernel
theorem dX9_findMasks_88 : decode cX9_findMasks 88 = .ok (.iload 4, 2) := by decide +kernel
theorem dX9_findMasks_90 : decode cX9_findMasks 90 = .ok (.iconst 1, 1) := by decide +kernel
theorem dX9_findMasks_91 : decode cX9_findMasks 91 = .ok (.isub, 1) := by decide +kernel
theorem dX9_findMasks_92 : decode cX9_findMasks 92 = .ok (.iload 7, 2) := by decide +kernel
theorem dX9_findMasks_94 : decode cX9_findMasks 94 = .ok (.isub, 1) := by decide +kernel
theorem dX9_findMasks_95 : decode cX9_findMasks 95 = .ok (.invokestatic 73, 3) := by decide +kernel
theorem dX9_findMasks_98 : decode cX9_findMasks 98 = .ok (.iload 8, 2) := by decide +kernel
theorem dX9_findMasks_100 : decode cX9_findMasks 100 = .ok (.iconst 1, 1) := by decide +kernel
theorem dX9_findMasks_101 : decode cX9_findMasks 101 = .ok (.if_icmp .ne 7, 3) := by decide +kernel
theorem dX9_findMasks_104 : decode cX9_findMasks 104 = .ok (.iconst 1, 1) := by decide +kernel
theorem dX9_findMasks_105 : decode cX9_findMasks 105 = .ok (.goto 4, 3) := by decide +kernel
theorem dX9_findMasks_108 : decode cX9_findMasks 108 = .ok (.iconst 0, 1) := by decide +kernel
theorem dX9_findMasks_109 : decode cX9_findMasks 109 = .ok (.if_icmp .ne 7, 3) := by decide +kernel
theorem dX9_findMasks_112 : decode cX9_findMasks 112 = .ok (.iconst 1, 1) := by decide +kernel
theorem dX9_findMasks_113 : decode cX9_findMasks 113 = .ok (.goto 4, 3) := by decide +kernel
theorem dX9_findMasks_116 : decode cX9_findMasks 116 = .ok (.iconst 0, 1) := by decide +kernel
theorem dX9_findMasks_117 : decode cX9_findMasks 117 = .ok (.istore 6, 2) := by decide +kernel
theorem dX9_findMasks_119 : decode cX9_findMasks 119 = .ok (.iinc 7 1, 3) := by decide +kernel
theorem dX9_findMasks_122 : decode cX9_findMasks 122 = .ok (.goto (-75), 3) := by decide +kernel
theorem dX9_findMasks_125 : decode cX9_findMasks 125 = .ok (.iload 6, 2) := by decide +kernel
theorem dX9_findMasks_127 : decode cX9_findMasks 127 = .ok (.ifCond .eq 31, 3) := by decide +kernel
theorem dX9_findMasks_130 : decode cX9_findMasks 130 = .ok (.aload_n 0, 1) := by decide +kernel
theorem dX9_findMasks_131 : decode cX9_findMasks 131 = .ok (.getfield 38, 3) := by decide +kernel
theorem dX9_findMasks_134 : decode cX9_findMasks 134 = .ok (.bipush 10, 2) := by decide +kernel
theorem dX9_findMasks_136 : decode cX9_findMasks 136 = .ok (.iload_n 2, 1) := by decide +kernel
theorem dX9_findMasks_137 : decode cX9_findMasks 137 = .ok (.imul, 1) := by decide +kernel
theorem dX9_findMasks_138 : decode cX9_findMasks 138 = .ok (.aload_n 0, 1) := by decide +kernel
theorem dX9_findMasks_139 : decode cX9_findMasks 139 = .ok (.getfield 41, 3) := by decide +kernel
theorem dX9_findMasks_142 : decode cX9_findMasks 142 = .ok (.iload_n 2, 1) := by decide +kernel
theorem dX9_findMasks_143 : decode cX9_findMasks 143 = .ok (.iaload, 1) := by decide +kernel
theorem dX9_findMasks_144 : decode cX9_findMasks 144 = .ok (.iadd, 1) := by decide +kernel
theorem dX9_findMasks_145 : decode cX9_findMasks 145 = .ok (.iload 5, 2) := by decide +kernel
theorem dX9_findMasks_147 : decode cX9_findMasks 147 = .ok (.iastore, 1) := by decide +kernel
theorem dX9_findMasks_148 : decode cX9_findMasks 148 = .ok (.aload_n 0, 1) := by decide +kernel
theorem dX9_findMasks_149 : decode cX9_findMasks 149 = .ok (.getfield 41, 3) := by decide +kernel
theorem dX9_findMasks_152 : decode cX9_findMasks 152 = .ok (.iload_n 2, 1) := by decide +kernel
theorem dX9_findMasks_153 : decode cX9_findMasks 153 = .ok (.dup2, 1) := by decide +kernel
theorem dX9_findMasks_154 : decode cX9_findMasks 154 = .ok (.iaload, 1) := by decide +kernel
theorem dX9_findMasks_155 : decode cX9_findMasks 155 = .ok (.iconst 1, 1) := by decide +kernel
theorem dX9_findMasks_156 : decode cX9_findMasks 156 = .ok (.iadd, 1) := by decide +kernel
theorem dX9_findMasks_157 : decode cX9_findMasks 157 = .ok (.iastore, 1) := by decide +kernel
theorem dX9_findMasks_158 : decode cX9_findMasks 158 = .ok (.iinc 5 1, 3) := by decide +kernel
theorem dX9_findMasks_161 : decode cX9_findMasks 161 = .ok (.goto (-146), 3) := by decide +kernel
theorem dX9_findMasks_164 : decode cX9_findMasks 164 = .ok (.return_, 1) := by decide +kernel
theorem dX9_packed_0 : decode cX9_packed 0 = .ok (.iconst 0, 1) := by decide +kernel
theorem dX9_packed_1 : decode cX9_packed 1 = .ok (.istore_n 2, 1) := by decide +kernel
theorem dX9_packed_2 : decode cX9_packed 2 = .ok (.iconst 0, 1) := by decide +kernel
theorem dX9_packed_3 : decode cX9_packed 3 = .ok (.istore_n 3, 1) := by decide +kernel
theorem dX9_packed_4 : decode cX9_packed 4 = .ok (.iload_n 3, 1) := by decide +kernel
theorem dX9_packed_5 : decode cX9_packed 5 = .ok (.iload_n 1, 1) := by decide +kernel
theorem dX9_packed_6 : decode cX9_packed 6 = .ok (.if_icmp .ge 31, 3) := by decide +kernel
theorem dX9_packed_9 : decode cX9_packed 9 = .ok (.iload_n 2, 1) := by decide +kernel
theorem dX9_packed_10 : decode cX9_packed 10 = .ok (.iconst 3, 1) := by decide +kernel
theorem dX9_packed_11 : decode cX9_packed 11 = .ok (.ishl, 1) := by decide +kernel
theorem dX9_packed_12 : decode cX9_packed 12 = .ok (.iload_n 0, 1) := by decide +kernel
theorem dX9_packed_13 : decode cX9_packed 13 = .ok (.iload_n 1, 1) := by decide +kernel
theorem dX9_packed_14 : decode cX9_packed 14 = .ok (.iconst 1, 1) := by decide +kernel
theorem dX9_packed_15 : decode cX9_packed 15 = .ok (.isub, 1) := by decide +kernel
theorem dX9_packed_16 : decode cX9_packed 16 = .ok (.iload_n 3, 1) := by decide +kernel
theorem dX9_packed_17 : decode cX9_packed 17 = .ok (.isub, 1) := by decide +kernel
theorem dX9_packed_18 : decode cX9_packed 18 = .ok (.invokestatic 73, 3) := by decide +kernel
theorem dX9_packed_21 : decode cX9_packed 21 = .ok (.ifCond .eq 7, 3) := by decide +kernel
theorem dX9_packed_24 : decode cX9_packed 24 = .ok (.iconst 1, 1) := by decide +kernel
theorem dX9_packed_25 : decode cX9_packed 25 = .ok (.goto 4, 3) := by decide +kernel
theorem dX9_packed_28 : decode cX9_packed 28 = .ok (.iconst 0, 1) := by decide +kernel
theorem dX9_packed_29 : decode cX9_packed 29 = .ok (.ior, 1) := by decide +kernel
theorem dX9_packed_30 : decode cX9_packed 30 = .ok (.istore_n 2, 1) := by decide +kernel
theorem dX9_packed_31 : decode cX9_packed 31 = .ok (.iinc 3 1, 3) := by decide +kernel
theorem dX9_packed_34 : decode cX9_packed 34 = .ok (.goto (-30), 3) := by decide +kernel
theorem dX9_packed_37 : decode cX9_packed 37 = .ok (.iload_n 2, 1) := by decide +kernel
theorem dX9_packed_38 : decode cX9_packed 38 = .ok (.ireturn, 1) := by decide +kernel
theorem dX9_target_0 : decode cX9_target 0 = .ok (.iconst 0, 1) := by decide +kernel
theorem dX9_target_1 : decode cX9_target 1 = .ok (.istore_n 1, 1) := by decide +kernel
theorem dX9_target_2 : decode cX9_target 2 = .ok (.iconst 0, 1) := by decide +kernel
theorem dX9_target_3 : decode cX9_target 3 = .ok (.istore_n 2, 1) := by decide +kernel
theorem dX9_target_4 : decode cX9_target 4 = .ok (.iload_n 2, 1) := by decide +kernel
theorem dX9_target_5 : decode cX9_target 5 = .ok (.aload_n 0, 1) := by decide +kernel
theorem dX9_target_6 : decode cX9_target 6 = .ok (.iconst 1, 1) := by decide +kernel
theorem dX9_target_7 : decode cX9_target 7 = .ok (.iaload, 1) := by decide +kernel
theorem dX9_target_8 : decode cX9_target 8 = .ok (.if_icmp .ge 20, 3) := by decide +kernel
theorem dX9_target_11 : decode cX9_target 11 = .ok (.iload_n 1, 1) := by decide +kernel
theorem dX9_target_12 : decode cX9_target 12 = .ok (.iconst 3, 1) := by decide +kernel
theorem dX9_target_13 : decode cX9_target 13 = .ok (.ishl, 1) := by decide +kernel
theorem dX9_target_14 : decode cX9_target 14 = .ok (.aload_n 0, 1) := by decide +kernel
theorem dX9_target_15 : decode cX9_target 15 = .ok (.bipush 6, 2) := by decide +kernel
theorem dX9_target_17 : decode cX9_target 17 = .ok (.iload_n 2, 1) := by decide +kernel
theorem dX9_target_18 : decode cX9_target 18 = .ok (.iadd, 1) := by decide +kernel
theorem dX9_target_19 : decode cX9_target 19 = .ok (.iaload, 1) := by decide +kernel
theorem dX9_target_20 : decode cX9_target 20 = .ok (.ior, 1) := by decide +kernel
theorem dX9_target_21 : decode cX9_target 21 = .ok (.istore_n 1, 1) := by decide +kernel
theorem dX9_target_22 : decode cX9_target 22 = .ok (.iinc 2 1, 3) := by decide +kernel
theorem dX9_target_25 : decode cX9_target 25 = .ok (.goto (-21), 3) := by decide +kernel
theorem dX9_target_28 : decode cX9_target 28 = .ok (.iload_n 1, 1) := by decide +kernel
theorem dX9_target_29 : decode cX9_target 29 = .ok (.ireturn, 1) := by decide +kernel
theorem dX9_list_0 : decode cX9_list 0 = .ok (.aload_n 1, 1) := by decide +kernel
theorem dX9_list_1 : decode cX9_list 1 = .ok (.iconst 1, 1) := by decide +kernel
theorem dX9_list_2 : decode cX9_list 2 = .ok (.iaload, 1) := by decide +kernel
theorem dX9_list_3 : decode cX9_list 3 = .ok (.istore_n 3, 1) := by decide +kernel
theorem dX9_list_4 : decode cX9_list 4 = .ok (.iconst 0, 1) := by decide +kernel
theorem dX9_list_5 : decode cX9_list 5 = .ok (.istore 4, 2) := by decide +kernel
theorem dX9_list_7 : decode cX9_list 7 = .ok (.iload 4, 2) := by decide +kernel
theorem dX9_list_9 : decode cX9_list 9 = .ok (.iconst 4, 1) := by decide +kernel
theorem dX9_list_10 : decode cX9_list 10 = .ok (.if_icmp .ge 44, 3) := by decide +kernel
theorem dX9_list_13 : decode cX9_list 13 = .ok (.aload_n 0, 1) := by decide +kernel
theorem dX9_list_14 : decode cX9_list 14 = .ok (.getfield 41, 3) := by decide +kernel
theorem dX9_list_17 : decode cX9_list 17 = .ok (.iload 4, 2) := by decide +kernel
theorem dX9_list_19 : decode cX9_list 19 = .ok (.iconst 1, 1) := by decide +kernel
theorem dX9_list_20 : decode cX9_list 20 = .ok (.iastore, 1) := by decide +kernel
theorem dX9_list_21 : decode cX9_list 21 = .ok (.aload_n 0, 1) := by decide +kernel
theorem dX9_list_22 : decode cX9_list 22 = .ok (.getfield 38, 3) := by decide +kernel
theorem dX9_list_25 : decode cX9_list 25 = .ok (.bipush 10, 2) := by decide +kernel
theorem dX9_list_27 : decode cX9_list 27 = .ok (.iload 4, 2) := by decide +kernel
theorem dX9_list_29 : decode cX9_list 29 = .ok (.imul, 1) := by decide +kernel
theorem dX9_list_30 : decode cX9_list 30 = .ok (.iconst 0, 1) := by decide +kernel
theorem dX9_list_31 : decode cX9_list 31 = .ok (.iastore, 1) := by decide +kernel
theorem dX9_list_32 : decode cX9_list 32 = .ok (.iload 4, 2) := by decide +kernel
theorem dX9_list_34 : decode cX9_list 34 = .ok (.aload_n 1, 1) := by decide +kernel
theorem dX9_list_35 : decode cX9_list 35 = .ok (.iconst 0, 1) := by decide +kernel
theorem dX9_list_36 : decode cX9_list 36 = .ok (.iaload, 1) := by decide +kernel
theorem dX9_list_37 : decode cX9_list 37 = .ok (.if_icmp .ge 11, 3) := by decide +kernel
theorem dX9_list_40 : decode cX9_list 40 = .ok (.aload_n 0, 1) := by decide +kernel
theorem dX9_list_41 : decode cX9_list 41 = .ok (.aload_n 1, 1) := by decide +kernel
theorem dX9_list_42 : decode cX9_list 42 = .ok (.iload 4, 2) := by decide +kernel
theorem dX9_list_44 : decode cX9_list 44 = .ok (.iload_n 2, 1) := by decide +kernel
theorem dX9_list_45 : decode cX9_list 45 = .ok (.invokevirtual 108, 3) := by decide +kernel
theorem dX9_list_48 : decode cX9_list 48 = .ok (.iinc 4 1, 3) := by decide +kernel
theorem dX9_list_51 : decode cX9_list 51 = .ok (.goto (-44), 3) := by decide +kernel
theorem dX9_list_54 : decode cX9_list 54 = .ok (.aload_n 0, 1) := by decide +kernel
theorem dX9_list_55 : decode cX9_list 55 = .ok (.iconst 0, 1) := by decide +kernel
theorem dX9_list_56 : decode cX9_list 56 = .ok (.putfield 112, 3) := by decide +kernel
theorem dX9_list_59 : decode cX9_list 59 = .ok (.aload_n 1, 1) := by decide +kernel
theorem dX9_list_60 : decode cX9_list 60 = .ok (.invokestatic 115, 3) := by decide +kernel
theorem dX9_list_63 : decode cX9_list 63 = .ok (.istore 4, 2) := by decide +kernel
theorem dX9_list_65 : decode cX9_list 65 = .ok (.iconst 0, 1) := by decide +kernel
theorem dX9_list_66 : decode cX9_list 66 = .ok (.istore 5, 2) := by decide +kernel
theorem dX9_list_68 : decode cX9_list 68 = .ok (.iload 5, 2) := by decide +kernel
theorem dX9_list_70 : decode cX9_list 70 = .ok (.aload_n 0, 1) := by decide +kernel
theorem dX9_list_71 : decode cX9_list 71 = .ok (.getfield 41, 3) := by decide +kernel
theorem dX9_list_74 : decode cX9_list 74 = .ok (.iconst 0, 1) := by decide +kernel
theorem dX9_list_75 : decode cX9_list 75 = .ok (.iaload, 1) := by decide +kernel
theorem dX9_list_76 : decode cX9_list 76 = .ok (.if_icmp .ge 219, 3) := by decide +kernel
theorem dX9_list_79 : decode cX9_list 79 = .ok (.aload_n 0, 1) := by decide +kernel
theorem dX9_list_80 : decode cX9_list 80 = .ok (.getfield 38, 3) := by decide +kernel
theorem dX9_list_83 : decode cX9_list 83 = .ok (.iload 5, 2) := by decide +kernel
theorem dX9_list_85 : decode cX9_list 85 = .ok (.iaload, 1) := by decide +kernel
theorem dX9_list_86 : decode cX9_list 86 = .ok (.iload_n 3, 1) := by decide +kernel
theorem dX9_list_87 : decode cX9_list 87 = .ok (.invokestatic 118, 3) := by decide +kernel
theorem dX9_list_90 : decode cX9_list 90 = .ok (.istore 6, 2) := by decide +kernel
theorem dX9_list_92 : decode cX9_list 92 = .ok (.iconst 0, 1) := by decide +kernel
theorem dX9_list_93 : decode cX9_list 93 = .ok (.istore 7, 2) := by decide +kernel
theorem dX9_list_95 : decode cX9_list 95 = .ok (.iload 7, 2) := by decide +kernel
theorem dX9_list_97 : decode cX9_list 97 = .ok (.aload_n 0, 1) := by decide +kernel
theorem dX9_list_98 : decode cX9_list 98 = .ok (.getfield 41, 3) := by decide +kernel
theorem dX9_list_101 : decode cX9_list 101 = .ok (.iconst 1, 1) := by decide +kernel
theorem dX9_list_102 : decode cX9_list 102 = .ok (.iaload, 1) := by decide +kernel
theorem dX9_list_103 : decode cX9_list 103 = .ok (.if_icmp .ge 186, 3) := by decide +kernel
theorem dX9_list_106 : decode cX9_list 106 = .ok (.iload 6, 2) := by decide +kernel
theorem dX9_list_108 : decode cX9_list 108 = .ok (.aload_n 0, 1) := by decide +kernel
theorem dX9_list_109 : decode cX9_list 109 = .ok (.getfield 38, 3) := by decide +kernel
theorem dX9_list_112 : decode cX9_list 112 = .ok (.bipush 10, 2) := by decide +kernel
theorem dX9_list_114 : decode cX9_list 114 = .ok (.iload 7, 2) := by decide +kernel
theorem dX9_list_116 : decode cX9_list 116 = .ok (.iadd, 1) := by decide +kernel
theorem dX9_list_117 : decode cX9_list 117 = .ok (.iaload, 1) := by decide +kernel
theorem dX9_list_118 : decode cX9_list 118 = .ok (.iload_n 3, 1) := by decide +kernel
theorem dX9_list_119 : decode cX9_list 119 = .ok (.invokestatic 118, 3) := by decide +kernel
theorem dX9_list_122 : decode cX9_list 122 = .ok (.iadd, 1) := by decide +kernel
theorem dX9_list_123 : decode cX9_list 123 = .ok (.istore 8, 2) := by decide +kernel
theorem dX9_list_125 : decode cX9_list 125 = .ok (.iconst 0, 1) := by decide +kernel
theorem dX9_list_126 : decode cX9_list 126 = .ok (.istore 9, 2) := by decide +kernel
theorem dX9_list_128 : decode cX9_list 128 = .ok (.iload 9, 2) := by decide +kernel
theorem dX9_list_130 : decode cX9_list 130 = .ok (.aload_n 0, 1) := by decide +kernel
theorem dX9_list_131 : decode cX9_list 131 = .ok (.getfield 41, 3) := by decide +kernel
theorem dX9_list_134 : decode cX9_list 134 = .ok (.iconst 2, 1) := by decide +kernel
theorem dX9_list_135 : decode cX9_list 135 = .ok (.iaload, 1) := by decide +kernel
theorem dX9_list_136 : decode cX9_list 136 = .ok (.if_icmp .ge 147, 3) := by decide +kernel
theorem dX9_list_139 : decode cX9_list 139 = .ok (.iload 8, 2) := by decide +kernel
theorem dX9_list_141 : decode cX9_list 141 = .ok (.aload_n 0, 1) := by decide +kernel
theorem dX9_list_142 : decode cX9_list 142 = .ok (.getfield 38, 3) := by decide +kernel
theorem dX9_list_145 : decode cX9_list 145 = .ok (.bipush 20, 2) := by decide +kernel
theorem dX9_list_147 : decode cX9_list 147 = .ok (.iload 9, 2) := by decide +kernel
theorem dX9_list_149 : decode cX9_list 149 = .ok (.iadd, 1) := by decide +kernel
theorem dX9_list_150 : decode cX9_list 150 = .ok (.iaload, 1) := by decide +kernel
theorem dX9_list_151 : decode cX9_list 151 = .ok (.iload_n 3, 1) := by decide +kernel
theorem dX9_list_152 : decode cX9_list 152 = .ok (.invokestatic 118, 3) := by decide +kernel
theorem dX9_list_155 : decode cX9_list 155 = .ok (.iadd, 1) := by decide +kernel
theorem dX9_list_156 : decode cX9_list 156 = .ok (.istore 10, 2) := by decide +kernel
theorem dX9_list_158 : decode cX9_list 158 = .ok (.iconst 0, 1) := by decide +kernel
theorem dX9_list_159 : decode cX9_list 159 = .ok (.istore 11, 2) := by decide +kernel
theorem dX9_list_161 : decode cX9_list 161 = .ok (.iload 11, 2) := by decide +kernel
theorem dX9_list_163 : decode cX9_list 163 = .ok (.aload_n 0, 1) := by decide +kernel
theorem dX9_list_164 : decode cX9_list 164 = .ok (.getfield 41, 3) := by decide +kernel
theorem dX9_list_167 : decode cX9_list 167 = .ok (.iconst 3, 1) := by decide +kernel
theorem dX9_list_168 : decode cX9_list 168 = .ok (.iaload, 1) := by decide +kernel
theorem dX9_list_169 : decode cX9_list 169 = .ok (.if_icmp .ge 108, 3) := by decide +kernel
theorem dX9_list_172 : decode cX9_list 172 = .ok (.iload 10, 2) := by decide +kernel
theorem dX9_list_174 : decode cX9_list 174 = .ok (.aload_n 0, 1) := by decide +kernel
theorem dX9_list_175 : decode cX9_list 175 = .ok (.getfield 38, 3) := by decide +kernel
theorem dX9_list_178 : decode cX9_list 178 = .ok (.bipush 30, 2) := by decide +kernel
theorem dX9_list_180 : decode cX9_list 180 = .ok (.iload 11, 2) := by decide +kernel
theorem dX9_list_182 : decode cX9_list 182 = .ok (.iadd, 1) := by decide +kernel
theorem dX9_list_183 : decode cX9_list 183 = .ok (.iaload, 1) := by decide +kernel
theorem dX9_list_184 : decode cX9_list 184 = .ok (.iload_n 3, 1) := by decide +kernel
theorem dX9_list_185 : decode cX9_list 185 = .ok (.invokestatic 118, 3) := by decide +kernel
theorem dX9_list_188 : decode cX9_list 188 = .ok (.iadd, 1) := by decide +kernel
theorem dX9_list_189 : decode cX9_list 189 = .ok (.iload 4, 2) := by decide +kernel
theorem dX9_list_191 : decode cX9_list 191 = .ok (.if_icmp .ne 80, 3) := by decide +kernel
theorem dX9_list_194 : decode cX9_list 194 = .ok (.aload_n 0, 1) := by decide +kernel
theorem dX9_list_195 : decode cX9_list 195 = .ok (.getfield 38, 3) := by decide +kernel
theorem dX9_list_198 : decode cX9_list 198 = .ok (.iload 5, 2) := by decide +kernel
theorem dX9_list_200 : decode cX9_list 200 = .ok (.iaload, 1) := by decide +kernel
theorem dX9_list_201 : decode cX9_list 201 = .ok (.iload_n 3, 1) := by decide +kernel
theorem dX9_list_202 : decode cX9_list 202 = .ok (.ishl, 1) := by decide +kernel
theorem dX9_list_203 : decode cX9_list 203 = .ok (.aload_n 0, 1) := by decide +kernel
theorem dX9_list_204 : decode cX9_list 204 = .ok (.getfield 38, 3) := by decide +kernel
theorem dX9_list_207 : decode cX9_list 207 = .ok (.bipush 10, 2) := by decide +kernel
theorem dX9_list_209 : decode cX9_list 209 = .ok (.iload 7, 2) := by decide +kernel
theorem dX9_list_211 : decode cX9_list 211 = .ok (.iadd, 1) := by decide +kernel
theorem dX9_list_212 : decode cX9_list 212 = .ok (.iaload, 1) := by decide +kernel
theorem dX9_list_213 : decode cX9_list 213 = .ok (.ior, 1) := by decide +kernel
theorem dX9_list_214 : decode cX9_list 214 = .ok (.iload_n 3, 1) := by decide +kernel
theorem dX9_list_215 : decode cX9_list 215 = .ok (.ishl, 1) := by decide +kernel
theorem dX9_list_216 : decode cX9_list 216 = .ok (.aload_n 0, 1) := by decide +kernel
theorem dX9_list_217 : decode cX9_list 217 = .ok (.getfield 38, 3) := by decide +kernel
theorem dX9_list_220 : decode cX9_list 220 = .ok (.bipush 20, 2) := by decide +kernel
theorem dX9_list_222 : decode cX9_list 222 = .ok (.iload 9, 2) := by decide +kernel
theorem dX9_list_224 : decode cX9_list 224 = .ok (.iadd, 1) := by decide +kernel
theorem dX9_list_225 : decode cX9_list 225 = .ok (.iaload, 1) := by decide +kernel
theorem dX9_list_226 : decode cX9_list 226 = .ok (.ior, 1) := by decide +kernel
theorem dX9_list_227 : decode cX9_list 227 = .ok (.istore 12, 2) := by decide +kernel
theorem dX9_list_229 : decode cX9_list 229 = .ok (.aload_n 0, 1) := by decide +kernel
theorem dX9_list_230 : decode cX9_list 230 = .ok (.getfield 44, 3) := by decide +kernel
theorem dX9_list_233 : decode cX9_list 233 = .ok (.aload_n 0, 1) := by decide +kernel
theorem dX9_list_234 : decode cX9_list 234 = .ok (.getfield 112, 3) := by decide +kernel
theorem dX9_list_237 : decode cX9_list 237 = .ok (.iload 12, 2) := by decide +kernel
theorem dX9_list_239 : decode cX9_list 239 = .ok (.iload_n 3, 1) := by decide +kernel
theorem dX9_list_240 : decode cX9_list 240 = .ok (.ishl, 1) := by decide +kernel
theorem dX9_list_241 : decode cX9_list 241 = .ok (.aload_n 0, 1) := by decide +kernel
theorem dX9_list_242 : decode cX9_list 242 = .ok (.getfield 38, 3) := by decide +kernel
theorem dX9_list_245 : decode cX9_list 245 = .ok (.bipush 30, 2) := by decide +kernel
theorem dX9_list_247 : decode cX9_list 247 = .ok (.iload 11, 2) := by decide +kernel
theorem dX9_list_249 : decode cX9_list 249 = .ok (.iadd, 1) := by decide +kernel
theorem dX9_list_250 : decode cX9_list 250 = .ok (.iaload, 1) := by decide +kernel
theorem dX9_list_251 : decode cX9_list 251 = .ok (.ior, 1) := by decide +kernel
theorem dX9_list_252 : decode cX9_list 252 = .ok (.iload_n 3, 1) := by decide +kernel
theorem dX9_list_253 : decode cX9_list 253 = .ok (.iconst 4, 1) := by decide +kernel
theorem dX9_list_254 : decode cX9_list 254 = .ok (.aload_n 1, 1) := by decide +kernel
theorem dX9_list_255 : decode cX9_list 255 = .ok (.iconst 0, 1) := by decide +kernel
theorem dX9_list_256 : decode cX9_list 256 = .ok (.iaload, 1) := by decide +kernel
theorem dX9_list_257 : decode cX9_list 257 = .ok (.isub, 1) := by decide +kernel
theorem dX9_list_258 : decode cX9_list 258 = .ok (.imul, 1) := by decide +kernel
theorem dX9_list_259 : decode cX9_list 259 = .ok (.ishr, 1) := by decide +kernel
theorem dX9_list_260 : decode cX9_list 260 = .ok (.iastore, 1) := by decide +kernel
theorem dX9_list_261 : decode cX9_list 261 = .ok (.aload_n 0, 1) := by decide +kernel
theorem dX9_list_262 : decode cX9_list 262 = .ok (.dup, 1) := by decide +kernel
theorem dX9_list_263 : decode cX9_list 263 = .ok (.getfield 112, 3) := by decide +kernel
theorem dX9_list_266 : decode cX9_list 266 = .ok (.iconst 1, 1) := by decide +kernel
theorem dX9_list_267 : decode cX9_list 267 = .ok (.iadd, 1) := by decide +kernel
theorem dX9_list_268 : decode cX9_list 268 = .ok (.putfield 112, 3) := by decide +kernel
theorem dX9_list_271 : decode cX9_list 271 = .ok (.iinc 11 1, 3) := by decide +kernel
theorem dX9_list_274 : decode cX9_list 274 = .ok (.goto (-113), 3) := by decide +kernel
theorem dX9_list_277 : decode cX9_list 277 = .ok (.iinc 9 1, 3) := by decide +kernel
theorem dX9_list_280 : decode cX9_list 280 = .ok (.goto (-152), 3) := by decide +kernel
theorem dX9_list_283 : decode cX9_list 283 = .ok (.iinc 7 1, 3) := by decide +kernel
theorem dX9_list_286 : decode cX9_list 286 = .ok (.goto (-191), 3) := by decide +kernel
theorem dX9_list_289 : decode cX9_list 289 = .ok (.iinc 5 1, 3) := by decide +kernel
theorem dX9_list_292 : decode cX9_list 292 = .ok (.goto (-224), 3) := by decide +kernel
theorem dX9_list_295 : decode cX9_list 295 = .ok (.return_, 1) := by decide +kernel
theorem dX9_place_0 : decode cX9_place 0 = .ok (.bipush (-9), 2) := by decide +kernel
theorem dX9_place_2 : decode cX9_place 2 = .ok (.istore_n 2, 1) := by decide +kernel
theorem dX9_place_3 : decode cX9_place 3 = .ok (.iconst 0, 1) := by decide +kernel
theorem dX9_place_4 : decode cX9_place 4 = .ok (.istore_n 3, 1) := by decide +kernel
theorem dX9_place_5 : decode cX9_place 5 = .ok (.iload_n 3, 1) := by decide +kernel
theorem dX9_place_6 : decode cX9_place 6 = .ok (.aload_n 0, 1) := by decide +kernel
theorem dX9_place_7 : decode cX9_place 7 = .ok (.getfield 112, 3) := by decide +kernel
theorem dX9_place_10 : decode cX9_place 10 = .ok (.if_icmp .ge 25, 3) := by decide +kernel
theorem dX9_place_13 : decode cX9_place 13 = .ok (.aload_n 0, 1) := by decide +kernel
theorem dX9_place_14 : decode cX9_place 14 = .ok (.getfield 44, 3) := by decide +kernel
theorem dX9_place_17 : decode cX9_place 17 = .ok (.iload_n 3, 1) := by decide +kernel
theorem dX9_place_18 : decode cX9_place 18 = .ok (.iaload, 1) := by decide +kernel
theorem dX9_place_19 : decode cX9_place 19 = .ok (.iload_n 1, 1) := by decide +kernel
theorem dX9_place_20 : decode cX9_place 20 = .ok (.if_icmp .ne 7, 3) := by decide +kernel
theorem dX9_place_23 : decode cX9_place 23 = .ok (.iload_n 3, 1) := by decide +kernel
theorem dX9_place_24 : decode cX9_place 24 = .ok (.goto 4, 3) := by decide +kernel
theorem dX9_place_27 : decode cX9_place 27 = .ok (.iload_n 2, 1) := by decide +kernel
theorem dX9_place_28 : decode cX9_place 28 = .ok (.istore_n 2, 1) := by decide +kernel
theorem dX9_place_29 : decode cX9_place 29 = .ok (.iinc 3 1, 3) := by decide +kernel
theorem dX9_place_32 : decode cX9_place 32 = .ok (.goto (-27), 3) := by decide +kernel
theorem dX9_place_35 : decode cX9_place 35 = .ok (.iload_n 2, 1) := by decide +kernel
theorem dX9_place_36 : decode cX9_place 36 = .ok (.ireturn, 1) := by decide +kernel
theorem dX9_settle_0 : decode cX9_settle 0 = .ok (.aload_n 0, 1) := by decide +kernel
theorem dX9_settle_1 : decode cX9_settle 1 = .ok (.aload_n 1, 1) := by decide +kernel
theorem dX9_settle_2 : decode cX9_settle 2 = .ok (.iconst 1, 1) := by decide +kernel
theorem dX9_settle_3 : decode cX9_settle 3 = .ok (.invokevirtual 122, 3) := by decide +kernel
theorem dX9_settle_6 : decode cX9_settle 6 = .ok (.aload_n 1, 1) := by decide +kernel
theorem dX9_settle_7 : decode cX9_settle 7 = .ok (.bipush 31, 2) := by decide +kernel
theorem dX9_settle_9 : decode cX9_settle 9 = .ok (.iaload, 1) := by decide +kernel
theorem dX9_settle_10 : decode cX9_settle 10 = .ok (.bipush (-9), 2) := by decide +kernel
theorem dX9_settle_12 : decode cX9_settle 12 = .ok (.if_icmp .eq 16, 3) := by decide +kernel
theorem dX9_settle_15 : decode cX9_settle 15 = .ok (.aload_n 0, 1) := by decide +kernel
theorem dX9_settle_16 : decode cX9_settle 16 = .ok (.aload_n 1, 1) := by decide +kernel
theorem dX9_settle_17 : decode cX9_settle 17 = .ok (.bipush 31, 2) := by decide +kernel
theorem dX9_settle_19 : decode cX9_settle 19 = .ok (.iaload, 1) := by decide +kernel
theorem dX9_settle_20 : decode cX9_settle 20 = .ok (.invokevirtual 126, 3) := by decide +kernel
theorem dX9_settle_23 : decode cX9_settle 23 = .ok (.bipush (-9), 2) := by decide +kernel
theorem dX9_settle_25 : decode cX9_settle 25 = .ok (.if_icmp .ne 25, 3) := by decide +kernel
theorem dX9_settle_28 : decode cX9_settle 28 = .ok (.aload_n 1, 1) := by decide +kernel
theorem dX9_settle_29 : decode cX9_settle 29 = .ok (.bipush 31, 2) := by decide +kernel
theorem dX9_settle_31 : decode cX9_settle 31 = .ok (.aload_n 0, 1) := by decide +kernel
theorem dX9_settle_32 : decode cX9_settle 32 = .ok (.getfield 112, 3) := by decide +kernel
theorem dX9_settle_35 : decode cX9_settle 35 = .ok (.ifCond .ne 8, 3) := by decide +kernel
theorem dX9_settle_38 : decode cX9_settle 38 = .ok (.bipush (-9), 2) := by decide +kernel
theorem dX9_settle_40 : decode cX9_settle 40 = .ok (.goto 9, 3) := by decide +kernel
theorem dX9_settle_43 : decode cX9_settle 43 = .ok (.aload_n 0, 1) := by decide +kernel
theorem dX9_settle_44 : decode cX9_settle 44 = .ok (.getfield 44, 3) := by decide +kernel
theorem dX9_settle_47 : decode cX9_settle 47 = .ok (.iconst 0, 1) := by decide +kernel
theorem dX9_settle_48 : decode cX9_settle 48 = .ok (.iaload, 1) := by decide +kernel
theorem dX9_settle_49 : decode cX9_settle 49 = .ok (.iastore, 1) := by decide +kernel
theorem dX9_settle_50 : decode cX9_settle 50 = .ok (.return_, 1) := by decide +kernel
theorem dX9_sheet_0 : decode cX9_sheet 0 = .ok (.aload_n 0, 1) := by decide +kernel
theorem dX9_sheet_1 : decode cX9_sheet 1 = .ok (.iconst 0, 1) := by decide +kernel
theorem dX9_sheet_2 : decode cX9_sheet 2 = .ok (.putfield 65, 3) := by decide +kernel
theorem dX9_sheet_5 : decode cX9_sheet 5 = .ok (.aload_n 0, 1) := by decide +kernel
theorem dX9_sheet_6 : decode cX9_sheet 6 = .ok (.invokevirtual 101, 3) := by decide +kernel
theorem dX9_sheet_9 : decode cX9_sheet 9 = .ok (.bipush (-9), 2) := by decide +kernel
theorem dX9_sheet_11 : decode cX9_sheet 11 = .ok (.if_icmp .eq 6, 3) := by decide +kernel
theorem dX9_sheet_14 : decode cX9_sheet 14 = .ok (.bipush (-3), 2) := by decide +kernel
theorem dX9_sheet_16 : decode cX9_sheet 16 = .ok (.ireturn, 1) := by decide +kernel
theorem dX9_sheet_17 : decode cX9_sheet 17 = .ok (.aload_n 0, 1) := by decide +kernel
theorem dX9_sheet_18 : decode cX9_sheet 18 = .ok (.getfield 16, 3) := by decide +kernel
theorem dX9_sheet_21 : decode cX9_sheet 21 = .ok (.aload_n 0, 1) := by decide +kernel
theorem dX9_sheet_22 : decode cX9_sheet 22 = .ok (.getfield 13, 3) := by decide +kernel
theorem dX9_sheet_25 : decode cX9_sheet 25 = .ok (.invokestatic 129, 3) := by decide +kernel
theorem dX9_sheet_28 : decode cX9_sheet 28 = .ok (.aload_n 0, 1) := by decide +kernel
theorem dX9_sheet_29 : decode cX9_sheet 29 = .ok (.getfield 16, 3) := by decide +kernel
theorem dX9_sheet_32 : decode cX9_sheet 32 = .ok (.bipush 31, 2) := by decide +kernel
theorem dX9_sheet_34 : decode cX9_sheet 34 = .ok (.bipush (-9), 2) := by decide +kernel
theorem dX9_sheet_36 : decode cX9_sheet 36 = .ok (.iastore, 1) := by decide +kernel
theorem dX9_sheet_37 : decode cX9_sheet 37 = .ok (.aload_n 0, 1) := by decide +kernel
theorem dX9_sheet_38 : decode cX9_sheet 38 = .ok (.aload_n 0, 1) := by decide +kernel
theorem dX9_sheet_39 : decode cX9_sheet 39 = .ok (.getfield 16, 3) := by decide +kernel
theorem dX9_sheet_42 : decode cX9_sheet 42 = .ok (.invokevirtual 133, 3) := by decide +kernel
theorem dX9_sheet_45 : decode cX9_sheet 45 = .ok (.aload_n 0, 1) := by decide +kernel
theorem dX9_sheet_46 : decode cX9_sheet 46 = .ok (.iconst 0, 1) := by decide +kernel
theorem dX9_sheet_47 : decode cX9_sheet 47 = .ok (.putfield 137, 3) := by decide +kernel
theorem dX9_sheet_50 : decode cX9_sheet 50 = .ok (.aload_n 0, 1) := by decide +kernel
theorem dX9_sheet_51 : decode cX9_sheet 51 = .ok (.getfield 28, 3) := by decide +kernel
theorem dX9_sheet_54 : decode cX9_sheet 54 = .ok (.iconst 0, 1) := by decide +kernel
theorem dX9_sheet_55 : decode cX9_sheet 55 = .ok (.iconst 0, 1) := by decide +kernel
theorem dX9_sheet_56 : decode cX9_sheet 56 = .ok (.bastore, 1) := by decide +kernel
theorem dX9_sheet_57 : decode cX9_sheet 57 = .ok (.aload_n 0, 1) := by decide +kernel
theorem dX9_sheet_58 : decode cX9_sheet 58 = .ok (.getfield 28, 3) := by decide +kernel
theorem dX9_sheet_61 : decode cX9_sheet 61 = .ok (.iconst 1, 1) := by decide +kernel
theorem dX9_sheet_62 : decode cX9_sheet 62 = .ok (.iconst 0, 1) := by decide +kernel
theorem dX9_sheet_63 : decode cX9_sheet 63 = .ok (.bastore, 1) := by decide +kernel
theorem dX9_sheet_64 : decode cX9_sheet 64 = .ok (.aload_n 0, 1) := by decide +kernel
theorem dX9_sheet_65 : decode cX9_sheet 65 = .ok (.getfield 112, 3) := by decide +kernel
theorem dX9_sheet_68 : decode cX9_sheet 68 = .ok (.ireturn, 1) := by decide +kernel
theorem dX9_noLine_0 : decode cX9_noLine 0 = .ok (.iload_n 2, 1) := by decide +kernel
theorem dX9_noLine_1 : decode cX9_noLine 1 = .ok (.i2l, 1) := by decide +kernel
theorem dX9_noLine_2 : decode cX9_noLine 2 = .ok (.lconst 0, 1) := by decide +kernel
theorem dX9_noLine_3 : decode cX9_noLine 3 = .ok (.aload_n 0, 1) := by decide +kernel
theorem dX9_noLine_4 : decode cX9_noLine 4 = .ok (.getfield 16, 3) := by decide +kernel
theorem dX9_noLine_7 : decode cX9_noLine 7 = .ok (.iload_n 1, 1) := by decide +kernel
theorem dX9_noLine_8 : decode cX9_noLine 8 = .ok (.iaload, 1) := by decide +kernel
theorem dX9_noLine_9 : decode cX9_noLine 9 = .ok (.iconst 1, 1) := by decide +kernel
theorem dX9_noLine_10 : decode cX9_noLine 10 = .ok (.isub, 1) := by decide +kernel
theorem dX9_noLine_11 : decode cX9_noLine 11 = .ok (.i2l, 1) := by decide +kernel
theorem dX9_noLine_12 : decode cX9_noLine 12 = .ok (.invokestatic 77, 3) := by decide +kernel
theorem dX9_noLine_15 : decode cX9_noLine 15 = .ok (.ifCond .ne 7, 3) := by decide +kernel
theorem dX9_noLine_18 : decode cX9_noLine 18 = .ok (.iconst 1, 1) := by decide +kernel
theorem dX9_noLine_19 : decode cX9_noLine 19 = .ok (.goto 4, 3) := by decide +kernel
theorem dX9_noLine_22 : decode cX9_noLine 22 = .ok (.iconst 0, 1) := by decide +kernel
theorem dX9_noLine_23 : decode cX9_noLine 23 = .ok (.ireturn, 1) := by decide +kernel
theorem dX9_totalAt_0 : decode cX9_totalAt 0 = .ok (.iload_n 0, 1) := by decide +kernel
theorem dX9_totalAt_1 : decode cX9_totalAt 1 = .ok (.ifCond .ne 9, 3) := by decide +kernel
theorem dX9_totalAt_4 : decode cX9_totalAt 4 = .ok (.iconst 2, 1) := by decide +kernel
theorem dX9_totalAt_5 : decode cX9_totalAt 5 = .ok (.iload_n 1, 1) := by decide +kernel
theorem dX9_totalAt_6 : decode cX9_totalAt 6 = .ok (.iadd, 1) := by decide +kernel
theorem dX9_totalAt_7 : decode cX9_totalAt 7 = .ok (.goto 7, 3) := by decide +kernel
theorem dX9_totalAt_10 : decode cX9_totalAt 10 = .ok (.bipush 6, 2) := by decide +kernel
theorem dX9_totalAt_12 : decode cX9_totalAt 12 = .ok (.iload_n 1, 1) := by decide +kernel
theorem dX9_totalAt_13 : decode cX9_totalAt 13 = .ok (.iadd, 1) := by decide +kernel
theorem dX9_totalAt_14 : decode cX9_totalAt 14 = .ok (.ireturn, 1) := by decide +kernel
theorem dX9_total_0 : decode cX9_total 0 = .ok (.aload_n 0, 1) := by decide +kernel
theorem dX9_total_1 : decode cX9_total 1 = .ok (.iconst 0, 1) := by decide +kernel
theorem dX9_total_2 : decode cX9_total 2 = .ok (.putfield 65, 3) := by decide +kernel
theorem dX9_total_5 : decode cX9_total 5 = .ok (.iload_n 1, 1) := by decide +kernel
theorem dX9_total_6 : decode cX9_total 6 = .ok (.i2l, 1) := by decide +kernel
theorem dX9_total_7 : decode cX9_total 7 = .ok (.lconst 0, 1) := by decide +kernel
theorem dX9_total_8 : decode cX9_total 8 = .ok (.lconst 1, 1) := by decide +kernel
theorem dX9_total_9 : decode cX9_total 9 = .ok (.invokestatic 77, 3) := by decide +kernel
theorem dX9_total_12 : decode cX9_total 12 = .ok (.ifCond .ne 6, 3) := by decide +kernel
theorem dX9_total_15 : decode cX9_total 15 = .ok (.bipush (-2), 2) := by decide +kernel
theorem dX9_total_17 : decode cX9_total 17 = .ok (.ireturn, 1) := by decide +kernel
theorem dX9_total_18 : decode cX9_total 18 = .ok (.aload_n 0, 1) := by decide +kernel
theorem dX9_total_19 : decode cX9_total 19 = .ok (.iload_n 1, 1) := by decide +kernel
theorem dX9_total_20 : decode cX9_total 20 = .ok (.iload_n 2, 1) := by decide +kernel
theorem dX9_total_21 : decode cX9_total 21 = .ok (.invokevirtual 140, 3) := by decide +kernel
theorem dX9_total_24 : decode cX9_total 24 = .ok (.ifCond .eq 7, 3) := by decide +kernel
theorem dX9_total_27 : decode cX9_total 27 = .ok (.iconst (-1), 1) := by decide +kernel
theorem dX9_total_28 : decode cX9_total 28 = .ok (.goto 13, 3) := by decide +kernel
theorem dX9_total_31 : decode cX9_total 31 = .ok (.aload_n 0, 1) := by decide +kernel
theorem dX9_total_32 : decode cX9_total 32 = .ok (.getfield 16, 3) := by decide +kernel
theorem dX9_total_35 : decode cX9_total 35 = .ok (.iload_n 1, 1) := by decide +kernel
theorem dX9_total_36 : decode cX9_total 36 = .ok (.iload_n 2, 1) := by decide +kernel
theorem dX9_total_37 : decode cX9_total 37 = .ok (.invokestatic 143, 3) := by decide +kernel
theorem dX9_total_40 : decode cX9_total 40 = .ok (.iaload, 1) := by decide +kernel
theorem dX9_total_41 : decode cX9_total 41 = .ok (.ireturn, 1) := by decide +kernel
theorem dX9_pin_0 : decode cX9_pin 0 = .ok (.aload_n 0, 1) := by decide +kernel
theorem dX9_pin_1 : decode cX9_pin 1 = .ok (.iconst 0, 1) := by decide +kernel
theorem dX9_pin_2 : decode cX9_pin 2 = .ok (.putfield 65, 3) := by decide +kernel
theorem dX9_pin_5 : decode cX9_pin 5 = .ok (.aload_n 0, 1) := by decide +kernel
theorem dX9_pin_6 : decode cX9_pin 6 = .ok (.iload_n 1, 1) := by decide +kernel
theorem dX9_pin_7 : decode cX9_pin 7 = .ok (.invokevirtual 146, 3) := by decide +kernel
theorem dX9_pin_10 : decode cX9_pin 10 = .ok (.ifCond .eq 7, 3) := by decide +kernel
theorem dX9_pin_13 : decode cX9_pin 13 = .ok (.iconst (-1), 1) := by decide +kernel
theorem dX9_pin_14 : decode cX9_pin 14 = .ok (.goto 12, 3) := by decide +kernel
theorem dX9_pin_17 : decode cX9_pin 17 = .ok (.aload_n 0, 1) := by decide +kernel
theorem dX9_pin_18 : decode cX9_pin 18 = .ok (.getfield 16, 3) := by decide +kernel
theorem dX9_pin_21 : decode cX9_pin 21 = .ok (.bipush 11, 2) := by decide +kernel
theorem dX9_pin_23 : decode cX9_pin 23 = .ok (.iload_n 1, 1) := by decide +kernel
theorem dX9_pin_24 : decode cX9_pin 24 = .ok (.iadd, 1) := by decide +kernel
theorem dX9_pin_25 : decode cX9_pin 25 = .ok (.iaload, 1) := by decide +kernel
theorem dX9_pin_26 : decode cX9_pin 26 = .ok (.ireturn, 1) := by decide +kernel
theorem dX9_sum_0 : decode cX9_sum 0 = .ok (.iconst 0, 1) := by decide +kernel
theorem dX9_sum_1 : decode cX9_sum 1 = .ok (.istore_n 3, 1) := by decide +kernel
theorem dX9_sum_2 : decode cX9_sum 2 = .ok (.iconst 0, 1) := by decide +kernel
theorem dX9_sum_3 : decode cX9_sum 3 = .ok (.istore 4, 2) := by decide +kernel
theorem dX9_sum_5 : decode cX9_sum 5 = .ok (.iload 4, 2) := by decide +kernel
theorem dX9_sum_7 : decode cX9_sum 7 = .ok (.iload_n 2, 1) := by decide +kernel
theorem dX9_sum_8 : decode cX9_sum 8 = .ok (.if_icmp .ge 18, 3) := by decide +kernel
theorem dX9_sum_11 : decode cX9_sum 11 = .ok (.iload_n 3, 1) := by decide +kernel
theorem dX9_sum_12 : decode cX9_sum 12 = .ok (.aload_n 0, 1) := by decide +kernel
theorem dX9_sum_13 : decode cX9_sum 13 = .ok (.iload_n 1, 1) := by decide +kernel
theorem dX9_sum_14 : decode cX9_sum 14 = .ok (.iload 4, 2) := by decide +kernel
theorem dX9_sum_16 : decode cX9_sum 16 = .ok (.iadd, 1) := by decide +kernel
theorem dX9_sum_17 : decode cX9_sum 17 = .ok (.iaload, 1) := by decide +kernel
theorem dX9_sum_18 : decode cX9_sum 18 = .ok (.iadd, 1) := by decide +kernel
theorem dX9_sum_19 : decode cX9_sum 19 = .ok (.istore_n 3, 1) := by decide +kernel
theorem dX9_sum_20 : decode cX9_sum 20 = .ok (.iinc 4 1, 3) := by decide +kernel
theorem dX9_sum_23 : decode cX9_sum 23 = .ok (.goto (-18), 3) := by decide +kernel
theorem dX9_sum_26 : decode cX9_sum 26 = .ok (.iload_n 3, 1) := by decide +kernel
theorem dX9_sum_27 : decode cX9_sum 27 = .ok (.ireturn, 1) := by decide +kernel
theorem dX9_greatest_0 : decode cX9_greatest 0 = .ok (.iconst 0, 1) := by decide +kernel
theorem dX9_greatest_1 : decode cX9_greatest 1 = .ok (.istore_n 2, 1) := by decide +kernel
theorem dX9_greatest_2 : decode cX9_greatest 2 = .ok (.iconst 0, 1) := by decide +kernel
theorem dX9_greatest_3 : decode cX9_greatest 3 = .ok (.istore_n 3, 1) := by decide +kernel
theorem dX9_greatest_4 : decode cX9_greatest 4 = .ok (.iload_n 3, 1) := by decide +kernel
theorem dX9_greatest_5 : decode cX9_greatest 5 = .ok (.iconst 1, 1) := by decide +kernel
theorem dX9_greatest_6 : decode cX9_greatest 6 = .ok (.aload_n 0, 1) := by decide +kernel
theorem dX9_greatest_7 : decode cX9_greatest 7 = .ok (.iconst 0, 1) := by decide +kernel
theorem dX9_greatest_8 : decode cX9_greatest 8 = .ok (.iaload, 1) := by decide +kernel
theorem dX9_greatest_9 : decode cX9_greatest 9 = .ok (.ishl, 1) := by decide +kernel
theorem dX9_greatest_10 : decode cX9_greatest 10 = .ok (.if_icmp .ge 74, 3) := by decide +kernel
theorem dX9_greatest_13 : decode cX9_greatest 13 = .ok (.iconst 0, 1) := by decide +kernel
theorem dX9_greatest_14 : decode cX9_greatest 14 = .ok (.istore 4, 2) := by decide +kernel
theorem dX9_greatest_16 : decode cX9_greatest 16 = .ok (.iconst 0, 1) := by decide +kernel
theorem dX9_greatest_17 : decode cX9_greatest 17 = .ok (.istore 5, 2) := by decide +kernel
theorem dX9_greatest_19 : decode cX9_greatest 19 = .ok (.iload 5, 2) := by decide +kernel
theorem dX9_greatest_21 : decode cX9_greatest 21 = .ok (.aload_n 0, 1) := by decide +kernel
theorem dX9_greatest_22 : decode cX9_greatest 22 = .ok (.iconst 0, 1) := by decide +kernel
theorem dX9_greatest_23 : decode cX9_greatest 23 = .ok (.iaload, 1) := by decide +kernel
theorem dX9_greatest_24 : decode cX9_greatest 24 = .ok (.if_icmp .ge 33, 3) := by decide +kernel
theorem dX9_greatest_27 : decode cX9_greatest 27 = .ok (.iload 4, 2) := by decide +kernel
theorem dX9_greatest_29 : decode cX9_greatest 29 = .ok (.iload_n 3, 1) := by decide +kernel
theorem dX9_greatest_30 : decode cX9_greatest 30 = .ok (.iload 5, 2) := by decide +kernel
theorem dX9_greatest_32 : decode cX9_greatest 32 = .ok (.invokestatic 73, 3) := by decide +kernel
theorem dX9_greatest_35 : decode cX9_greatest 35 = .ok (.ifCond .eq 12, 3) := by decide +kernel
theorem dX9_greatest_38 : decode cX9_greatest 38 = .ok (.aload_n 0, 1) := by decide +kernel
theorem dX9_greatest_39 : decode cX9_greatest 39 = .ok (.iconst 2, 1) := by decide +kernel
theorem dX9_greatest_40 : decode cX9_greatest 40 = .ok (.iload 5, 2) := by decide +kernel
theorem dX9_greatest_42 : decode cX9_greatest 42 = .ok (.iadd, 1) := by decide +kernel
theorem dX9_greatest_43 : decode cX9_greatest 43 = .ok (.iaload, 1) := by decide +kernel
theorem dX9_greatest_44 : decode cX9_greatest 44 = .ok (.goto 4, 3) := by decide +kernel
theorem dX9_greatest_47 : decode cX9_greatest 47 = .ok (.iconst 0, 1) := by decide +kernel
theorem dX9_greatest_48 : decode cX9_greatest 48 = .ok (.iadd, 1) := by decide +kernel
theorem dX9_greatest_49 : decode cX9_greatest 49 = .ok (.istore 4, 2) := by decide +kernel
theorem dX9_greatest_51 : decode cX9_greatest 51 = .ok (.iinc 5 1, 3) := by decide +kernel
theorem dX9_greatest_54 : decode cX9_greatest 54 = .ok (.goto (-35), 3) := by decide +kernel
theorem dX9_greatest_57 : decode cX9_greatest 57 = .ok (.iload_n 3, 1) := by decide +kernel
theorem dX9_greatest_58 : decode cX9_greatest 58 = .ok (.invokestatic 105, 3) := by decide +kernel
theorem dX9_greatest_61 : decode cX9_greatest 61 = .ok (.iload_n 1, 1) := by decide +kernel
theorem dX9_greatest_62 : decode cX9_greatest 62 = .ok (.if_icmp .ne 14, 3) := by decide +kernel
theorem dX9_greatest_65 : decode cX9_greatest 65 = .ok (.iload 4, 2) := by decide +kernel
theorem dX9_greatest_67 : decode cX9_greatest 67 = .ok (.iload_n 2, 1) := by decide +kernel
theorem dX9_greatest_68 : decode cX9_greatest 68 = .ok (.if_icmp .le 8, 3) := by decide +kernel
theorem dX9_greatest_71 : decode cX9_greatest 71 = .ok (.iload 4, 2) := by decide +kernel
theorem dX9_greatest_73 : decode cX9_greatest 73 = .ok (.goto 4, 3) := by decide +kernel
theorem dX9_greatest_76 : decode cX9_greatest 76 = .ok (.iload_n 2, 1) := by decide +kernel
theorem dX9_greatest_77 : decode cX9_greatest 77 = .ok (.istore_n 2, 1) := by decide +kernel
theorem dX9_greatest_78 : decode cX9_greatest 78 = .ok (.iinc 3 1, 3) := by decide +kernel
theorem dX9_greatest_81 : decode cX9_greatest 81 = .ok (.goto (-77), 3) := by decide +kernel
theorem dX9_greatest_84 : decode cX9_greatest 84 = .ok (.iload_n 2, 1) := by decide +kernel
theorem dX9_greatest_85 : decode cX9_greatest 85 = .ok (.ireturn, 1) := by decide +kernel
theorem dX9_tested_0 : decode cX9_tested 0 = .ok (.aload_n 0, 1) := by decide +kernel
theorem dX9_tested_1 : decode cX9_tested 1 = .ok (.iconst 2, 1) := by decide +kernel
theorem dX9_tested_2 : decode cX9_tested 2 = .ok (.aload_n 0, 1) := by decide +kernel
theorem dX9_tested_3 : decode cX9_tested 3 = .ok (.iconst 0, 1) := by decide +kernel
theorem dX9_tested_4 : decode cX9_tested 4 = .ok (.iaload, 1) := by decide +kernel
theorem dX9_tested_5 : decode cX9_tested 5 = .ok (.invokestatic 150, 3) := by decide +kernel
theorem dX9_tested_8 : decode cX9_tested 8 = .ok (.aload_n 0, 1) := by decide +kernel
theorem dX9_tested_9 : decode cX9_tested 9 = .ok (.bipush 6, 2) := by decide +kernel
theorem dX9_tested_11 : decode cX9_tested 11 = .ok (.aload_n 0, 1) := by decide +kernel
theorem dX9_tested_12 : decode cX9_tested 12 = .ok (.iconst 1, 1) := by decide +kernel
theorem dX9_tested_13 : decode cX9_tested 13 = .ok (.iaload, 1) := by decide +kernel
theorem dX9_tested_14 : decode cX9_tested 14 = .ok (.invokestatic 150, 3) := by decide +kernel
theorem dX9_tested_17 : decode cX9_tested 17 = .ok (.if_icmp .eq 5, 3) := by decide +kernel
theorem dX9_tested_20 : decode cX9_tested 20 = .ok (.iconst 0, 1) := by decide +kernel
theorem dX9_tested_21 : decode cX9_tested 21 = .ok (.ireturn, 1) := by decide +kernel
theorem dX9_tested_22 : decode cX9_tested 22 = .ok (.iconst 1, 1) := by decide +kernel
theorem dX9_tested_23 : decode cX9_tested 23 = .ok (.istore_n 1, 1) := by decide +kernel
theorem dX9_tested_24 : decode cX9_tested 24 = .ok (.iload_n 1, 1) := by decide +kernel
theorem dX9_tested_25 : decode cX9_tested 25 = .ok (.aload_n 0, 1) := by decide +kernel
theorem dX9_tested_26 : decode cX9_tested 26 = .ok (.iconst 0, 1) := by decide +kernel
theorem dX9_tested_27 : decode cX9_tested 27 = .ok (.iaload, 1) := by decide +kernel
theorem dX9_tested_28 : decode cX9_tested 28 = .ok (.if_icmp .gt 60, 3) := by decide +kernel
theorem dX9_tested_31 : decode cX9_tested 31 = .ok (.iconst 0, 1) := by decide +kernel
theorem dX9_tested_32 : decode cX9_tested 32 = .ok (.istore_n 2, 1) := by decide +kernel
theorem dX9_tested_33 : decode cX9_tested 33 = .ok (.iconst 0, 1) := by decide +kernel
theorem dX9_tested_34 : decode cX9_tested 34 = .ok (.istore_n 3, 1) := by decide +kernel
theorem dX9_tested_35 : decode cX9_tested 35 = .ok (.iload_n 3, 1) := by decide +kernel
theorem dX9_tested_36 : decode cX9_tested 36 = .ok (.aload_n 0, 1) := by decide +kernel
theorem dX9_tested_37 : decode cX9_tested 37 = .ok (.iconst 1, 1) := by decide +kernel
theorem dX9_tested_38 : decode cX9_tested 38 = .ok (.iaload, 1) := by decide +kernel
theorem dX9_tested_39 : decode cX9_tested 39 = .ok (.if_icmp .ge 32, 3) := by decide +kernel
theorem dX9_tested_42 : decode cX9_tested 42 = .ok (.iload_n 2, 1) := by decide +kernel
theorem dX9_tested_43 : decode cX9_tested 43 = .ok (.aload_n 0, 1) := by decide +kernel
theorem dX9_tested_44 : decode cX9_tested 44 = .ok (.bipush 6, 2) := by decide +kernel
theorem dX9_tested_46 : decode cX9_tested 46 = .ok (.iload_n 3, 1) := by decide +kernel
theorem dX9_tested_47 : decode cX9_tested 47 = .ok (.iadd, 1) := by decide +kernel
theorem dX9_tested_48 : decode cX9_tested 48 = .ok (.iaload, 1) := by decide +kernel
theorem dX9_tested_49 : decode cX9_tested 49 = .ok (.iload_n 1, 1) := by decide +kernel
theorem dX9_tested_50 : decode cX9_tested 50 = .ok (.if_icmp .ge 12, 3) := by decide +kernel
theorem dX9_tested_53 : decode cX9_tested 53 = .ok (.aload_n 0, 1) := by decide +kernel
theorem dX9_tested_54 : decode cX9_tested 54 = .ok (.bipush 6, 2) := by decide +kernel
theorem dX9_tested_56 : decode cX9_tested 56 = .ok (.iload_n 3, 1) := by decide +kernel
theorem dX9_tested_57 : decode cX9_tested 57 = .ok (.iadd, 1) := by decide +kernel
theorem dX9_tested_58 : decode cX9_tested 58 = .ok (.iaload, 1) := by decide +kernel
theorem dX9_tested_59 : decode cX9_tested 59 = .ok (.goto 4, 3) := by decide +kernel
theorem dX9_tested_62 : decode cX9_tested 62 = .ok (.iload_n 1, 1) := by decide +kernel
theorem dX9_tested_63 : decode cX9_tested 63 = .ok (.iadd, 1) := by decide +kernel
theorem dX9_tested_64 : decode cX9_tested 64 = .ok (.istore_n 2, 1) := by decide +kernel
theorem dX9_tested_65 : decode cX9_tested 65 = .ok (.iinc 3 1, 3) := by decide +kernel
theorem dX9_tested_68 : decode cX9_tested 68 = .ok (.goto (-33), 3) := by decide +kernel
theorem dX9_tested_71 : decode cX9_tested 71 = .ok (.aload_n 0, 1) := by decide +kernel
theorem dX9_tested_72 : decode cX9_tested 72 = .ok (.iload_n 1, 1) := by decide +kernel
theorem dX9_tested_73 : decode cX9_tested 73 = .ok (.invokestatic 154, 3) := by decide +kernel
theorem dX9_tested_76 : decode cX9_tested 76 = .ok (.iload_n 2, 1) := by decide +kernel
theorem dX9_tested_77 : decode cX9_tested 77 = .ok (.if_icmp .le 5, 3) := by decide +kernel
theorem dX9_tested_80 : decode cX9_tested 80 = .ok (.iload_n 1, 1) := by decide +kernel
theorem dX9_tested_81 : decode cX9_tested 81 = .ok (.ireturn, 1) := by decide +kernel
theorem dX9_tested_82 : decode cX9_tested 82 = .ok (.iinc 1 1, 3) := by decide +kernel
theorem dX9_tested_85 : decode cX9_tested 85 = .ok (.goto (-61), 3) := by decide +kernel
theorem dX9_tested_88 : decode cX9_tested 88 = .ok (.bipush (-9), 2) := by decide +kernel
theorem dX9_tested_90 : decode cX9_tested 90 = .ok (.ireturn, 1) := by decide +kernel
theorem dX9_test_0 : decode cX9_test 0 = .ok (.aload_n 0, 1) := by decide +kernel
theorem dX9_test_1 : decode cX9_test 1 = .ok (.iconst 0, 1) := by decide +kernel
theorem dX9_test_2 : decode cX9_test 2 = .ok (.putfield 65, 3) := by decide +kernel
theorem dX9_test_5 : decode cX9_test 5 = .ok (.aload_n 0, 1) := by decide +kernel
theorem dX9_test_6 : decode cX9_test 6 = .ok (.getfield 16, 3) := by decide +kernel
theorem dX9_test_9 : decode cX9_test 9 = .ok (.invokestatic 158, 3) := by decide +kernel
theorem dX9_test_12 : decode cX9_test 12 = .ok (.ireturn, 1) := by decide +kernel
theorem dX9_orderRows_0 : decode cX9_orderRows 0 = .ok (.iconst 0, 1) := by decide +kernel
theorem dX9_orderRows_1 : decode cX9_orderRows 1 = .ok (.istore_n 1, 1) := by decide +kernel
theorem dX9_orderRows_2 : decode cX9_orderRows 2 = .ok (.aload_n 0, 1) := by decide +kernel
theorem dX9_orderRows_3 : decode cX9_orderRows 3 = .ok (.getfield 16, 3) := by decide +kernel
theorem dX9_orderRows_6 : decode cX9_orderRows 6 = .ok (.iconst 1, 1) := by decide +kernel
theorem dX9_orderRows_7 : decode cX9_orderRows 7 = .ok (.iaload, 1) := by decide +kernel
theorem dX9_orderRows_8 : decode cX9_orderRows 8 = .ok (.istore_n 2, 1) := by decide +kernel
theorem dX9_orderRows_9 : decode cX9_orderRows 9 = .ok (.iload_n 2, 1) := by decide +kernel
theorem dX9_orderRows_10 : decode cX9_orderRows 10 = .ok (.ifCond .lt 49, 3) := by decide +kernel
theorem dX9_orderRows_13 : decode cX9_orderRows 13 = .ok (.iconst 0, 1) := by decide +kernel
theorem dX9_orderRows_14 : decode cX9_orderRows 14 = .ok (.istore_n 3, 1) := by decide +kernel
theorem dX9_orderRows_15 : decode cX9_orderRows 15 = .ok (.iload_n 3, 1) := by decide +kernel
theorem dX9_orderRows_16 : decode cX9_orderRows 16 = .ok (.aload_n 0, 1) := by decide +kernel
theorem dX9_orderRows_17 : decode cX9_orderRows 17 = .ok (.getfield 16, 3) := by decide +kernel
theorem dX9_orderRows_20 : decode cX9_orderRows 20 = .ok (.iconst 0, 1) := by decide +kernel
theorem dX9_orderRows_21 : decode cX9_orderRows 21 = .ok (.iaload, 1) := by decide +kernel
theorem dX9_orderRows_22 : decode cX9_orderRows 22 = .ok (.if_icmp .ge 31, 3) := by decide +kernel
theorem dX9_orderRows_25 : decode cX9_orderRows 25 = .ok (.aload_n 0, 1) := by decide +kernel
theorem dX9_orderRows_26 : decode cX9_orderRows 26 = .ok (.getfield 16, 3) := by decide +kernel
theorem dX9_orderRows_29 : decode cX9_orderRows 29 = .ok (.iconst 2, 1) := by decide +kernel
theorem dX9_orderRows_30 : decode cX9_orderRows 30 = .ok (.iload_n 3, 1) := by decide +kernel
theorem dX9_orderRows_31 : decode cX9_orderRows 31 = .ok (.iadd, 1) := by decide +kernel
theorem dX9_orderRows_32 : decode cX9_orderRows 32 = .ok (.iaload, 1) := by decide +kernel
theorem dX9_orderRows_33 : decode cX9_orderRows 33 = .ok (.iload_n 2, 1) := by decide +kernel
theorem dX9_orderRows_34 : decode cX9_orderRows 34 = .ok (.if_icmp .ne 13, 3) := by decide +kernel
theorem dX9_orderRows_37 : decode cX9_orderRows 37 = .ok (.aload_n 0, 1) := by decide +kernel
theorem dX9_orderRows_38 : decode cX9_orderRows 38 = .ok (.getfield 53, 3) := by decide +kernel
theorem dX9_orderRows_41 : decode cX9_orderRows 41 = .ok (.iload_n 1, 1) := by decide +kernel
theorem dX9_orderRows_42 : decode cX9_orderRows 42 = .ok (.iload_n 3, 1) := by decide +kernel
theorem dX9_orderRows_43 : decode cX9_orderRows 43 = .ok (.iastore, 1) := by decide +kernel
theorem dX9_orderRows_44 : decode cX9_orderRows 44 = .ok (.iinc 1 1, 3) := by decide +kernel
theorem dX9_orderRows_47 : decode cX9_orderRows 47 = .ok (.iinc 3 1, 3) := by decide +kernel
theorem dX9_orderRows_50 : decode cX9_orderRows 50 = .ok (.goto (-35), 3) := by decide +kernel
theorem dX9_orderRows_53 : decode cX9_orderRows 53 = .ok (.iinc 2 (-1), 3) := by decide +kernel
theorem dX9_orderRows_56 : decode cX9_orderRows 56 = .ok (.goto (-47), 3) := by decide +kernel
theorem dX9_orderRows_59 : decode cX9_orderRows 59 = .ok (.return_, 1) := by decide +kernel
theorem dX9_ahead_0 : decode cX9_ahead 0 = .ok (.iconst 0, 1) := by decide +kernel
theorem dX9_ahead_1 : decode cX9_ahead 1 = .ok (.istore_n 2, 1) := by decide +kernel
theorem dX9_ahead_2 : decode cX9_ahead 2 = .ok (.iconst 0, 1) := by decide +kernel
theorem dX9_ahead_3 : decode cX9_ahead 3 = .ok (.istore_n 3, 1) := by decide +kernel
theorem dX9_ahead_4 : decode cX9_ahead 4 = .ok (.iload_n 3, 1) := by decide +kernel
theorem dX9_ahead_5 : decode cX9_ahead 5 = .ok (.aload_n 0, 1) := by decide +kernel
theorem dX9_ahead_6 : decode cX9_ahead 6 = .ok (.getfield 16, 3) := by decide +kernel
theorem dX9_ahead_9 : decode cX9_ahead 9 = .ok (.iconst 1, 1) := by decide +kernel
theorem dX9_ahead_10 : decode cX9_ahead 10 = .ok (.iaload, 1) := by decide +kernel
theorem dX9_ahead_11 : decode cX9_ahead 11 = .ok (.if_icmp .ge 52, 3) := by decide +kernel
theorem dX9_ahead_14 : decode cX9_ahead 14 = .ok (.iload_n 2, 1) := by decide +kernel
theorem dX9_ahead_15 : decode cX9_ahead 15 = .ok (.aload_n 0, 1) := by decide +kernel
theorem dX9_ahead_16 : decode cX9_ahead 16 = .ok (.getfield 56, 3) := by decide +kernel
theorem dX9_ahead_19 : decode cX9_ahead 19 = .ok (.iload_n 3, 1) := by decide +kernel
theorem dX9_ahead_20 : decode cX9_ahead 20 = .ok (.iaload, 1) := by decide +kernel
theorem dX9_ahead_21 : decode cX9_ahead 21 = .ok (.aload_n 0, 1) := by decide +kernel
theorem dX9_ahead_22 : decode cX9_ahead 22 = .ok (.getfield 56, 3) := by decide +kernel
theorem dX9_ahead_25 : decode cX9_ahead 25 = .ok (.iload_n 1, 1) := by decide +kernel
theorem dX9_ahead_26 : decode cX9_ahead 26 = .ok (.iaload, 1) := by decide +kernel
theorem dX9_ahead_27 : decode cX9_ahead 27 = .ok (.if_icmp .gt 23, 3) := by decide +kernel
theorem dX9_ahead_30 : decode cX9_ahead 30 = .ok (.aload_n 0, 1) := by decide +kernel
theorem dX9_ahead_31 : decode cX9_ahead 31 = .ok (.getfield 56, 3) := by decide +kernel
theorem dX9_ahead_34 : decode cX9_ahead 34 = .ok (.iload_n 3, 1) := by decide +kernel
theorem dX9_ahead_35 : decode cX9_ahead 35 = .ok (.iaload, 1) := by decide +kernel
theorem dX9_ahead_36 : decode cX9_ahead 36 = .ok (.aload_n 0, 1) := by decide +kernel
theorem dX9_ahead_37 : decode cX9_ahead 37 = .ok (.getfield 56, 3) := by decide +kernel
theorem dX9_ahead_40 : decode cX9_ahead 40 = .ok (.iload_n 1, 1) := by decide +kernel
theorem dX9_ahead_41 : decode cX9_ahead 41 = .ok (.iaload, 1) := by decide +kernel
theorem dX9_ahead_42 : decode cX9_ahead 42 = .ok (.if_icmp .ne 12, 3) := by decide +kernel
theorem dX9_ahead_45 : decode cX9_ahead 45 = .ok (.iload_n 3, 1) := by decide +kernel
theorem dX9_ahead_46 : decode cX9_ahead 46 = .ok (.iload_n 1, 1) := by decide +kernel
theorem dX9_ahead_47 : decode cX9_ahead 47 = .ok (.if_icmp .ge 7, 3) := by decide +kernel
theorem dX9_ahead_50 : decode cX9_ahead 50 = .ok (.iconst 1, 1) := by decide +kernel
theorem dX9_ahead_51 : decode cX9_ahead 51 = .ok (.goto 4, 3) := by decide +kernel
theorem dX9_ahead_54 : decode cX9_ahead 54 = .ok (.iconst 0, 1) := by decide +kernel
theorem dX9_ahead_55 : decode cX9_ahead 55 = .ok (.iadd, 1) := by decide +kernel
theorem dX9_ahead_56 : decode cX9_ahead 56 = .ok (.istore_n 2, 1) := by decide +kernel
theorem dX9_ahead_57 : decode cX9_ahead 57 = .ok (.iinc 3 1, 3) := by decide +kernel
theorem dX9_ahead_60 : decode cX9_ahead 60 = .ok (.goto (-56), 3) := by decide +kernel
theorem dX9_ahead_63 : decode cX9_ahead 63 = .ok (.iload_n 2, 1) := by decide +kernel
theorem dX9_ahead_64 : decode cX9_ahead 64 = .ok (.ireturn, 1) := by decide +kernel
theorem dX9_fill_0 : decode cX9_fill 0 = .ok (.aload_n 0, 1) := by decide +kernel
theorem dX9_fill_1 : decode cX9_fill 1 = .ok (.invokevirtual 161, 3) := by decide +kernel
theorem dX9_fill_4 : decode cX9_fill 4 = .ok (.iconst 0, 1) := by decide +kernel
theorem dX9_fill_5 : decode cX9_fill 5 = .ok (.istore_n 2, 1) := by decide +kernel
theorem dX9_fill_6 : decode cX9_fill 6 = .ok (.iload_n 2, 1) := by decide +kernel
theorem dX9_fill_7 : decode cX9_fill 7 = .ok (.aload_n 0, 1) := by decide +kernel
theorem dX9_fill_8 : decode cX9_fill 8 = .ok (.getfield 16, 3) := by decide +kernel
theorem dX9_fill_11 : decode cX9_fill 11 = .ok (.iconst 1, 1) := by decide +kernel
theorem dX9_fill_12 : decode cX9_fill 12 = .ok (.iaload, 1) := by decide +kernel
theorem dX9_fill_13 : decode cX9_fill 13 = .ok (.if_icmp .ge 24, 3) := by decide +kernel
theorem dX9_fill_16 : decode cX9_fill 16 = .ok (.aload_n 0, 1) := by decide +kernel
theorem dX9_fill_17 : decode cX9_fill 17 = .ok (.getfield 56, 3) := by decide +kernel
theorem dX9_fill_20 : decode cX9_fill 20 = .ok (.iload_n 2, 1) := by decide +kernel
theorem dX9_fill_21 : decode cX9_fill 21 = .ok (.aload_n 0, 1) := by decide +kernel
theorem dX9_fill_22 : decode cX9_fill 22 = .ok (.getfield 16, 3) := by decide +kernel
theorem dX9_fill_25 : decode cX9_fill 25 = .ok (.bipush 6, 2) := by decide +kernel
theorem dX9_fill_27 : decode cX9_fill 27 = .ok (.iload_n 2, 1) := by decide +kernel
theorem dX9_fill_28 : decode cX9_fill 28 = .ok (.iadd, 1) := by decide +kernel
theorem dX9_fill_29 : decode cX9_fill 29 = .ok (.iaload, 1) := by decide +kernel
theorem dX9_fill_30 : decode cX9_fill 30 = .ok (.iastore, 1) := by decide +kernel
theorem dX9_fill_31 : decode cX9_fill 31 = .ok (.iinc 2 1, 3) := by decide +kernel
theorem dX9_fill_34 : decode cX9_fill 34 = .ok (.goto (-28), 3) := by decide +kernel
theorem dX9_fill_37 : decode cX9_fill 37 = .ok (.iconst 0, 1) := by decide +kernel
theorem dX9_fill_38 : decode cX9_fill 38 = .ok (.istore_n 2, 1) := by decide +kernel
theorem dX9_fill_39 : decode cX9_fill 39 = .ok (.iconst 0, 1) := by decide +kernel
theorem dX9_fill_40 : decode cX9_fill 40 = .ok (.istore_n 3, 1) := by decide +kernel
theorem dX9_fill_41 : decode cX9_fill 41 = .ok (.iload_n 3, 1) := by decide +kernel
theorem dX9_fill_42 : decode cX9_fill 42 = .ok (.aload_n 0, 1) := by decide +kernel
theorem dX9_fill_43 : decode cX9_fill 43 = .ok (.getfield 16, 3) := by decide +kernel
theorem dX9_fill_46 : decode cX9_fill 46 = .ok (.iconst 0, 1) := by decide +kernel
theorem dX9_fill_47 : decode cX9_fill 47 = .ok (.iaload, 1) := by decide +kernel
theorem dX9_fill_48 : decode cX9_fill 48 = .ok (.if_icmp .ge 121, 3) := by decide +kernel
theorem dX9_fill_51 : decode cX9_fill 51 = .ok (.iconst 0, 1) := by decide +kernel
theorem dX9_fill_52 : decode cX9_fill 52 = .ok (.istore 4, 2) := by decide +kernel
theorem dX9_fill_54 : decode cX9_fill 54 = .ok (.iconst 0, 1) := by decide +kernel
theorem dX9_fill_55 : decode cX9_fill 55 = .ok (.istore 5, 2) := by decide +kernel
theorem dX9_fill_57 : decode cX9_fill 57 = .ok (.iload 5, 2) := by decide +kernel
theorem dX9_fill_59 : decode cX9_fill 59 = .ok (.aload_n 0, 1) := by decide +kernel
theorem dX9_fill_60 : decode cX9_fill 60 = .ok (.getfield 16, 3) := by decide +kernel
theorem dX9_fill_63 : decode cX9_fill 63 = .ok (.iconst 1, 1) := by decide +kernel
theorem dX9_fill_64 : decode cX9_fill 64 = .ok (.iaload, 1) := by decide +kernel
theorem dX9_fill_65 : decode cX9_fill 65 = .ok (.if_icmp .ge 44, 3) := by decide +kernel
theorem dX9_fill_68 : decode cX9_fill 68 = .ok (.iload 4, 2) := by decide +kernel
theorem dX9_fill_70 : decode cX9_fill 70 = .ok (.aload_n 0, 1) := by decide +kernel
theorem dX9_fill_71 : decode cX9_fill 71 = .ok (.iload 5, 2) := by decide +kernel
theorem dX9_fill_73 : decode cX9_fill 73 = .ok (.invokevirtual 164, 3) := by decide +kernel
theorem dX9_fill_76 : decode cX9_fill 76 = .ok (.aload_n 0, 1) := by decide +kernel
theorem dX9_fill_77 : decode cX9_fill 77 = .ok (.getfield 16, 3) := by decide +kernel
theorem dX9_fill_80 : decode cX9_fill 80 = .ok (.iconst 2, 1) := by decide +kernel
theorem dX9_fill_81 : decode cX9_fill 81 = .ok (.aload_n 0, 1) := by decide +kernel
theorem dX9_fill_82 : decode cX9_fill 82 = .ok (.getfield 53, 3) := by decide +kernel
theorem dX9_fill_85 : decode cX9_fill 85 = .ok (.iload_n 3, 1) := by decide +kernel
theorem dX9_fill_86 : decode cX9_fill 86 = .ok (.iaload, 1) := by decide +kernel
theorem dX9_fill_87 : decode cX9_fill 87 = .ok (.iadd, 1) := by decide +kernel
theorem dX9_fill_88 : decode cX9_fill 88 = .ok (.iaload, 1) := by decide +kernel
theorem dX9_fill_89 : decode cX9_fill 89 = .ok (.if_icmp .ge 10, 3) := by decide +kernel
theorem dX9_fill_92 : decode cX9_fill 92 = .ok (.iconst 1, 1) := by decide +kernel
theorem dX9_fill_93 : decode cX9_fill 93 = .ok (.iload 5, 2) := by decide +kernel
theorem dX9_fill_95 : decode cX9_fill 95 = .ok (.ishl, 1) := by decide +kernel
theorem dX9_fill_96 : decode cX9_fill 96 = .ok (.goto 4, 3) := by decide +kernel
theorem dX9_fill_99 : decode cX9_fill 99 = .ok (.iconst 0, 1) := by decide +kernel
theorem dX9_fill_100 : decode cX9_fill 100 = .ok (.ior, 1) := by decide +kernel
theorem dX9_fill_101 : decode cX9_fill 101 = .ok (.istore 4, 2) := by decide +kernel
theorem dX9_fill_103 : decode cX9_fill 103 = .ok (.iinc 5 1, 3) := by decide +kernel
theorem dX9_fill_106 : decode cX9_fill 106 = .ok (.goto (-49), 3) := by decide +kernel
theorem dX9_fill_109 : decode cX9_fill 109 = .ok (.iconst 0, 1) := by decide +kernel
theorem dX9_fill_110 : decode cX9_fill 110 = .ok (.istore 5, 2) := by decide +kernel
theorem dX9_fill_112 : decode cX9_fill 112 = .ok (.iload 5, 2) := by decide +kernel
theorem dX9_fill_114 : decode cX9_fill 114 = .ok (.aload_n 0, 1) := by decide +kernel
theorem dX9_fill_115 : decode cX9_fill 115 = .ok (.getfield 16, 3) := by decide +kernel
theorem dX9_fill_118 : decode cX9_fill 118 = .ok (.iconst 1, 1) := by decide +kernel
theorem dX9_fill_119 : decode cX9_fill 119 = .ok (.iaload, 1) := by decide +kernel
theorem dX9_fill_120 : decode cX9_fill 120 = .ok (.if_icmp .ge 26, 3) := by decide +kernel
theorem dX9_fill_123 : decode cX9_fill 123 = .ok (.aload_n 0, 1) := by decide +kernel
theorem dX9_fill_124 : decode cX9_fill 124 = .ok (.getfield 56, 3) := by decide +kernel
theorem dX9_fill_127 : decode cX9_fill 127 = .ok (.iload 5, 2) := by decide +kernel
theorem dX9_fill_129 : decode cX9_fill 129 = .ok (.dup2, 1) := by decide +kernel
theorem dX9_fill_130 : decode cX9_fill 130 = .ok (.iaload, 1) := by decide +kernel
theorem dX9_fill_131 : decode cX9_fill 131 = .ok (.iload 4, 2) := by decide +kernel
theorem dX9_fill_133 : decode cX9_fill 133 = .ok (.iload 5, 2) := by decide +kernel
theorem dX9_fill_135 : decode cX9_fill 135 = .ok (.ishr, 1) := by decide +kernel
theorem dX9_fill_136 : decode cX9_fill 136 = .ok (.iconst 1, 1) := by decide +kernel
theorem dX9_fill_137 : decode cX9_fill 137 = .ok (.iand, 1) := by decide +kernel
theorem dX9_fill_138 : decode cX9_fill 138 = .ok (.isub, 1) := by decide +kernel
theorem dX9_fill_139 : decode cX9_fill 139 = .ok (.iastore, 1) := by decide +kernel
theorem dX9_fill_140 : decode cX9_fill 140 = .ok (.iinc 5 1, 3) := by decide +kernel
theorem dX9_fill_143 : decode cX9_fill 143 = .ok (.goto (-31), 3) := by decide +kernel
theorem dX9_fill_146 : decode cX9_fill 146 = .ok (.aload_n 0, 1) := by decide +kernel
theorem dX9_fill_147 : decode cX9_fill 147 = .ok (.getfield 53, 3) := by decide +kernel
theorem dX9_fill_150 : decode cX9_fill 150 = .ok (.iload_n 3, 1) := by decide +kernel
theorem dX9_fill_151 : decode cX9_fill 151 = .ok (.iaload, 1) := by decide +kernel
theorem dX9_fill_152 : decode cX9_fill 152 = .ok (.iload_n 1, 1) := by decide +kernel
theorem dX9_fill_153 : decode cX9_fill 153 = .ok (.if_icmp .ne 8, 3) := by decide +kernel
theorem dX9_fill_156 : decode cX9_fill 156 = .ok (.iload 4, 2) := by decide +kernel
theorem dX9_fill_158 : decode cX9_fill 158 = .ok (.goto 4, 3) := by decide +kernel
theorem dX9_fill_161 : decode cX9_fill 161 = .ok (.iload_n 2, 1) := by decide +kernel
theorem dX9_fill_162 : decode cX9_fill 162 = .ok (.istore_n 2, 1) := by decide +kernel
theorem dX9_fill_163 : decode cX9_fill 163 = .ok (.iinc 3 1, 3) := by decide +kernel
theorem dX9_fill_166 : decode cX9_fill 166 = .ok (.goto (-125), 3) := by decide +kernel
theorem dX9_fill_169 : decode cX9_fill 169 = .ok (.iload_n 2, 1) := by decide +kernel
theorem dX9_fill_170 : decode cX9_fill 170 = .ok (.ireturn, 1) := by decide +kernel
theorem dX9_filled_0 : decode cX9_filled 0 = .ok (.aload_n 0, 1) := by decide +kernel
theorem dX9_filled_1 : decode cX9_filled 1 = .ok (.iconst 0, 1) := by decide +kernel
theorem dX9_filled_2 : decode cX9_filled 2 = .ok (.putfield 65, 3) := by decide +kernel
theorem dX9_filled_5 : decode cX9_filled 5 = .ok (.aload_n 0, 1) := by decide +kernel
theorem dX9_filled_6 : decode cX9_filled 6 = .ok (.iload_n 1, 1) := by decide +kernel
theorem dX9_filled_7 : decode cX9_filled 7 = .ok (.invokevirtual 146, 3) := by decide +kernel
theorem dX9_filled_10 : decode cX9_filled 10 = .ok (.ifCond .eq 5, 3) := by decide +kernel
theorem dX9_filled_13 : decode cX9_filled 13 = .ok (.iconst (-1), 1) := by decide +kernel
theorem dX9_filled_14 : decode cX9_filled 14 = .ok (.ireturn, 1) := by decide +kernel
theorem dX9_filled_15 : decode cX9_filled 15 = .ok (.aload_n 0, 1) := by decide +kernel
theorem dX9_filled_16 : decode cX9_filled 16 = .ok (.getfield 16, 3) := by decide +kernel
theorem dX9_filled_19 : decode cX9_filled 19 = .ok (.invokestatic 158, 3) := by decide +kernel
theorem dX9_filled_22 : decode cX9_filled 22 = .ok (.bipush (-9), 2) := by decide +kernel
theorem dX9_filled_24 : decode cX9_filled 24 = .ok (.if_icmp .eq 6, 3) := by decide +kernel
theorem dX9_filled_27 : decode cX9_filled 27 = .ok (.bipush (-3), 2) := by decide +kernel
theorem dX9_filled_29 : decode cX9_filled 29 = .ok (.ireturn, 1) := by decide +kernel
theorem dX9_filled_30 : decode cX9_filled 30 = .ok (.aload_n 0, 1) := by decide +kernel
theorem dX9_filled_31 : decode cX9_filled 31 = .ok (.iload_n 1, 1) := by decide +kernel
theorem dX9_filled_32 : decode cX9_filled 32 = .ok (.aload_n 0, 1) := by decide +kernel
theorem dX9_filled_33 : decode cX9_filled 33 = .ok (.getfield 16, 3) := by decide +kernel
theorem dX9_filled_36 : decode cX9_filled 36 = .ok (.iconst 1, 1) := by decide +kernel
theorem dX9_filled_37 : decode cX9_filled 37 = .ok (.iaload, 1) := by decide +kernel
theorem dX9_filled_38 : decode cX9_filled 38 = .ok (.idiv, 1) := by decide +kernel
theorem dX9_filled_39 : decode cX9_filled 39 = .ok (.invokevirtual 167, 3) := by decide +kernel
theorem dX9_filled_42 : decode cX9_filled 42 = .ok (.iload_n 1, 1) := by decide +kernel
theorem dX9_filled_43 : decode cX9_filled 43 = .ok (.aload_n 0, 1) := by decide +kernel
theorem dX9_filled_44 : decode cX9_filled 44 = .ok (.getfield 16, 3) := by decide +kernel
theorem dX9_filled_47 : decode cX9_filled 47 = .ok (.iconst 1, 1) := by decide +kernel
theorem dX9_filled_48 : decode cX9_filled 48 = .ok (.iaload, 1) := by decide +kernel
theorem dX9_filled_49 : decode cX9_filled 49 = .ok (.irem, 1) := by decide +kernel
theorem dX9_filled_50 : decode cX9_filled 50 = .ok (.ishr, 1) := by decide +kernel
theorem dX9_filled_51 : decode cX9_filled 51 = .ok (.iconst 1, 1) := by decide +kernel
theorem dX9_filled_52 : decode cX9_filled 52 = .ok (.iand, 1) := by decide +kernel
theorem dX9_filled_53 : decode cX9_filled 53 = .ok (.ireturn, 1) := by decide +kernel
theorem dX9_mended_0 : decode cX9_mended 0 = .ok (.aload_n 0, 1) := by decide +kernel
theorem dX9_mended_1 : decode cX9_mended 1 = .ok (.iconst 0, 1) := by decide +kernel
theorem dX9_mended_2 : decode cX9_mended 2 = .ok (.putfield 65, 3) := by decide +kernel
theorem dX9_mended_5 : decode cX9_mended 5 = .ok (.iload_n 1, 1) := by decide +kernel
theorem dX9_mended_6 : decode cX9_mended 6 = .ok (.i2l, 1) := by decide +kernel
theorem dX9_mended_7 : decode cX9_mended 7 = .ok (.lconst 0, 1) := by decide +kernel
theorem dX9_mended_8 : decode cX9_mended 8 = .ok (.lconst 1, 1) := by decide +kernel
theorem dX9_mended_9 : decode cX9_mended 9 = .ok (.invokestatic 77, 3) := by decide +kernel
theorem dX9_mended_12 : decode cX9_mended 12 = .ok (.ifCond .ne 6, 3) := by decide +kernel
theorem dX9_mended_15 : decode cX9_mended 15 = .ok (.bipush (-2), 2) := by decide +kernel
theorem dX9_mended_17 : decode cX9_mended 17 = .ok (.ireturn, 1) := by decide +kernel
theorem dX9_mended_18 : decode cX9_mended 18 = .ok (.iconst 0, 1) := by decide +kernel
theorem dX9_mended_19 : decode cX9_mended 19 = .ok (.istore_n 2, 1) := by decide +kernel
theorem dX9_mended_20 : decode cX9_mended 20 = .ok (.bipush (-9), 2) := by decide +kernel
theorem dX9_mended_22 : decode cX9_mended 22 = .ok (.istore_n 3, 1) := by decide +kernel
theorem dX9_mended_23 : decode cX9_mended 23 = .ok (.aload_n 0, 1) := by decide +kernel
theorem dX9_mended_24 : decode cX9_mended 24 = .ok (.getfield 16, 3) := by decide +kernel
theorem dX9_mended_27 : decode cX9_mended 27 = .ok (.invokestatic 158, 3) := by decide +kernel
theorem dX9_mended_30 : decode cX9_mended 30 = .ok (.bipush (-9), 2) := by decide +kernel
theorem dX9_mended_32 : decode cX9_mended 32 = .ok (.if_icmp .eq 7, 3) := by decide +kernel
theorem dX9_mended_35 : decode cX9_mended 35 = .ok (.iconst 1, 1) := by decide +kernel
theorem dX9_mended_36 : decode cX9_mended 36 = .ok (.goto 4, 3) := by decide +kernel
theorem dX9_mended_39 : decode cX9_mended 39 = .ok (.iconst 0, 1) := by decide +kernel
theorem dX9_mended_40 : decode cX9_mended 40 = .ok (.istore 4, 2) := by decide +kernel
theorem dX9_mended_42 : decode cX9_mended 42 = .ok (.iconst 0, 1) := by decide +kernel
theorem dX9_mended_43 : decode cX9_mended 43 = .ok (.istore 5, 2) := by decide +kernel
theorem dX9_mended_45 : decode cX9_mended 45 = .ok (.iload 5, 2) := by decide +kernel
theorem dX9_mended_47 : decode cX9_mended 47 = .ok (.aload_n 0, 1) := by decide +kernel
theorem dX9_mended_48 : decode cX9_mended 48 = .ok (.getfield 16, 3) := by decide +kernel
theorem dX9_mended_51 : decode cX9_mended 51 = .ok (.iconst 0, 1) := by decide +kernel
theorem dX9_mended_52 : decode cX9_mended 52 = .ok (.iaload, 1) := by decide +kernel
theorem dX9_mended_53 : decode cX9_mended 53 = .ok (.aload_n 0, 1) := by decide +kernel
theorem dX9_mended_54 : decode cX9_mended 54 = .ok (.getfield 16, 3) := by decide +kernel
theorem dX9_mended_57 : decode cX9_mended 57 = .ok (.iconst 1, 1) := by decide +kernel
theorem dX9_mended_58 : decode cX9_mended 58 = .ok (.iaload, 1) := by decide +kernel
theorem dX9_mended_59 : decode cX9_mended 59 = .ok (.iadd, 1) := by decide +kernel
theorem dX9_mended_60 : decode cX9_mended 60 = .ok (.if_icmp .ge 161, 3) := by decide +kernel
theorem dX9_mended_63 : decode cX9_mended 63 = .ok (.iload 4, 2) := by decide +kernel
theorem dX9_mended_65 : decode cX9_mended 65 = .ok (.ifCond .eq 156, 3) := by decide +kernel
theorem dX9_mended_68 : decode cX9_mended 68 = .ok (.iload 5, 2) := by decide +kernel
theorem dX9_mended_70 : decode cX9_mended 70 = .ok (.aload_n 0, 1) := by decide +kernel
theorem dX9_mended_71 : decode cX9_mended 71 = .ok (.getfield 16, 3) := by decide +kernel
theorem dX9_mended_74 : decode cX9_mended 74 = .ok (.iconst 0, 1) := by decide +kernel
theorem dX9_mended_75 : decode cX9_mended 75 = .ok (.iaload, 1) := by decide +kernel
theorem dX9_mended_76 : decode cX9_mended 76 = .ok (.if_icmp .ge 7, 3) := by decide +kernel
theorem dX9_mended_79 : decode cX9_mended 79 = .ok (.iconst 0, 1) := by decide +kernel
theorem dX9_mended_80 : decode cX9_mended 80 = .ok (.goto 4, 3) := by decide +kernel
theorem dX9_mended_83 : decode cX9_mended 83 = .ok (.iconst 1, 1) := by decide +kernel
theorem dX9_mended_84 : decode cX9_mended 84 = .ok (.istore 6, 2) := by decide +kernel
theorem dX9_mended_86 : decode cX9_mended 86 = .ok (.iload 6, 2) := by decide +kernel
theorem dX9_mended_88 : decode cX9_mended 88 = .ok (.ifCond .ne 8, 3) := by decide +kernel
theorem dX9_mended_91 : decode cX9_mended 91 = .ok (.iload 5, 2) := by decide +kernel
theorem dX9_mended_93 : decode cX9_mended 93 = .ok (.goto 12, 3) := by decide +kernel
theorem dX9_mended_96 : decode cX9_mended 96 = .ok (.iload 5, 2) := by decide +kernel
theorem dX9_mended_98 : decode cX9_mended 98 = .ok (.aload_n 0, 1) := by decide +kernel
theorem dX9_mended_99 : decode cX9_mended 99 = .ok (.getfield 16, 3) := by decide +kernel
theorem dX9_mended_102 : decode cX9_mended 102 = .ok (.iconst 0, 1) := by decide +kernel
theorem dX9_mended_103 : decode cX9_mended 103 = .ok (.iaload, 1) := by decide +kernel
theorem dX9_mended_104 : decode cX9_mended 104 = .ok (.isub, 1) := by decide +kernel
theorem dX9_mended_105 : decode cX9_mended 105 = .ok (.istore 7, 2) := by decide +kernel
theorem dX9_mended_107 : decode cX9_mended 107 = .ok (.iconst 0, 1) := by decide +kernel
theorem dX9_mended_108 : decode cX9_mended 108 = .ok (.istore 8, 2) := by decide +kernel
theorem dX9_mended_110 : decode cX9_mended 110 = .ok (.iload 8, 2) := by decide +kernel
theorem dX9_mended_112 : decode cX9_mended 112 = .ok (.aload_n 0, 1) := by decide +kernel
theorem dX9_mended_113 : decode cX9_mended 113 = .ok (.getfield 16, 3) := by decide +kernel
theorem dX9_mended_116 : decode cX9_mended 116 = .ok (.iconst 1, 1) := by decide +kernel
theorem dX9_mended_117 : decode cX9_mended 117 = .ok (.iload 6, 2) := by decide +kernel
theorem dX9_mended_119 : decode cX9_mended 119 = .ok (.isub, 1) := by decide +kernel
theorem dX9_mended_120 : decode cX9_mended 120 = .ok (.iaload, 1) := by decide +kernel
theorem dX9_mended_121 : decode cX9_mended 121 = .ok (.if_icmp .gt 94, 3) := by decide +kernel
theorem dX9_mended_124 : decode cX9_mended 124 = .ok (.aload_n 0, 1) := by decide +kernel
theorem dX9_mended_125 : decode cX9_mended 125 = .ok (.getfield 19, 3) := by decide +kernel
theorem dX9_mended_128 : decode cX9_mended 128 = .ok (.aload_n 0, 1) := by decide +kernel
theorem dX9_mended_129 : decode cX9_mended 129 = .ok (.getfield 16, 3) := by decide +kernel
theorem dX9_mended_132 : decode cX9_mended 132 = .ok (.invokestatic 129, 3) := by decide +kernel
theorem dX9_mended_135 : decode cX9_mended 135 = .ok (.aload_n 0, 1) := by decide +kernel
theorem dX9_mended_136 : decode cX9_mended 136 = .ok (.getfield 19, 3) := by decide +kernel
theorem dX9_mended_139 : decode cX9_mended 139 = .ok (.iload 6, 2) := by decide +kernel
theorem dX9_mended_141 : decode cX9_mended 141 = .ok (.iload 7, 2) := by decide +kernel
theorem dX9_mended_143 : decode cX9_mended 143 = .ok (.invokestatic 143, 3) := by decide +kernel
theorem dX9_mended_146 : decode cX9_mended 146 = .ok (.iload 8, 2) := by decide +kernel
theorem dX9_mended_148 : decode cX9_mended 148 = .ok (.iastore, 1) := by decide +kernel
theorem dX9_mended_149 : decode cX9_mended 149 = .ok (.aload_n 0, 1) := by decide +kernel
theorem dX9_mended_150 : decode cX9_mended 150 = .ok (.getfield 19, 3) := by decide +kernel
theorem dX9_mended_153 : decode cX9_mended 153 = .ok (.invokestatic 158, 3) := by decide +kernel
theorem dX9_mended_156 : decode cX9_mended 156 = .ok (.bipush (-9), 2) := by decide +kernel
theorem dX9_mended_158 : decode cX9_mended 158 = .ok (.if_icmp .ne 7, 3) := by decide +kernel
theorem dX9_mended_161 : decode cX9_mended 161 = .ok (.iconst 1, 1) := by decide +kernel
theorem dX9_mended_162 : decode cX9_mended 162 = .ok (.goto 4, 3) := by decide +kernel
theorem dX9_mended_165 : decode cX9_mended 165 = .ok (.iconst 0, 1) := by decide +kernel
theorem dX9_mended_166 : decode cX9_mended 166 = .ok (.istore 9, 2) := by decide +kernel
theorem dX9_mended_168 : decode cX9_mended 168 = .ok (.iload 9, 2) := by decide +kernel
theorem dX9_mended_170 : decode cX9_mended 170 = .ok (.ifCond .eq 24, 3) := by decide +kernel
theorem dX9_mended_173 : decode cX9_mended 173 = .ok (.iload_n 2, 1) := by decide +kernel
theorem dX9_mended_174 : decode cX9_mended 174 = .ok (.ifCond .ne 20, 3) := by decide +kernel
theorem dX9_mended_177 : decode cX9_mended 177 = .ok (.bipush 100, 2) := by decide +kernel
theorem dX9_mended_179 : decode cX9_mended 179 = .ok (.iload 6, 2) := by decide +kernel
theorem dX9_mended_181 : decode cX9_mended 181 = .ok (.imul, 1) := by decide +kernel
theorem dX9_mended_182 : decode cX9_mended 182 = .ok (.bipush 10, 2) := by decide +kernel
theorem dX9_mended_184 : decode cX9_mended 184 = .ok (.iload 7, 2) := by decide +kernel
theorem dX9_mended_186 : decode cX9_mended 186 = .ok (.imul, 1) := by decide +kernel
theorem dX9_mended_187 : decode cX9_mended 187 = .ok (.iadd, 1) := by decide +kernel
theorem dX9_mended_188 : decode cX9_mended 188 = .ok (.iload 8, 2) := by decide +kernel
theorem dX9_mended_190 : decode cX9_mended 190 = .ok (.iadd, 1) := by decide +kernel
theorem dX9_mended_191 : decode cX9_mended 191 = .ok (.goto 4, 3) := by decide +kernel
theorem dX9_mended_194 : decode cX9_mended 194 = .ok (.iload_n 3, 1) := by decide +kernel
theorem dX9_mended_195 : decode cX9_mended 195 = .ok (.istore_n 3, 1) := by decide +kernel
theorem dX9_mended_196 : decode cX9_mended 196 = .ok (.iload_n 2, 1) := by decide +kernel
theorem dX9_mended_197 : decode cX9_mended 197 = .ok (.iload 9, 2) := by decide +kernel
theorem dX9_mended_199 : decode cX9_mended 199 = .ok (.ifCond .eq 7, 3) := by decide +kernel
theorem dX9_mended_202 : decode cX9_mended 202 = .ok (.iconst 1, 1) := by decide +kernel
theorem dX9_mended_203 : decode cX9_mended 203 = .ok (.goto 4, 3) := by decide +kernel
theorem dX9_mended_206 : decode cX9_mended 206 = .ok (.iconst 0, 1) := by decide +kernel
theorem dX9_mended_207 : decode cX9_mended 207 = .ok (.iadd, 1) := by decide +kernel
theorem dX9_mended_208 : decode cX9_mended 208 = .ok (.istore_n 2, 1) := by decide +kernel
theorem dX9_mended_209 : decode cX9_mended 209 = .ok (.iinc 8 1, 3) := by decide +kernel
theorem dX9_mended_212 : decode cX9_mended 212 = .ok (.goto (-102), 3) := by decide +kernel
theorem dX9_mended_215 : decode cX9_mended 215 = .ok (.iinc 5 1, 3) := by decide +kernel
theorem dX9_mended_218 : decode cX9_mended 218 = .ok (.goto (-173), 3) := by decide +kernel
theorem dX9_mended_221 : decode cX9_mended 221 = .ok (.iload_n 1, 1) := by decide +kernel
theorem dX9_mended_222 : decode cX9_mended 222 = .ok (.ifCond .ne 7, 3) := by decide +kernel
theorem dX9_mended_225 : decode cX9_mended 225 = .ok (.iload_n 2, 1) := by decide +kernel
theorem dX9_mended_226 : decode cX9_mended 226 = .ok (.goto 4, 3) := by decide +kernel
theorem dX9_mended_229 : decode cX9_mended 229 = .ok (.iload_n 3, 1) := by decide +kernel
theorem dX9_mended_230 : decode cX9_mended 230 = .ok (.ireturn, 1) := by decide +kernel
theorem dX9_answers_0 : decode cX9_answers 0 = .ok (.aload_n 0, 1) := by decide +kernel
theorem dX9_answers_1 : decode cX9_answers 1 = .ok (.iconst 0, 1) := by decide +kernel
theorem dX9_answers_2 : decode cX9_answers 2 = .ok (.putfield 65, 3) := by decide +kernel
theorem dX9_answers_5 : decode cX9_answers 5 = .ok (.aload_n 0, 1) := by decide +kernel
theorem dX9_answers_6 : decode cX9_answers 6 = .ok (.aload_n 0, 1) := by decide +kernel
theorem dX9_answers_7 : decode cX9_answers 7 = .ok (.getfield 16, 3) := by decide +kernel
theorem dX9_answers_10 : decode cX9_answers 10 = .ok (.iconst 1, 1) := by decide +kernel
theorem dX9_answers_11 : decode cX9_answers 11 = .ok (.invokevirtual 122, 3) := by decide +kernel
theorem dX9_answers_14 : decode cX9_answers 14 = .ok (.aload_n 0, 1) := by decide +kernel
theorem dX9_answers_15 : decode cX9_answers 15 = .ok (.getfield 112, 3) := by decide +kernel
theorem dX9_answers_18 : decode cX9_answers 18 = .ok (.ireturn, 1) := by decide +kernel
theorem dX9_yesIn_0 : decode cX9_yesIn 0 = .ok (.iconst 0, 1) := by decide +kernel
theorem dX9_yesIn_1 : decode cX9_yesIn 1 = .ok (.istore_n 3, 1) := by decide +kernel
theorem dX9_yesIn_2 : decode cX9_yesIn 2 = .ok (.iconst 0, 1) := by decide +kernel
theorem dX9_yesIn_3 : decode cX9_yesIn 3 = .ok (.istore 4, 2) := by decide +kernel
theorem dX9_yesIn_5 : decode cX9_yesIn 5 = .ok (.iload 4, 2) := by decide +kernel
theorem dX9_yesIn_7 : decode cX9_yesIn 7 = .ok (.aload_n 0, 1) := by decide +kernel
theorem dX9_yesIn_8 : decode cX9_yesIn 8 = .ok (.getfield 112, 3) := by decide +kernel
theorem dX9_yesIn_11 : decode cX9_yesIn 11 = .ok (.if_icmp .ge 32, 3) := by decide +kernel
theorem dX9_yesIn_14 : decode cX9_yesIn 14 = .ok (.iload_n 3, 1) := by decide +kernel
theorem dX9_yesIn_15 : decode cX9_yesIn 15 = .ok (.aload_n 1, 1) := by decide +kernel
theorem dX9_yesIn_16 : decode cX9_yesIn 16 = .ok (.aload_n 0, 1) := by decide +kernel
theorem dX9_yesIn_17 : decode cX9_yesIn 17 = .ok (.getfield 44, 3) := by decide +kernel
theorem dX9_yesIn_20 : decode cX9_yesIn 20 = .ok (.iload 4, 2) := by decide +kernel
theorem dX9_yesIn_22 : decode cX9_yesIn 22 = .ok (.iaload, 1) := by decide +kernel
theorem dX9_yesIn_23 : decode cX9_yesIn 23 = .ok (.iload_n 2, 1) := by decide +kernel
theorem dX9_yesIn_24 : decode cX9_yesIn 24 = .ok (.invokestatic 170, 3) := by decide +kernel
theorem dX9_yesIn_27 : decode cX9_yesIn 27 = .ok (.ifCond .eq 7, 3) := by decide +kernel
theorem dX9_yesIn_30 : decode cX9_yesIn 30 = .ok (.iconst 1, 1) := by decide +kernel
theorem dX9_yesIn_31 : decode cX9_yesIn 31 = .ok (.goto 4, 3) := by decide +kernel
theorem dX9_yesIn_34 : decode cX9_yesIn 34 = .ok (.iconst 0, 1) := by decide +kernel
theorem dX9_yesIn_35 : decode cX9_yesIn 35 = .ok (.iadd, 1) := by decide +kernel
theorem dX9_yesIn_36 : decode cX9_yesIn 36 = .ok (.istore_n 3, 1) := by decide +kernel
theorem dX9_yesIn_37 : decode cX9_yesIn 37 = .ok (.iinc 4 1, 3) := by decide +kernel
theorem dX9_yesIn_40 : decode cX9_yesIn 40 = .ok (.goto (-35), 3) := by decide +kernel
theorem dX9_yesIn_43 : decode cX9_yesIn 43 = .ok (.iload_n 3, 1) := by decide +kernel
theorem dX9_yesIn_44 : decode cX9_yesIn 44 = .ok (.ireturn, 1) := by decide +kernel
theorem dX9_sure_0 : decode cX9_sure 0 = .ok (.aload_n 0, 1) := by decide +kernel
theorem dX9_sure_1 : decode cX9_sure 1 = .ok (.aload_n 1, 1) := by decide +kernel
theorem dX9_sure_2 : decode cX9_sure 2 = .ok (.iload_n 2, 1) := by decide +kernel
theorem dX9_sure_3 : decode cX9_sure 3 = .ok (.invokevirtual 174, 3) := by decide +kernel
theorem dX9_sure_6 : decode cX9_sure 6 = .ok (.istore_n 3, 1) := by decide +kernel
theorem dX9_sure_7 : decode cX9_sure 7 = .ok (.aload_n 0, 1) := by decide +kernel
theorem dX9_sure_8 : decode cX9_sure 8 = .ok (.getfield 112, 3) := by decide +kernel
theorem dX9_sure_11 : decode cX9_sure 11 = .ok (.ifCond .ne 8, 3) := by decide +kernel
theorem dX9_sure_14 : decode cX9_sure 14 = .ok (.bipush (-9), 2) := by decide +kernel
theorem dX9_sure_16 : decode cX9_sure 16 = .ok (.goto 24, 3) := by decide +kernel
theorem dX9_sure_19 : decode cX9_sure 19 = .ok (.iload_n 3, 1) := by decide +kernel
theorem dX9_sure_20 : decode cX9_sure 20 = .ok (.ifCond .ne 7, 3) := by decide +kernel
theorem dX9_sure_23 : decode cX9_sure 23 = .ok (.iconst 0, 1) := by decide +kernel
theorem dX9_sure_24 : decode cX9_sure 24 = .ok (.goto 16, 3) := by decide +kernel
theorem dX9_sure_27 : decode cX9_sure 27 = .ok (.iload_n 3, 1) := by decide +kernel
theorem dX9_sure_28 : decode cX9_sure 28 = .ok (.aload_n 0, 1) := by decide +kernel
theorem dX9_sure_29 : decode cX9_sure 29 = .ok (.getfield 112, 3) := by decide +kernel
theorem dX9_sure_32 : decode cX9_sure 32 = .ok (.if_icmp .ne 7, 3) := by decide +kernel
theorem dX9_sure_35 : decode cX9_sure 35 = .ok (.iconst 1, 1) := by decide +kernel
theorem dX9_sure_36 : decode cX9_sure 36 = .ok (.goto 4, 3) := by decide +kernel
theorem dX9_sure_39 : decode cX9_sure 39 = .ok (.iconst 2, 1) := by decide +kernel
theorem dX9_sure_40 : decode cX9_sure 40 = .ok (.ireturn, 1) := by decide +kernel
theorem dX9_cell_0 : decode cX9_cell 0 = .ok (.aload_n 0, 1) := by decide +kernel
theorem dX9_cell_1 : decode cX9_cell 1 = .ok (.iconst 0, 1) := by decide +kernel
theorem dX9_cell_2 : decode cX9_cell 2 = .ok (.putfield 65, 3) := by decide +kernel
theorem dX9_cell_5 : decode cX9_cell 5 = .ok (.aload_n 0, 1) := by decide +kernel
theorem dX9_cell_6 : decode cX9_cell 6 = .ok (.iload_n 1, 1) := by decide +kernel
theorem dX9_cell_7 : decode cX9_cell 7 = .ok (.invokevirtual 146, 3) := by decide +kernel
theorem dX9_cell_10 : decode cX9_cell 10 = .ok (.ifCond .eq 5, 3) := by decide +kernel
theorem dX9_cell_13 : decode cX9_cell 13 = .ok (.iconst (-1), 1) := by decide +kernel
theorem dX9_cell_14 : decode cX9_cell 14 = .ok (.ireturn, 1) := by decide +kernel
theorem dX9_cell_15 : decode cX9_cell 15 = .ok (.iload_n 2, 1) := by decide +kernel
theorem dX9_cell_16 : decode cX9_cell 16 = .ok (.i2l, 1) := by decide +kernel
theorem dX9_cell_17 : decode cX9_cell 17 = .ok (.lconst 0, 1) := by decide +kernel
theorem dX9_cell_18 : decode cX9_cell 18 = .ok (.ldc2_w 177, 3) := by decide +kernel
theorem dX9_cell_21 : decode cX9_cell 21 = .ok (.invokestatic 77, 3) := by decide +kernel
theorem dX9_cell_24 : decode cX9_cell 24 = .ok (.ifCond .ne 6, 3) := by decide +kernel
theorem dX9_cell_27 : decode cX9_cell 27 = .ok (.bipush (-2), 2) := by decide +kernel
theorem dX9_cell_29 : decode cX9_cell 29 = .ok (.ireturn, 1) := by decide +kernel
theorem dX9_cell_30 : decode cX9_cell 30 = .ok (.iload_n 2, 1) := by decide +kernel
theorem dX9_cell_31 : decode cX9_cell 31 = .ok (.ifCond .ne 44, 3) := by decide +kernel
theorem dX9_cell_34 : decode cX9_cell 34 = .ok (.aload_n 0, 1) := by decide +kernel
theorem dX9_cell_35 : decode cX9_cell 35 = .ok (.getfield 16, 3) := by decide +kernel
theorem dX9_cell_38 : decode cX9_cell 38 = .ok (.bipush 31, 2) := by decide +kernel
theorem dX9_cell_40 : decode cX9_cell 40 = .ok (.iaload, 1) := by decide +kernel
theorem dX9_cell_41 : decode cX9_cell 41 = .ok (.bipush (-9), 2) := by decide +kernel
theorem dX9_cell_43 : decode cX9_cell 43 = .ok (.if_icmp .ne 8, 3) := by decide +kernel
theorem dX9_cell_46 : decode cX9_cell 46 = .ok (.bipush (-9), 2) := by decide +kernel
theorem dX9_cell_48 : decode cX9_cell 48 = .ok (.goto 26, 3) := by decide +kernel
theorem dX9_cell_51 : decode cX9_cell 51 = .ok (.aload_n 0, 1) := by decide +kernel
theorem dX9_cell_52 : decode cX9_cell 52 = .ok (.getfield 16, 3) := by decide +kernel
theorem dX9_cell_55 : decode cX9_cell 55 = .ok (.aload_n 0, 1) := by decide +kernel
theorem dX9_cell_56 : decode cX9_cell 56 = .ok (.getfield 16, 3) := by decide +kernel
theorem dX9_cell_59 : decode cX9_cell 59 = .ok (.bipush 31, 2) := by decide +kernel
theorem dX9_cell_61 : decode cX9_cell 61 = .ok (.iaload, 1) := by decide +kernel
theorem dX9_cell_62 : decode cX9_cell 62 = .ok (.iload_n 1, 1) := by decide +kernel
theorem dX9_cell_63 : decode cX9_cell 63 = .ok (.invokestatic 170, 3) := by decide +kernel
theorem dX9_cell_66 : decode cX9_cell 66 = .ok (.ifCond .eq 7, 3) := by decide +kernel
theorem dX9_cell_69 : decode cX9_cell 69 = .ok (.iconst 1, 1) := by decide +kernel
theorem dX9_cell_70 : decode cX9_cell 70 = .ok (.goto 4, 3) := by decide +kernel
theorem dX9_cell_73 : decode cX9_cell 73 = .ok (.iconst 0, 1) := by decide +kernel
theorem dX9_cell_74 : decode cX9_cell 74 = .ok (.ireturn, 1) := by decide +kernel
theorem dX9_cell_75 : decode cX9_cell 75 = .ok (.aload_n 0, 1) := by decide +kernel
theorem dX9_cell_76 : decode cX9_cell 76 = .ok (.aload_n 0, 1) := by decide +kernel
theorem dX9_cell_77 : decode cX9_cell 77 = .ok (.getfield 16, 3) := by decide +kernel
theorem dX9_cell_80 : decode cX9_cell 80 = .ok (.iconst 1, 1) := by decide +kernel
theorem dX9_cell_81 : decode cX9_cell 81 = .ok (.invokevirtual 122, 3) := by decide +kernel
theorem dX9_cell_84 : decode cX9_cell 84 = .ok (.iload_n 2, 1) := by decide +kernel
theorem dX9_cell_85 : decode cX9_cell 85 = .ok (.iconst 1, 1) := by decide +kernel
theorem dX9_cell_86 : decode cX9_cell 86 = .ok (.if_icmp .ne 15, 3) := by decide +kernel
theorem dX9_cell_89 : decode cX9_cell 89 = .ok (.aload_n 0, 1) := by decide +kernel
theorem dX9_cell_90 : decode cX9_cell 90 = .ok (.aload_n 0, 1) := by decide +kernel
theorem dX9_cell_91 : decode cX9_cell 91 = .ok (.getfield 16, 3) := by decide +kernel
theorem dX9_cell_94 : decode cX9_cell 94 = .ok (.iload_n 1, 1) := by decide +kernel
theorem dX9_cell_95 : decode cX9_cell 95 = .ok (.invokevirtual 179, 3) := by decide +kernel
theorem dX9_cell_98 : decode cX9_cell 98 = .ok (.goto 12, 3) := by decide +kernel
theorem dX9_cell_101 : decode cX9_cell 101 = .ok (.aload_n 0, 1) := by decide +kernel
theorem dX9_cell_102 : decode cX9_cell 102 = .ok (.aload_n 0, 1) := by decide +kernel
theorem dX9_cell_103 : decode cX9_cell 103 = .ok (.getfield 16, 3) := by decide +kernel
theorem dX9_cell_106 : decode cX9_cell 106 = .ok (.iload_n 1, 1) := by decide +kernel
theorem dX9_cell_107 : decode cX9_cell 107 = .ok (.invokevirtual 174, 3) := by decide +kernel
theorem dX9_cell_110 : decode cX9_cell 110 = .ok (.ireturn, 1) := by decide +kernel
theorem dX9_divisor_0 : decode cX9_divisor 0 = .ok (.iload_n 0, 1) := by decide +kernel
theorem dX9_divisor_1 : decode cX9_divisor 1 = .ok (.istore_n 2, 1) := by decide +kernel
theorem dX9_divisor_2 : decode cX9_divisor 2 = .ok (.iload_n 1, 1) := by decide +kernel
theorem dX9_divisor_3 : decode cX9_divisor 3 = .ok (.istore_n 3, 1) := by decide +kernel
theorem dX9_divisor_4 : decode cX9_divisor 4 = .ok (.iload_n 3, 1) := by decide +kernel
theorem dX9_divisor_5 : decode cX9_divisor 5 = .ok (.ifCond .eq 16, 3) := by decide +kernel
theorem dX9_divisor_8 : decode cX9_divisor 8 = .ok (.iload_n 2, 1) := by decide +kernel
theorem dX9_divisor_9 : decode cX9_divisor 9 = .ok (.iload_n 3, 1) := by decide +kernel
theorem dX9_divisor_10 : decode cX9_divisor 10 = .ok (.irem, 1) := by decide +kernel
theorem dX9_divisor_11 : decode cX9_divisor 11 = .ok (.istore 4, 2) := by decide +kernel
theorem dX9_divisor_13 : decode cX9_divisor 13 = .ok (.iload_n 3, 1) := by decide +kernel
theorem dX9_divisor_14 : decode cX9_divisor 14 = .ok (.istore_n 2, 1) := by decide +kernel
theorem dX9_divisor_15 : decode cX9_divisor 15 = .ok (.iload 4, 2) := by decide +kernel
theorem dX9_divisor_17 : decode cX9_divisor 17 = .ok (.istore_n 3, 1) := by decide +kernel
theorem dX9_divisor_18 : decode cX9_divisor 18 = .ok (.goto (-14), 3) := by decide +kernel
theorem dX9_divisor_21 : decode cX9_divisor 21 = .ok (.iload_n 2, 1) := by decide +kernel
theorem dX9_divisor_22 : decode cX9_divisor 22 = .ok (.ireturn, 1) := by decide +kernel
theorem dX9_fraction_0 : decode cX9_fraction 0 = .ok (.iload_n 0, 1) := by decide +kernel
theorem dX9_fraction_1 : decode cX9_fraction 1 = .ok (.iload_n 1, 1) := by decide +kernel
theorem dX9_fraction_2 : decode cX9_fraction 2 = .ok (.invokestatic 182, 3) := by decide +kernel
theorem dX9_fraction_5 : decode cX9_fraction 5 = .ok (.istore_n 3, 1) := by decide +kernel
theorem dX9_fraction_6 : decode cX9_fraction 6 = .ok (.iload_n 2, 1) := by decide +kernel
theorem dX9_fraction_7 : decode cX9_fraction 7 = .ok (.ifCond .eq 9, 3) := by decide +kernel
theorem dX9_fraction_10 : decode cX9_fraction 10 = .ok (.iload_n 0, 1) := by decide +kernel
theorem dX9_fraction_11 : decode cX9_fraction 11 = .ok (.iload_n 3, 1) := by decide +kernel
theorem dX9_fraction_12 : decode cX9_fraction 12 = .ok (.idiv, 1) := by decide +kernel
theorem dX9_fraction_13 : decode cX9_fraction 13 = .ok (.goto 6, 3) := by decide +kernel
theorem dX9_fraction_16 : decode cX9_fraction 16 = .ok (.iload_n 1, 1) := by decide +kernel
theorem dX9_fraction_17 : decode cX9_fraction 17 = .ok (.iload_n 3, 1) := by decide +kernel
theorem dX9_fraction_18 : decode cX9_fraction 18 = .ok (.idiv, 1) := by decide +kernel
theorem dX9_fraction_19 : decode cX9_fraction 19 = .ok (.ireturn, 1) := by decide +kernel
theorem dX9_odds_0 : decode cX9_odds 0 = .ok (.aload_n 0, 1) := by decide +kernel
theorem dX9_odds_1 : decode cX9_odds 1 = .ok (.iconst 0, 1) := by decide +kernel
theorem dX9_odds_2 : decode cX9_odds 2 = .ok (.putfield 65, 3) := by decide +kernel
theorem dX9_odds_5 : decode cX9_odds 5 = .ok (.aload_n 0, 1) := by decide +kernel
theorem dX9_odds_6 : decode cX9_odds 6 = .ok (.iload_n 1, 1) := by decide +kernel
theorem dX9_odds_7 : decode cX9_odds 7 = .ok (.invokevirtual 146, 3) := by decide +kernel
theorem dX9_odds_10 : decode cX9_odds 10 = .ok (.ifCond .eq 5, 3) := by decide +kernel
theorem dX9_odds_13 : decode cX9_odds 13 = .ok (.iconst (-1), 1) := by decide +kernel
theorem dX9_odds_14 : decode cX9_odds 14 = .ok (.ireturn, 1) := by decide +kernel
theorem dX9_odds_15 : decode cX9_odds 15 = .ok (.aload_n 0, 1) := by decide +kernel
theorem dX9_odds_16 : decode cX9_odds 16 = .ok (.aload_n 0, 1) := by decide +kernel
theorem dX9_odds_17 : decode cX9_odds 17 = .ok (.getfield 16, 3) := by decide +kernel
theorem dX9_odds_20 : decode cX9_odds 20 = .ok (.iconst 1, 1) := by decide +kernel
theorem dX9_odds_21 : decode cX9_odds 21 = .ok (.invokevirtual 122, 3) := by decide +kernel
theorem dX9_odds_24 : decode cX9_odds 24 = .ok (.aload_n 0, 1) := by decide +kernel
theorem dX9_odds_25 : decode cX9_odds 25 = .ok (.getfield 112, 3) := by decide +kernel
theorem dX9_odds_28 : decode cX9_odds 28 = .ok (.ifCond .ne 8, 3) := by decide +kernel
theorem dX9_odds_31 : decode cX9_odds 31 = .ok (.bipush (-3), 2) := by decide +kernel
theorem dX9_odds_33 : decode cX9_odds 33 = .ok (.goto 20, 3) := by decide +kernel
theorem dX9_odds_36 : decode cX9_odds 36 = .ok (.aload_n 0, 1) := by decide +kernel
theorem dX9_odds_37 : decode cX9_odds 37 = .ok (.aload_n 0, 1) := by decide +kernel
theorem dX9_odds_38 : decode cX9_odds 38 = .ok (.getfield 16, 3) := by decide +kernel
theorem dX9_odds_41 : decode cX9_odds 41 = .ok (.iload_n 1, 1) := by decide +kernel
theorem dX9_odds_42 : decode cX9_odds 42 = .ok (.invokevirtual 174, 3) := by decide +kernel
theorem dX9_odds_45 : decode cX9_odds 45 = .ok (.aload_n 0, 1) := by decide +kernel
theorem dX9_odds_46 : decode cX9_odds 46 = .ok (.getfield 112, 3) := by decide +kernel
theorem dX9_odds_49 : decode cX9_odds 49 = .ok (.iload_n 2, 1) := by decide +kernel
theorem dX9_odds_50 : decode cX9_odds 50 = .ok (.invokestatic 185, 3) := by decide +kernel
theorem dX9_odds_53 : decode cX9_odds 53 = .ok (.ireturn, 1) := by decide +kernel
theorem dX9_ask_0 : decode cX9_ask 0 = .ok (.aload_n 0, 1) := by decide +kernel
theorem dX9_ask_1 : decode cX9_ask 1 = .ok (.iconst 0, 1) := by decide +kernel
theorem dX9_ask_2 : decode cX9_ask 2 = .ok (.putfield 65, 3) := by decide +kernel
theorem dX9_ask_5 : decode cX9_ask 5 = .ok (.iload_n 1, 1) := by decide +kernel
theorem dX9_ask_6 : decode cX9_ask 6 = .ok (.i2l, 1) := by decide +kernel
theorem dX9_ask_7 : decode cX9_ask 7 = .ok (.lconst 0, 1) := by decide +kernel
theorem dX9_ask_8 : decode cX9_ask 8 = .ok (.lconst 1, 1) := by decide +kernel
theorem dX9_ask_9 : decode cX9_ask 9 = .ok (.invokestatic 77, 3) := by decide +kernel
theorem dX9_ask_12 : decode cX9_ask 12 = .ok (.ifCond .ne 6, 3) := by decide +kernel
theorem dX9_ask_15 : decode cX9_ask 15 = .ok (.bipush (-2), 2) := by decide +kernel
theorem dX9_ask_17 : decode cX9_ask 17 = .ok (.ireturn, 1) := by decide +kernel
theorem dX9_ask_18 : decode cX9_ask 18 = .ok (.aload_n 0, 1) := by decide +kernel
theorem dX9_ask_19 : decode cX9_ask 19 = .ok (.aload_n 0, 1) := by decide +kernel
theorem dX9_ask_20 : decode cX9_ask 20 = .ok (.getfield 16, 3) := by decide +kernel
theorem dX9_ask_23 : decode cX9_ask 23 = .ok (.iconst 1, 1) := by decide +kernel
theorem dX9_ask_24 : decode cX9_ask 24 = .ok (.invokevirtual 122, 3) := by decide +kernel
theorem dX9_ask_27 : decode cX9_ask 27 = .ok (.bipush (-9), 2) := by decide +kernel
theorem dX9_ask_29 : decode cX9_ask 29 = .ok (.istore_n 2, 1) := by decide +kernel
theorem dX9_ask_30 : decode cX9_ask 30 = .ok (.bipush (-9), 2) := by decide +kernel
theorem dX9_ask_32 : decode cX9_ask 32 = .ok (.istore_n 3, 1) := by decide +kernel
theorem dX9_ask_33 : decode cX9_ask 33 = .ok (.iconst 0, 1) := by decide +kernel
theorem dX9_ask_34 : decode cX9_ask 34 = .ok (.istore 4, 2) := by decide +kernel
theorem dX9_ask_36 : decode cX9_ask 36 = .ok (.iload 4, 2) := by decide +kernel
theorem dX9_ask_38 : decode cX9_ask 38 = .ok (.aload_n 0, 1) := by decide +kernel
theorem dX9_ask_39 : decode cX9_ask 39 = .ok (.getfield 16, 3) := by decide +kernel
theorem dX9_ask_42 : decode cX9_ask 42 = .ok (.invokestatic 69, 3) := by decide +kernel
theorem dX9_ask_45 : decode cX9_ask 45 = .ok (.if_icmp .ge 79, 3) := by decide +kernel
theorem dX9_ask_48 : decode cX9_ask 48 = .ok (.aload_n 0, 1) := by decide +kernel
theorem dX9_ask_49 : decode cX9_ask 49 = .ok (.aload_n 0, 1) := by decide +kernel
theorem dX9_ask_50 : decode cX9_ask 50 = .ok (.getfield 16, 3) := by decide +kernel
theorem dX9_ask_53 : decode cX9_ask 53 = .ok (.iload 4, 2) := by decide +kernel
theorem dX9_ask_55 : decode cX9_ask 55 = .ok (.invokevirtual 174, 3) := by decide +kernel
theorem dX9_ask_58 : decode cX9_ask 58 = .ok (.istore 5, 2) := by decide +kernel
theorem dX9_ask_60 : decode cX9_ask 60 = .ok (.iload 5, 2) := by decide +kernel
theorem dX9_ask_62 : decode cX9_ask 62 = .ok (.aload_n 0, 1) := by decide +kernel
theorem dX9_ask_63 : decode cX9_ask 63 = .ok (.getfield 112, 3) := by decide +kernel
theorem dX9_ask_66 : decode cX9_ask 66 = .ok (.iload 5, 2) := by decide +kernel
theorem dX9_ask_68 : decode cX9_ask 68 = .ok (.isub, 1) := by decide +kernel
theorem dX9_ask_69 : decode cX9_ask 69 = .ok (.if_icmp .le 8, 3) := by decide +kernel
theorem dX9_ask_72 : decode cX9_ask 72 = .ok (.iload 5, 2) := by decide +kernel
theorem dX9_ask_74 : decode cX9_ask 74 = .ok (.goto 10, 3) := by decide +kernel
theorem dX9_ask_77 : decode cX9_ask 77 = .ok (.aload_n 0, 1) := by decide +kernel
theorem dX9_ask_78 : decode cX9_ask 78 = .ok (.getfield 112, 3) := by decide +kernel
theorem dX9_ask_81 : decode cX9_ask 81 = .ok (.iload 5, 2) := by decide +kernel
theorem dX9_ask_83 : decode cX9_ask 83 = .ok (.isub, 1) := by decide +kernel
theorem dX9_ask_84 : decode cX9_ask 84 = .ok (.istore 6, 2) := by decide +kernel
theorem dX9_ask_86 : decode cX9_ask 86 = .ok (.aload_n 0, 1) := by decide +kernel
theorem dX9_ask_87 : decode cX9_ask 87 = .ok (.aload_n 0, 1) := by decide +kernel
theorem dX9_ask_88 : decode cX9_ask 88 = .ok (.getfield 16, 3) := by decide +kernel
theorem dX9_ask_91 : decode cX9_ask 91 = .ok (.iload 4, 2) := by decide +kernel
theorem dX9_ask_93 : decode cX9_ask 93 = .ok (.invokevirtual 179, 3) := by decide +kernel
theorem dX9_ask_96 : decode cX9_ask 96 = .ok (.iconst 2, 1) := by decide +kernel
theorem dX9_ask_97 : decode cX9_ask 97 = .ok (.if_icmp .ne 21, 3) := by decide +kernel
theorem dX9_ask_100 : decode cX9_ask 100 = .ok (.iload_n 2, 1) := by decide +kernel
theorem dX9_ask_101 : decode cX9_ask 101 = .ok (.bipush (-9), 2) := by decide +kernel
theorem dX9_ask_103 : decode cX9_ask 103 = .ok (.if_icmp .eq 9, 3) := by decide +kernel
theorem dX9_ask_106 : decode cX9_ask 106 = .ok (.iload 6, 2) := by decide +kernel
theorem dX9_ask_108 : decode cX9_ask 108 = .ok (.iload_n 3, 1) := by decide +kernel
theorem dX9_ask_109 : decode cX9_ask 109 = .ok (.if_icmp .ge 9, 3) := by decide +kernel
theorem dX9_ask_112 : decode cX9_ask 112 = .ok (.iload 4, 2) := by decide +kernel
theorem dX9_ask_114 : decode cX9_ask 114 = .ok (.istore_n 2, 1) := by decide +kernel
theorem dX9_ask_115 : decode cX9_ask 115 = .ok (.iload 6, 2) := by decide +kernel
theorem dX9_ask_117 : decode cX9_ask 117 = .ok (.istore_n 3, 1) := by decide +kernel
theorem dX9_ask_118 : decode cX9_ask 118 = .ok (.iinc 4 1, 3) := by decide +kernel
theorem dX9_ask_121 : decode cX9_ask 121 = .ok (.goto (-85), 3) := by decide +kernel
theorem dX9_ask_124 : decode cX9_ask 124 = .ok (.iload_n 1, 1) := by decide +kernel
theorem dX9_ask_125 : decode cX9_ask 125 = .ok (.ifCond .ne 7, 3) := by decide +kernel
theorem dX9_ask_128 : decode cX9_ask 128 = .ok (.iload_n 2, 1) := by decide +kernel
theorem dX9_ask_129 : decode cX9_ask 129 = .ok (.goto 4, 3) := by decide +kernel
theorem dX9_ask_132 : decode cX9_ask 132 = .ok (.iload_n 3, 1) := by decide +kernel
theorem dX9_ask_133 : decode cX9_ask 133 = .ok (.ireturn, 1) := by decide +kernel
theorem dX9_plane_0 : decode cX9_plane 0 = .ok (.aload_n 0, 1) := by decide +kernel
theorem dX9_plane_1 : decode cX9_plane 1 = .ok (.iconst 0, 1) := by decide +kernel
theorem dX9_plane_2 : decode cX9_plane 2 = .ok (.putfield 65, 3) := by decide +kernel
theorem dX9_plane_5 : decode cX9_plane 5 = .ok (.aload_n 0, 1) := by decide +kernel
theorem dX9_plane_6 : decode cX9_plane 6 = .ok (.aload_n 0, 1) := by decide +kernel
theorem dX9_plane_7 : decode cX9_plane 7 = .ok (.getfield 16, 3) := by decide +kernel
theorem dX9_plane_10 : decode cX9_plane 10 = .ok (.iconst 1, 1) := by decide +kernel
theorem dX9_plane_11 : decode cX9_plane 11 = .ok (.invokevirtual 122, 3) := by decide +kernel
theorem dX9_plane_14 : decode cX9_plane 14 = .ok (.aload_n 0, 1) := by decide +kernel
theorem dX9_plane_15 : decode cX9_plane 15 = .ok (.getfield 16, 3) := by decide +kernel
theorem dX9_plane_18 : decode cX9_plane 18 = .ok (.bipush 31, 2) := by decide +kernel
theorem dX9_plane_20 : decode cX9_plane 20 = .ok (.iaload, 1) := by decide +kernel
theorem dX9_plane_21 : decode cX9_plane 21 = .ok (.bipush (-9), 2) := by decide +kernel
theorem dX9_plane_23 : decode cX9_plane 23 = .ok (.if_icmp .ne 8, 3) := by decide +kernel
theorem dX9_plane_26 : decode cX9_plane 26 = .ok (.bipush (-9), 2) := by decide +kernel
theorem dX9_plane_28 : decode cX9_plane 28 = .ok (.goto 14, 3) := by decide +kernel
theorem dX9_plane_31 : decode cX9_plane 31 = .ok (.aload_n 0, 1) := by decide +kernel
theorem dX9_plane_32 : decode cX9_plane 32 = .ok (.aload_n 0, 1) := by decide +kernel
theorem dX9_plane_33 : decode cX9_plane 33 = .ok (.getfield 16, 3) := by decide +kernel
theorem dX9_plane_36 : decode cX9_plane 36 = .ok (.bipush 31, 2) := by decide +kernel
theorem dX9_plane_38 : decode cX9_plane 38 = .ok (.iaload, 1) := by decide +kernel
theorem dX9_plane_39 : decode cX9_plane 39 = .ok (.invokevirtual 126, 3) := by decide +kernel
theorem dX9_plane_42 : decode cX9_plane 42 = .ok (.ireturn, 1) := by decide +kernel
theorem dX9_note_0 : decode cX9_note 0 = .ok (.aload_n 0, 1) := by decide +kernel
theorem dX9_note_1 : decode cX9_note 1 = .ok (.getfield 137, 3) := by decide +kernel
theorem dX9_note_4 : decode cX9_note 4 = .ok (.bipush 14, 2) := by decide +kernel
theorem dX9_note_6 : decode cX9_note 6 = .ok (.if_icmp .ne 43, 3) := by decide +kernel
theorem dX9_note_9 : decode cX9_note 9 = .ok (.iconst 0, 1) := by decide +kernel
theorem dX9_note_10 : decode cX9_note 10 = .ok (.istore_n 1, 1) := by decide +kernel
theorem dX9_note_11 : decode cX9_note 11 = .ok (.iload_n 1, 1) := by decide +kernel
theorem dX9_note_12 : decode cX9_note 12 = .ok (.sipush 416, 3) := by decide +kernel
theorem dX9_note_15 : decode cX9_note 15 = .ok (.if_icmp .ge 24, 3) := by decide +kernel
theorem dX9_note_18 : decode cX9_note 18 = .ok (.aload_n 0, 1) := by decide +kernel
theorem dX9_note_19 : decode cX9_note 19 = .ok (.getfield 22, 3) := by decide +kernel
theorem dX9_note_22 : decode cX9_note 22 = .ok (.iload_n 1, 1) := by decide +kernel
theorem dX9_note_23 : decode cX9_note 23 = .ok (.aload_n 0, 1) := by decide +kernel
theorem dX9_note_24 : decode cX9_note 24 = .ok (.getfield 22, 3) := by decide +kernel
theorem dX9_note_27 : decode cX9_note 27 = .ok (.iload_n 1, 1) := by decide +kernel
theorem dX9_note_28 : decode cX9_note 28 = .ok (.bipush 32, 2) := by decide +kernel
theorem dX9_note_30 : decode cX9_note 30 = .ok (.iadd, 1) := by decide +kernel
theorem dX9_note_31 : decode cX9_note 31 = .ok (.iaload, 1) := by decide +kernel
theorem dX9_note_32 : decode cX9_note 32 = .ok (.iastore, 1) := by decide +kernel
theorem dX9_note_33 : decode cX9_note 33 = .ok (.iinc 1 1, 3) := by decide +kernel
theorem dX9_note_36 : decode cX9_note 36 = .ok (.goto (-25), 3) := by decide +kernel
theorem dX9_note_39 : decode cX9_note 39 = .ok (.aload_n 0, 1) := by decide +kernel
theorem dX9_note_40 : decode cX9_note 40 = .ok (.dup, 1) := by decide +kernel
theorem dX9_note_41 : decode cX9_note 41 = .ok (.getfield 137, 3) := by decide +kernel
theorem dX9_note_44 : decode cX9_note 44 = .ok (.iconst 1, 1) := by decide +kernel
theorem dX9_note_45 : decode cX9_note 45 = .ok (.isub, 1) := by decide +kernel
theorem dX9_note_46 : decode cX9_note 46 = .ok (.putfield 137, 3) := by decide +kernel
theorem dX9_note_49 : decode cX9_note 49 = .ok (.iconst 0, 1) := by decide +kernel
theorem dX9_note_50 : decode cX9_note 50 = .ok (.istore_n 1, 1) := by decide +kernel
theorem dX9_note_51 : decode cX9_note 51 = .ok (.iload_n 1, 1) := by decide +kernel
theorem dX9_note_52 : decode cX9_note 52 = .ok (.bipush 32, 2) := by decide +kernel
theorem dX9_note_54 : decode cX9_note 54 = .ok (.if_icmp .ge 29, 3) := by decide +kernel
theorem dX9_note_57 : decode cX9_note 57 = .ok (.aload_n 0, 1) := by decide +kernel
theorem dX9_note_58 : decode cX9_note 58 = .ok (.getfield 22, 3) := by decide +kernel
theorem dX9_note_61 : decode cX9_note 61 = .ok (.bipush 32, 2) := by decide +kernel
theorem dX9_note_63 : decode cX9_note 63 = .ok (.aload_n 0, 1) := by decide +kernel
theorem dX9_note_64 : decode cX9_note 64 = .ok (.getfield 137, 3) := by decide +kernel
theorem dX9_note_67 : decode cX9_note 67 = .ok (.imul, 1) := by decide +kernel
theorem dX9_note_68 : decode cX9_note 68 = .ok (.iload_n 1, 1) := by decide +kernel
theorem dX9_note_69 : decode cX9_note 69 = .ok (.iadd, 1) := by decide +kernel
theorem dX9_note_70 : decode cX9_note 70 = .ok (.aload_n 0, 1) := by decide +kernel
theorem dX9_note_71 : decode cX9_note 71 = .ok (.getfield 16, 3) := by decide +kernel
theorem dX9_note_74 : decode cX9_note 74 = .ok (.iload_n 1, 1) := by decide +kernel
theorem dX9_note_75 : decode cX9_note 75 = .ok (.iaload, 1) := by decide +kernel
theorem dX9_note_76 : decode cX9_note 76 = .ok (.iastore, 1) := by decide +kernel
theorem dX9_note_77 : decode cX9_note 77 = .ok (.iinc 1 1, 3) := by decide +kernel
theorem dX9_note_80 : decode cX9_note 80 = .ok (.goto (-29), 3) := by decide +kernel
theorem dX9_note_83 : decode cX9_note 83 = .ok (.aload_n 0, 1) := by decide +kernel
theorem dX9_note_84 : decode cX9_note 84 = .ok (.dup, 1) := by decide +kernel
theorem dX9_note_85 : decode cX9_note 85 = .ok (.getfield 137, 3) := by decide +kernel
theorem dX9_note_88 : decode cX9_note 88 = .ok (.iconst 1, 1) := by decide +kernel
theorem dX9_note_89 : decode cX9_note 89 = .ok (.iadd, 1) := by decide +kernel
theorem dX9_note_90 : decode cX9_note 90 = .ok (.putfield 137, 3) := by decide +kernel
theorem dX9_note_93 : decode cX9_note 93 = .ok (.return_, 1) := by decide +kernel
theorem dX9_go_0 : decode cX9_go 0 = .ok (.aload_n 0, 1) := by decide +kernel
theorem dX9_go_1 : decode cX9_go 1 = .ok (.iconst 0, 1) := by decide +kernel
theorem dX9_go_2 : decode cX9_go 2 = .ok (.putfield 65, 3) := by decide +kernel
theorem dX9_go_5 : decode cX9_go 5 = .ok (.aload_n 0, 1) := by decide +kernel
theorem dX9_go_6 : decode cX9_go 6 = .ok (.aload_n 0, 1) := by decide +kernel
theorem dX9_go_7 : decode cX9_go 7 = .ok (.getfield 16, 3) := by decide +kernel
theorem dX9_go_10 : decode cX9_go 10 = .ok (.iconst 1, 1) := by decide +kernel
theorem dX9_go_11 : decode cX9_go 11 = .ok (.invokevirtual 122, 3) := by decide +kernel
theorem dX9_go_14 : decode cX9_go 14 = .ok (.iload_n 1, 1) := by decide +kernel
theorem dX9_go_15 : decode cX9_go 15 = .ok (.i2l, 1) := by decide +kernel
theorem dX9_go_16 : decode cX9_go 16 = .ok (.lconst 0, 1) := by decide +kernel
theorem dX9_go_17 : decode cX9_go 17 = .ok (.aload_n 0, 1) := by decide +kernel
theorem dX9_go_18 : decode cX9_go 18 = .ok (.getfield 112, 3) := by decide +kernel
theorem dX9_go_21 : decode cX9_go 21 = .ok (.iconst 1, 1) := by decide +kernel
theorem dX9_go_22 : decode cX9_go 22 = .ok (.isub, 1) := by decide +kernel
theorem dX9_go_23 : decode cX9_go 23 = .ok (.i2l, 1) := by decide +kernel
theorem dX9_go_24 : decode cX9_go 24 = .ok (.invokestatic 77, 3) := by decide +kernel
theorem dX9_go_27 : decode cX9_go 27 = .ok (.ifCond .ne 5, 3) := by decide +kernel
theorem dX9_go_30 : decode cX9_go 30 = .ok (.iconst (-1), 1) := by decide +kernel
theorem dX9_go_31 : decode cX9_go 31 = .ok (.ireturn, 1) := by decide +kernel
theorem dX9_go_32 : decode cX9_go 32 = .ok (.aload_n 0, 1) := by decide +kernel
theorem dX9_go_33 : decode cX9_go 33 = .ok (.invokevirtual 189, 3) := by decide +kernel
theorem dX9_go_36 : decode cX9_go 36 = .ok (.aload_n 0, 1) := by decide +kernel
theorem dX9_go_37 : decode cX9_go 37 = .ok (.getfield 16, 3) := by decide +kernel
theorem dX9_go_40 : decode cX9_go 40 = .ok (.bipush 31, 2) := by decide +kernel
theorem dX9_go_42 : decode cX9_go 42 = .ok (.iaload, 1) := by decide +kernel
theorem dX9_go_43 : decode cX9_go 43 = .ok (.aload_n 0, 1) := by decide +kernel
theorem dX9_go_44 : decode cX9_go 44 = .ok (.getfield 44, 3) := by decide +kernel
theorem dX9_go_47 : decode cX9_go 47 = .ok (.iload_n 1, 1) := by decide +kernel
theorem dX9_go_48 : decode cX9_go 48 = .ok (.iaload, 1) := by decide +kernel
theorem dX9_go_49 : decode cX9_go 49 = .ok (.ixor, 1) := by decide +kernel
theorem dX9_go_50 : decode cX9_go 50 = .ok (.invokestatic 105, 3) := by decide +kernel
theorem dX9_go_53 : decode cX9_go 53 = .ok (.istore_n 2, 1) := by decide +kernel
theorem dX9_go_54 : decode cX9_go 54 = .ok (.aload_n 0, 1) := by decide +kernel
theorem dX9_go_55 : decode cX9_go 55 = .ok (.getfield 16, 3) := by decide +kernel
theorem dX9_go_58 : decode cX9_go 58 = .ok (.bipush 31, 2) := by decide +kernel
theorem dX9_go_60 : decode cX9_go 60 = .ok (.aload_n 0, 1) := by decide +kernel
theorem dX9_go_61 : decode cX9_go 61 = .ok (.getfield 44, 3) := by decide +kernel
theorem dX9_go_64 : decode cX9_go 64 = .ok (.iload_n 1, 1) := by decide +kernel
theorem dX9_go_65 : decode cX9_go 65 = .ok (.iaload, 1) := by decide +kernel
theorem dX9_go_66 : decode cX9_go 66 = .ok (.iastore, 1) := by decide +kernel
theorem dX9_go_67 : decode cX9_go 67 = .ok (.iload_n 2, 1) := by decide +kernel
theorem dX9_go_68 : decode cX9_go 68 = .ok (.ireturn, 1) := by decide +kernel
theorem dX9_bit_0 : decode cX9_bit 0 = .ok (.iconst 1, 1) := by decide +kernel
theorem dX9_bit_1 : decode cX9_bit 1 = .ok (.aload_n 0, 1) := by decide +kernel
theorem dX9_bit_2 : decode cX9_bit 2 = .ok (.invokestatic 69, 3) := by decide +kernel
theorem dX9_bit_5 : decode cX9_bit 5 = .ok (.iconst 1, 1) := by decide +kernel
theorem dX9_bit_6 : decode cX9_bit 6 = .ok (.isub, 1) := by decide +kernel
theorem dX9_bit_7 : decode cX9_bit 7 = .ok (.aload_n 0, 1) := by decide +kernel
theorem dX9_bit_8 : decode cX9_bit 8 = .ok (.iconst 1, 1) := by decide +kernel
theorem dX9_bit_9 : decode cX9_bit 9 = .ok (.iaload, 1) := by decide +kernel
theorem dX9_bit_10 : decode cX9_bit 10 = .ok (.iload_n 1, 1) := by decide +kernel
theorem dX9_bit_11 : decode cX9_bit 11 = .ok (.imul, 1) := by decide +kernel
theorem dX9_bit_12 : decode cX9_bit 12 = .ok (.iload_n 2, 1) := by decide +kernel
theorem dX9_bit_13 : decode cX9_bit 13 = .ok (.iadd, 1) := by decide +kernel
theorem dX9_bit_14 : decode cX9_bit 14 = .ok (.isub, 1) := by decide +kernel
theorem dX9_bit_15 : decode cX9_bit 15 = .ok (.ishl, 1) := by decide +kernel
theorem dX9_bit_16 : decode cX9_bit 16 = .ok (.ireturn, 1) := by decide +kernel
theorem dX9_four_0 : decode cX9_four 0 = .ok (.aload_n 0, 1) := by decide +kernel
theorem dX9_four_1 : decode cX9_four 1 = .ok (.iconst 1, 1) := by decide +kernel
theorem dX9_four_2 : decode cX9_four 2 = .ok (.iaload, 1) := by decide +kernel
theorem dX9_four_3 : decode cX9_four 3 = .ok (.istore 5, 2) := by decide +kernel
theorem dX9_four_5 : decode cX9_four 5 = .ok (.aload_n 0, 1) := by decide +kernel
theorem dX9_four_6 : decode cX9_four 6 = .ok (.bipush 11, 2) := by decide +kernel
theorem dX9_four_8 : decode cX9_four 8 = .ok (.iload 5, 2) := by decide +kernel
theorem dX9_four_10 : decode cX9_four 10 = .ok (.iload_n 1, 1) := by decide +kernel
theorem dX9_four_11 : decode cX9_four 11 = .ok (.imul, 1) := by decide +kernel
theorem dX9_four_12 : decode cX9_four 12 = .ok (.iadd, 1) := by decide +kernel
theorem dX9_four_13 : decode cX9_four 13 = .ok (.iload_n 3, 1) := by decide +kernel
theorem dX9_four_14 : decode cX9_four 14 = .ok (.iadd, 1) := by decide +kernel
theorem dX9_four_15 : decode cX9_four 15 = .ok (.iaload, 1) := by decide +kernel
theorem dX9_four_16 : decode cX9_four 16 = .ok (.ifCond .ne 51, 3) := by decide +kernel
theorem dX9_four_19 : decode cX9_four 19 = .ok (.aload_n 0, 1) := by decide +kernel
theorem dX9_four_20 : decode cX9_four 20 = .ok (.bipush 11, 2) := by decide +kernel
theorem dX9_four_22 : decode cX9_four 22 = .ok (.iload 5, 2) := by decide +kernel
theorem dX9_four_24 : decode cX9_four 24 = .ok (.iload_n 2, 1) := by decide +kernel
theorem dX9_four_25 : decode cX9_four 25 = .ok (.imul, 1) := by decide +kernel
theorem dX9_four_26 : decode cX9_four 26 = .ok (.iadd, 1) := by decide +kernel
theorem dX9_four_27 : decode cX9_four 27 = .ok (.iload 4, 2) := by decide +kernel
theorem dX9_four_29 : decode cX9_four 29 = .ok (.iadd, 1) := by decide +kernel
theorem dX9_four_30 : decode cX9_four 30 = .ok (.iaload, 1) := by decide +kernel
theorem dX9_four_31 : decode cX9_four 31 = .ok (.ifCond .ne 36, 3) := by decide +kernel
theorem dX9_four_34 : decode cX9_four 34 = .ok (.aload_n 0, 1) := by decide +kernel
theorem dX9_four_35 : decode cX9_four 35 = .ok (.bipush 11, 2) := by decide +kernel
theorem dX9_four_37 : decode cX9_four 37 = .ok (.iload 5, 2) := by decide +kernel
theorem dX9_four_39 : decode cX9_four 39 = .ok (.iload_n 1, 1) := by decide +kernel
theorem dX9_four_40 : decode cX9_four 40 = .ok (.imul, 1) := by decide +kernel
theorem dX9_four_41 : decode cX9_four 41 = .ok (.iadd, 1) := by decide +kernel
theorem dX9_four_42 : decode cX9_four 42 = .ok (.iload 4, 2) := by decide +kernel
theorem dX9_four_44 : decode cX9_four 44 = .ok (.iadd, 1) := by decide +kernel
theorem dX9_four_45 : decode cX9_four 45 = .ok (.iaload, 1) := by decide +kernel
theorem dX9_four_46 : decode cX9_four 46 = .ok (.ifCond .ne 21, 3) := by decide +kernel
theorem dX9_four_49 : decode cX9_four 49 = .ok (.aload_n 0, 1) := by decide +kernel
theorem dX9_four_50 : decode cX9_four 50 = .ok (.bipush 11, 2) := by decide +kernel
theorem dX9_four_52 : decode cX9_four 52 = .ok (.iload 5, 2) := by decide +kernel
theorem dX9_four_54 : decode cX9_four 54 = .ok (.iload_n 2, 1) := by decide +kernel
theorem dX9_four_55 : decode cX9_four 55 = .ok (.imul, 1) := by decide +kernel
theorem dX9_four_56 : decode cX9_four 56 = .ok (.iadd, 1) := by decide +kernel
theorem dX9_four_57 : decode cX9_four 57 = .ok (.iload_n 3, 1) := by decide +kernel
theorem dX9_four_58 : decode cX9_four 58 = .ok (.iadd, 1) := by decide +kernel
theorem dX9_four_59 : decode cX9_four 59 = .ok (.iaload, 1) := by decide +kernel
theorem dX9_four_60 : decode cX9_four 60 = .ok (.ifCond .ne 7, 3) := by decide +kernel
theorem dX9_four_63 : decode cX9_four 63 = .ok (.iconst 1, 1) := by decide +kernel
theorem dX9_four_64 : decode cX9_four 64 = .ok (.goto 4, 3) := by decide +kernel
theorem dX9_four_67 : decode cX9_four 67 = .ok (.iconst 0, 1) := by decide +kernel
theorem dX9_four_68 : decode cX9_four 68 = .ok (.istore 6, 2) := by decide +kernel
theorem dX9_four_70 : decode cX9_four 70 = .ok (.aload_n 0, 1) := by decide +kernel
theorem dX9_four_71 : decode cX9_four 71 = .ok (.iload_n 1, 1) := by decide +kernel
theorem dX9_four_72 : decode cX9_four 72 = .ok (.iload_n 3, 1) := by decide +kernel
theorem dX9_four_73 : decode cX9_four 73 = .ok (.invokestatic 192, 3) := by decide +kernel
theorem dX9_four_76 : decode cX9_four 76 = .ok (.aload_n 0, 1) := by decide +kernel
theorem dX9_four_77 : decode cX9_four 77 = .ok (.iload_n 2, 1) := by decide +kernel
theorem dX9_four_78 : decode cX9_four 78 = .ok (.iload 4, 2) := by decide +kernel
theorem dX9_four_80 : decode cX9_four 80 = .ok (.invokestatic 192, 3) := by decide +kernel
theorem dX9_four_83 : decode cX9_four 83 = .ok (.ior, 1) := by decide +kernel
theorem dX9_four_84 : decode cX9_four 84 = .ok (.istore 7, 2) := by decide +kernel
theorem dX9_four_86 : decode cX9_four 86 = .ok (.aload_n 0, 1) := by decide +kernel
theorem dX9_four_87 : decode cX9_four 87 = .ok (.iload_n 1, 1) := by decide +kernel
theorem dX9_four_88 : decode cX9_four 88 = .ok (.iload 4, 2) := by decide +kernel
theorem dX9_four_90 : decode cX9_four 90 = .ok (.invokestatic 192, 3) := by decide +kernel
theorem dX9_four_93 : decode cX9_four 93 = .ok (.aload_n 0, 1) := by decide +kernel
theorem dX9_four_94 : decode cX9_four 94 = .ok (.iload_n 2, 1) := by decide +kernel
theorem dX9_four_95 : decode cX9_four 95 = .ok (.iload_n 3, 1) := by decide +kernel
theorem dX9_four_96 : decode cX9_four 96 = .ok (.invokestatic 192, 3) := by decide +kernel
theorem dX9_four_99 : decode cX9_four 99 = .ok (.ior, 1) := by decide +kernel
theorem dX9_four_100 : decode cX9_four 100 = .ok (.istore 8, 2) := by decide +kernel
theorem dX9_four_102 : decode cX9_four 102 = .ok (.aload_n 0, 1) := by decide +kernel
theorem dX9_four_103 : decode cX9_four 103 = .ok (.bipush 31, 2) := by decide +kernel
theorem dX9_four_105 : decode cX9_four 105 = .ok (.iaload, 1) := by decide +kernel
theorem dX9_four_106 : decode cX9_four 106 = .ok (.bipush (-9), 2) := by decide +kernel
theorem dX9_four_108 : decode cX9_four 108 = .ok (.if_icmp .eq 45, 3) := by decide +kernel
theorem dX9_four_111 : decode cX9_four 111 = .ok (.iload_n 1, 1) := by decide +kernel
theorem dX9_four_112 : decode cX9_four 112 = .ok (.iload_n 2, 1) := by decide +kernel
theorem dX9_four_113 : decode cX9_four 113 = .ok (.if_icmp .eq 40, 3) := by decide +kernel
theorem dX9_four_116 : decode cX9_four 116 = .ok (.iload_n 3, 1) := by decide +kernel
theorem dX9_four_117 : decode cX9_four 117 = .ok (.iload 4, 2) := by decide +kernel
theorem dX9_four_119 : decode cX9_four 119 = .ok (.if_icmp .eq 34, 3) := by decide +kernel
theorem dX9_four_122 : decode cX9_four 122 = .ok (.iload 6, 2) := by decide +kernel
theorem dX9_four_124 : decode cX9_four 124 = .ok (.ifCond .eq 29, 3) := by decide +kernel
theorem dX9_four_127 : decode cX9_four 127 = .ok (.aload_n 0, 1) := by decide +kernel
theorem dX9_four_128 : decode cX9_four 128 = .ok (.bipush 31, 2) := by decide +kernel
theorem dX9_four_130 : decode cX9_four 130 = .ok (.iaload, 1) := by decide +kernel
theorem dX9_four_131 : decode cX9_four 131 = .ok (.iload 7, 2) := by decide +kernel
theorem dX9_four_133 : decode cX9_four 133 = .ok (.iand, 1) := by decide +kernel
theorem dX9_four_134 : decode cX9_four 134 = .ok (.iload 7, 2) := by decide +kernel
theorem dX9_four_136 : decode cX9_four 136 = .ok (.if_icmp .ne 17, 3) := by decide +kernel
theorem dX9_four_139 : decode cX9_four 139 = .ok (.aload_n 0, 1) := by decide +kernel
theorem dX9_four_140 : decode cX9_four 140 = .ok (.bipush 31, 2) := by decide +kernel
theorem dX9_four_142 : decode cX9_four 142 = .ok (.iaload, 1) := by decide +kernel
theorem dX9_four_143 : decode cX9_four 143 = .ok (.iload 8, 2) := by decide +kernel
theorem dX9_four_145 : decode cX9_four 145 = .ok (.iand, 1) := by decide +kernel
theorem dX9_four_146 : decode cX9_four 146 = .ok (.ifCond .ne 7, 3) := by decide +kernel
theorem dX9_four_149 : decode cX9_four 149 = .ok (.iconst 1, 1) := by decide +kernel
theorem dX9_four_150 : decode cX9_four 150 = .ok (.goto 4, 3) := by decide +kernel
theorem dX9_four_153 : decode cX9_four 153 = .ok (.iconst 0, 1) := by decide +kernel
theorem dX9_four_154 : decode cX9_four 154 = .ok (.istore 9, 2) := by decide +kernel
theorem dX9_four_156 : decode cX9_four 156 = .ok (.iload 9, 2) := by decide +kernel
theorem dX9_four_158 : decode cX9_four 158 = .ok (.ifCond .eq 11, 3) := by decide +kernel
theorem dX9_four_161 : decode cX9_four 161 = .ok (.iload 7, 2) := by decide +kernel
theorem dX9_four_163 : decode cX9_four 163 = .ok (.iload 8, 2) := by decide +kernel
theorem dX9_four_165 : decode cX9_four 165 = .ok (.ior, 1) := by decide +kernel
theorem dX9_four_166 : decode cX9_four 166 = .ok (.goto 4, 3) := by decide +kernel
theorem dX9_four_169 : decode cX9_four 169 = .ok (.iconst 0, 1) := by decide +kernel
theorem dX9_four_170 : decode cX9_four 170 = .ok (.ireturn, 1) := by decide +kernel
theorem dX9_countSwitches_0 : decode cX9_countSwitches 0 = .ok (.iconst 0, 1) := by decide +kernel
theorem dX9_countSwitches_1 : decode cX9_countSwitches 1 = .ok (.istore_n 2, 1) := by decide +kernel
theorem dX9_countSwitches_2 : decode cX9_countSwitches 2 = .ok (.bipush (-9), 2) := by decide +kernel
theorem dX9_countSwitches_4 : decode cX9_countSwitches 4 = .ok (.istore_n 3, 1) := by decide +kernel
theorem dX9_countSwitches_5 : decode cX9_countSwitches 5 = .ok (.aload_n 0, 1) := by decide +kernel
theorem dX9_countSwitches_6 : decode cX9_countSwitches 6 = .ok (.getfield 16, 3) := by decide +kernel
theorem dX9_countSwitches_9 : decode cX9_countSwitches 9 = .ok (.iconst 0, 1) := by decide +kernel
theorem dX9_countSwitches_10 : decode cX9_countSwitches 10 = .ok (.iaload, 1) := by decide +kernel
theorem dX9_countSwitches_11 : decode cX9_countSwitches 11 = .ok (.istore 4, 2) := by decide +kernel
theorem dX9_countSwitches_13 : decode cX9_countSwitches 13 = .ok (.aload_n 0, 1) := by decide +kernel
theorem dX9_countSwitches_14 : decode cX9_countSwitches 14 = .ok (.getfield 16, 3) := by decide +kernel
theorem dX9_countSwitches_17 : decode cX9_countSwitches 17 = .ok (.iconst 1, 1) := by decide +kernel
theorem dX9_countSwitches_18 : decode cX9_countSwitches 18 = .ok (.iaload, 1) := by decide +kernel
theorem dX9_countSwitches_19 : decode cX9_countSwitches 19 = .ok (.istore 5, 2) := by decide +kernel
theorem dX9_countSwitches_21 : decode cX9_countSwitches 21 = .ok (.iconst 0, 1) := by decide +kernel
theorem dX9_countSwitches_22 : decode cX9_countSwitches 22 = .ok (.istore 6, 2) := by decide +kernel
theorem dX9_countSwitches_24 : decode cX9_countSwitches 24 = .ok (.iload 6, 2) := by decide +kernel
theorem dX9_countSwitches_26 : decode cX9_countSwitches 26 = .ok (.iload 4, 2) := by decide +kernel
theorem dX9_countSwitches_28 : decode cX9_countSwitches 28 = .ok (.iload 4, 2) := by decide +kernel
theorem dX9_countSwitches_30 : decode cX9_countSwitches 30 = .ok (.imul, 1) := by decide +kernel
theorem dX9_countSwitches_31 : decode cX9_countSwitches 31 = .ok (.iload 5, 2) := by decide +kernel
theorem dX9_countSwitches_33 : decode cX9_countSwitches 33 = .ok (.imul, 1) := by decide +kernel
theorem dX9_countSwitches_34 : decode cX9_countSwitches 34 = .ok (.iload 5, 2) := by decide +kernel
theorem dX9_countSwitches_36 : decode cX9_countSwitches 36 = .ok (.imul, 1) := by decide +kernel
theorem dX9_countSwitches_37 : decode cX9_countSwitches 37 = .ok (.if_icmp .ge 132, 3) := by decide +kernel
theorem dX9_countSwitches_40 : decode cX9_countSwitches 40 = .ok (.iload 6, 2) := by decide +kernel
theorem dX9_countSwitches_42 : decode cX9_countSwitches 42 = .ok (.iload 4, 2) := by decide +kernel
theorem dX9_countSwitches_44 : decode cX9_countSwitches 44 = .ok (.iload 5, 2) := by decide +kernel
theorem dX9_countSwitches_46 : decode cX9_countSwitches 46 = .ok (.imul, 1) := by decide +kernel
theorem dX9_countSwitches_47 : decode cX9_countSwitches 47 = .ok (.iload 5, 2) := by decide +kernel
theorem dX9_countSwitches_49 : decode cX9_countSwitches 49 = .ok (.imul, 1) := by decide +kernel
theorem dX9_countSwitches_50 : decode cX9_countSwitches 50 = .ok (.idiv, 1) := by decide +kernel
theorem dX9_countSwitches_51 : decode cX9_countSwitches 51 = .ok (.istore 7, 2) := by decide +kernel
theorem dX9_countSwitches_53 : decode cX9_countSwitches 53 = .ok (.iload 6, 2) := by decide +kernel
theorem dX9_countSwitches_55 : decode cX9_countSwitches 55 = .ok (.iload 5, 2) := by decide +kernel
theorem dX9_countSwitches_57 : decode cX9_countSwitches 57 = .ok (.iload 5, 2) := by decide +kernel
theorem dX9_countSwitches_59 : decode cX9_countSwitches 59 = .ok (.imul, 1) := by decide +kernel
theorem dX9_countSwitches_60 : decode cX9_countSwitches 60 = .ok (.idiv, 1) := by decide +kernel
theorem dX9_countSwitches_61 : decode cX9_countSwitches 61 = .ok (.iload 4, 2) := by decide +kernel
theorem dX9_countSwitches_63 : decode cX9_countSwitches 63 = .ok (.irem, 1) := by decide +kernel
theorem dX9_countSwitches_64 : decode cX9_countSwitches 64 = .ok (.istore 8, 2) := by decide +kernel
theorem dX9_countSwitches_66 : decode cX9_countSwitches 66 = .ok (.iload 6, 2) := by decide +kernel
theorem dX9_countSwitches_68 : decode cX9_countSwitches 68 = .ok (.iload 5, 2) := by decide +kernel
theorem dX9_countSwitches_70 : decode cX9_countSwitches 70 = .ok (.idiv, 1) := by decide +kernel
theorem dX9_countSwitches_71 : decode cX9_countSwitches 71 = .ok (.iload 5, 2) := by decide +kernel
theorem dX9_countSwitches_73 : decode cX9_countSwitches 73 = .ok (.irem, 1) := by decide +kernel
theorem dX9_countSwitches_74 : decode cX9_countSwitches 74 = .ok (.istore 9, 2) := by decide +kernel
theorem dX9_countSwitches_76 : decode cX9_countSwitches 76 = .ok (.iload 6, 2) := by decide +kernel
theorem dX9_countSwitches_78 : decode cX9_countSwitches 78 = .ok (.iload 5, 2) := by decide +kernel
theorem dX9_countSwitches_80 : decode cX9_countSwitches 80 = .ok (.irem, 1) := by decide +kernel
theorem dX9_countSwitches_81 : decode cX9_countSwitches 81 = .ok (.istore 10, 2) := by decide +kernel
theorem dX9_countSwitches_83 : decode cX9_countSwitches 83 = .ok (.iload 7, 2) := by decide +kernel
theorem dX9_countSwitches_85 : decode cX9_countSwitches 85 = .ok (.iload 8, 2) := by decide +kernel
theorem dX9_countSwitches_87 : decode cX9_countSwitches 87 = .ok (.if_icmp .ge 25, 3) := by decide +kernel
theorem dX9_countSwitches_90 : decode cX9_countSwitches 90 = .ok (.aload_n 0, 1) := by decide +kernel
theorem dX9_countSwitches_91 : decode cX9_countSwitches 91 = .ok (.getfield 16, 3) := by decide +kernel
theorem dX9_countSwitches_94 : decode cX9_countSwitches 94 = .ok (.iload 7, 2) := by decide +kernel
theorem dX9_countSwitches_96 : decode cX9_countSwitches 96 = .ok (.iload 8, 2) := by decide +kernel
theorem dX9_countSwitches_98 : decode cX9_countSwitches 98 = .ok (.iload 9, 2) := by decide +kernel
theorem dX9_countSwitches_100 : decode cX9_countSwitches 100 = .ok (.iload 10, 2) := by decide +kernel
theorem dX9_countSwitches_102 : decode cX9_countSwitches 102 = .ok (.invokestatic 195, 3) := by decide +kernel
theorem dX9_countSwitches_105 : decode cX9_countSwitches 105 = .ok (.ifCond .eq 7, 3) := by decide +kernel
theorem dX9_countSwitches_108 : decode cX9_countSwitches 108 = .ok (.iconst 1, 1) := by decide +kernel
theorem dX9_countSwitches_109 : decode cX9_countSwitches 109 = .ok (.goto 4, 3) := by decide +kernel
theorem dX9_countSwitches_112 : decode cX9_countSwitches 112 = .ok (.iconst 0, 1) := by decide +kernel
theorem dX9_countSwitches_113 : decode cX9_countSwitches 113 = .ok (.istore 11, 2) := by decide +kernel
theorem dX9_countSwitches_115 : decode cX9_countSwitches 115 = .ok (.iload 11, 2) := by decide +kernel
theorem dX9_countSwitches_117 : decode cX9_countSwitches 117 = .ok (.ifCond .eq 31, 3) := by decide +kernel
theorem dX9_countSwitches_120 : decode cX9_countSwitches 120 = .ok (.iload_n 2, 1) := by decide +kernel
theorem dX9_countSwitches_121 : decode cX9_countSwitches 121 = .ok (.ifCond .ne 27, 3) := by decide +kernel
theorem dX9_countSwitches_124 : decode cX9_countSwitches 124 = .ok (.sipush 1000, 3) := by decide +kernel
theorem dX9_countSwitches_127 : decode cX9_countSwitches 127 = .ok (.iload 7, 2) := by decide +kernel
theorem dX9_countSwitches_129 : decode cX9_countSwitches 129 = .ok (.imul, 1) := by decide +kernel
theorem dX9_countSwitches_130 : decode cX9_countSwitches 130 = .ok (.bipush 100, 2) := by decide +kernel
theorem dX9_countSwitches_132 : decode cX9_countSwitches 132 = .ok (.iload 8, 2) := by decide +kernel
theorem dX9_countSwitches_134 : decode cX9_countSwitches 134 = .ok (.imul, 1) := by decide +kernel
theorem dX9_countSwitches_135 : decode cX9_countSwitches 135 = .ok (.iadd, 1) := by decide +kernel
theorem dX9_countSwitches_136 : decode cX9_countSwitches 136 = .ok (.bipush 10, 2) := by decide +kernel
theorem dX9_countSwitches_138 : decode cX9_countSwitches 138 = .ok (.iload 9, 2) := by decide +kernel
theorem dX9_countSwitches_140 : decode cX9_countSwitches 140 = .ok (.imul, 1) := by decide +kernel
theorem dX9_countSwitches_141 : decode cX9_countSwitches 141 = .ok (.iadd, 1) := by decide +kernel
theorem dX9_countSwitches_142 : decode cX9_countSwitches 142 = .ok (.iload 10, 2) := by decide +kernel
theorem dX9_countSwitches_144 : decode cX9_countSwitches 144 = .ok (.iadd, 1) := by decide +kernel
theorem dX9_countSwitches_145 : decode cX9_countSwitches 145 = .ok (.goto 4, 3) := by decide +kernel
theorem dX9_countSwitches_148 : decode cX9_countSwitches 148 = .ok (.iload_n 3, 1) := by decide +kernel
theorem dX9_countSwitches_149 : decode cX9_countSwitches 149 = .ok (.istore_n 3, 1) := by decide +kernel
theorem dX9_countSwitches_150 : decode cX9_countSwitches 150 = .ok (.iload_n 2, 1) := by decide +kernel
theorem dX9_countSwitches_151 : decode cX9_countSwitches 151 = .ok (.iload 11, 2) := by decide +kernel
theorem dX9_countSwitches_153 : decode cX9_countSwitches 153 = .ok (.ifCond .eq 7, 3) := by decide +kernel
theorem dX9_countSwitches_156 : decode cX9_countSwitches 156 = .ok (.iconst 1, 1) := by decide +kernel
theorem dX9_countSwitches_157 : decode cX9_countSwitches 157 = .ok (.goto 4, 3) := by decide +kernel
theorem dX9_countSwitches_160 : decode cX9_countSwitches 160 = .ok (.iconst 0, 1) := by decide +kernel
theorem dX9_countSwitches_161 : decode cX9_countSwitches 161 = .ok (.iadd, 1) := by decide +kernel
theorem dX9_countSwitches_162 : decode cX9_countSwitches 162 = .ok (.istore_n 2, 1) := by decide +kernel
theorem dX9_countSwitches_163 : decode cX9_countSwitches 163 = .ok (.iinc 6 1, 3) := by decide +kernel
theorem dX9_countSwitches_166 : decode cX9_countSwitches 166 = .ok (.goto (-142), 3) := by decide +kernel
theorem dX9_countSwitches_169 : decode cX9_countSwitches 169 = .ok (.iload_n 1, 1) := by decide +kernel
theorem dX9_countSwitches_170 : decode cX9_countSwitches 170 = .ok (.ifCond .ne 7, 3) := by decide +kernel
theorem dX9_countSwitches_173 : decode cX9_countSwitches 173 = .ok (.iload_n 2, 1) := by decide +kernel
theorem dX9_countSwitches_174 : decode cX9_countSwitches 174 = .ok (.goto 4, 3) := by decide +kernel
theorem dX9_countSwitches_177 : decode cX9_countSwitches 177 = .ok (.iload_n 3, 1) := by decide +kernel
theorem dX9_countSwitches_178 : decode cX9_countSwitches 178 = .ok (.ireturn, 1) := by decide +kernel
theorem dX9_swap_0 : decode cX9_swap 0 = .ok (.aload_n 0, 1) := by decide +kernel
theorem dX9_swap_1 : decode cX9_swap 1 = .ok (.iconst 0, 1) := by decide +kernel
theorem dX9_swap_2 : decode cX9_swap 2 = .ok (.putfield 65, 3) := by decide +kernel
theorem dX9_swap_5 : decode cX9_swap 5 = .ok (.aload_n 0, 1) := by decide +kernel
theorem dX9_swap_6 : decode cX9_swap 6 = .ok (.iconst 0, 1) := by decide +kernel
theorem dX9_swap_7 : decode cX9_swap 7 = .ok (.iload_n 1, 1) := by decide +kernel
theorem dX9_swap_8 : decode cX9_swap 8 = .ok (.invokevirtual 140, 3) := by decide +kernel
theorem dX9_swap_11 : decode cX9_swap 11 = .ok (.ifCond .ne 31, 3) := by decide +kernel
theorem dX9_swap_14 : decode cX9_swap 14 = .ok (.aload_n 0, 1) := by decide +kernel
theorem dX9_swap_15 : decode cX9_swap 15 = .ok (.iconst 0, 1) := by decide +kernel
theorem dX9_swap_16 : decode cX9_swap 16 = .ok (.iload_n 2, 1) := by decide +kernel
theorem dX9_swap_17 : decode cX9_swap 17 = .ok (.invokevirtual 140, 3) := by decide +kernel
theorem dX9_swap_20 : decode cX9_swap 20 = .ok (.ifCond .ne 22, 3) := by decide +kernel
theorem dX9_swap_23 : decode cX9_swap 23 = .ok (.aload_n 0, 1) := by decide +kernel
theorem dX9_swap_24 : decode cX9_swap 24 = .ok (.iconst 1, 1) := by decide +kernel
theorem dX9_swap_25 : decode cX9_swap 25 = .ok (.iload_n 3, 1) := by decide +kernel
theorem dX9_swap_26 : decode cX9_swap 26 = .ok (.invokevirtual 140, 3) := by decide +kernel
theorem dX9_swap_29 : decode cX9_swap 29 = .ok (.ifCond .ne 13, 3) := by decide +kernel
theorem dX9_swap_32 : decode cX9_swap 32 = .ok (.aload_n 0, 1) := by decide +kernel
theorem dX9_swap_33 : decode cX9_swap 33 = .ok (.iconst 1, 1) := by decide +kernel
theorem dX9_swap_34 : decode cX9_swap 34 = .ok (.iload 4, 2) := by decide +kernel
theorem dX9_swap_36 : decode cX9_swap 36 = .ok (.invokevirtual 140, 3) := by decide +kernel
theorem dX9_swap_39 : decode cX9_swap 39 = .ok (.ifCond .eq 5, 3) := by decide +kernel
theorem dX9_swap_42 : decode cX9_swap 42 = .ok (.iconst (-1), 1) := by decide +kernel
theorem dX9_swap_43 : decode cX9_swap 43 = .ok (.ireturn, 1) := by decide +kernel
theorem dX9_swap_44 : decode cX9_swap 44 = .ok (.aload_n 0, 1) := by decide +kernel
theorem dX9_swap_45 : decode cX9_swap 45 = .ok (.getfield 16, 3) := by decide +kernel
theorem dX9_swap_48 : decode cX9_swap 48 = .ok (.iload_n 1, 1) := by decide +kernel
theorem dX9_swap_49 : decode cX9_swap 49 = .ok (.iload_n 2, 1) := by decide +kernel
theorem dX9_swap_50 : decode cX9_swap 50 = .ok (.iload_n 3, 1) := by decide +kernel
theorem dX9_swap_51 : decode cX9_swap 51 = .ok (.iload 4, 2) := by decide +kernel
theorem dX9_swap_53 : decode cX9_swap 53 = .ok (.invokestatic 195, 3) := by decide +kernel
theorem dX9_swap_56 : decode cX9_swap 56 = .ok (.istore 5, 2) := by decide +kernel
theorem dX9_swap_58 : decode cX9_swap 58 = .ok (.iload 5, 2) := by decide +kernel
theorem dX9_swap_60 : decode cX9_swap 60 = .ok (.ifCond .ne 6, 3) := by decide +kernel
theorem dX9_swap_63 : decode cX9_swap 63 = .ok (.bipush (-3), 2) := by decide +kernel
theorem dX9_swap_65 : decode cX9_swap 65 = .ok (.ireturn, 1) := by decide +kernel
theorem dX9_swap_66 : decode cX9_swap 66 = .ok (.aload_n 0, 1) := by decide +kernel
theorem dX9_swap_67 : decode cX9_swap 67 = .ok (.invokevirtual 189, 3) := by decide +kernel
theorem dX9_swap_70 : decode cX9_swap 70 = .ok (.aload_n 0, 1) := by decide +kernel
theorem dX9_swap_71 : decode cX9_swap 71 = .ok (.getfield 16, 3) := by decide +kernel
theorem dX9_swap_74 : decode cX9_swap 74 = .ok (.bipush 31, 2) := by decide +kernel
theorem dX9_swap_76 : decode cX9_swap 76 = .ok (.dup2, 1) := by decide +kernel
theorem dX9_swap_77 : decode cX9_swap 77 = .ok (.iaload, 1) := by decide +kernel
theorem dX9_swap_78 : decode cX9_swap 78 = .ok (.iload 5, 2) := by decide +kernel
theorem dX9_swap_80 : decode cX9_swap 80 = .ok (.ixor, 1) := by decide +kernel
theorem dX9_swap_81 : decode cX9_swap 81 = .ok (.iastore, 1) := by decide +kernel
theorem dX9_swap_82 : decode cX9_swap 82 = .ok (.aload_n 0, 1) := by decide +kernel
theorem dX9_swap_83 : decode cX9_swap 83 = .ok (.iconst 0, 1) := by decide +kernel
theorem dX9_swap_84 : decode cX9_swap 84 = .ok (.invokevirtual 199, 3) := by decide +kernel
theorem dX9_swap_87 : decode cX9_swap 87 = .ok (.ireturn, 1) := by decide +kernel
theorem dX9_setTotal_0 : decode cX9_setTotal 0 = .ok (.aload_n 0, 1) := by decide +kernel
theorem dX9_setTotal_1 : decode cX9_setTotal 1 = .ok (.iconst 0, 1) := by decide +kernel
theorem dX9_setTotal_2 : decode cX9_setTotal 2 = .ok (.putfield 65, 3) := by decide +kernel
theorem dX9_setTotal_5 : decode cX9_setTotal 5 = .ok (.iload_n 1, 1) := by decide +kernel
theorem dX9_setTotal_6 : decode cX9_setTotal 6 = .ok (.i2l, 1) := by decide +kernel
theorem dX9_setTotal_7 : decode cX9_setTotal 7 = .ok (.lconst 0, 1) := by decide +kernel
theorem dX9_setTotal_8 : decode cX9_setTotal 8 = .ok (.lconst 1, 1) := by decide +kernel
theorem dX9_setTotal_9 : decode cX9_setTotal 9 = .ok (.invokestatic 77, 3) := by decide +kernel
theorem dX9_setTotal_12 : decode cX9_setTotal 12 = .ok (.ifCond .ne 6, 3) := by decide +kernel
theorem dX9_setTotal_15 : decode cX9_setTotal 15 = .ok (.bipush (-2), 2) := by decide +kernel
theorem dX9_setTotal_17 : decode cX9_setTotal 17 = .ok (.ireturn, 1) := by decide +kernel
theorem dX9_setTotal_18 : decode cX9_setTotal 18 = .ok (.aload_n 0, 1) := by decide +kernel
theorem dX9_setTotal_19 : decode cX9_setTotal 19 = .ok (.iload_n 1, 1) := by decide +kernel
theorem dX9_setTotal_20 : decode cX9_setTotal 20 = .ok (.iload_n 2, 1) := by decide +kernel
theorem dX9_setTotal_21 : decode cX9_setTotal 21 = .ok (.invokevirtual 140, 3) := by decide +kernel
theorem dX9_setTotal_24 : decode cX9_setTotal 24 = .ok (.ifCond .eq 5, 3) := by decide +kernel
theorem dX9_setTotal_27 : decode cX9_setTotal 27 = .ok (.iconst (-1), 1) := by decide +kernel
theorem dX9_setTotal_28 : decode cX9_setTotal 28 = .ok (.ireturn, 1) := by decide +kernel
theorem dX9_setTotal_29 : decode cX9_setTotal 29 = .ok (.iload_n 3, 1) := by decide +kernel
theorem dX9_setTotal_30 : decode cX9_setTotal 30 = .ok (.i2l, 1) := by decide +kernel
theorem dX9_setTotal_31 : decode cX9_setTotal 31 = .ok (.lconst 0, 1) := by decide +kernel
theorem dX9_setTotal_32 : decode cX9_setTotal 32 = .ok (.aload_n 0, 1) := by decide +kernel
theorem dX9_setTotal_33 : decode cX9_setTotal 33 = .ok (.getfield 16, 3) := by decide +kernel
theorem dX9_setTotal_36 : decode cX9_setTotal 36 = .ok (.iconst 1, 1) := by decide +kernel
theorem dX9_setTotal_37 : decode cX9_setTotal 37 = .ok (.iload_n 1, 1) := by decide +kernel
theorem dX9_setTotal_38 : decode cX9_setTotal 38 = .ok (.isub, 1) := by decide +kernel
theorem dX9_setTotal_39 : decode cX9_setTotal 39 = .ok (.iaload, 1) := by decide +kernel
theorem dX9_setTotal_40 : decode cX9_setTotal 40 = .ok (.i2l, 1) := by decide +kernel
theorem dX9_setTotal_41 : decode cX9_setTotal 41 = .ok (.invokestatic 77, 3) := by decide +kernel
theorem dX9_setTotal_44 : decode cX9_setTotal 44 = .ok (.ifCond .ne 6, 3) := by decide +kernel
theorem dX9_setTotal_47 : decode cX9_setTotal 47 = .ok (.bipush (-2), 2) := by decide +kernel
theorem dX9_setTotal_49 : decode cX9_setTotal 49 = .ok (.ireturn, 1) := by decide +kernel
theorem dX9_setTotal_50 : decode cX9_setTotal 50 = .ok (.aload_n 0, 1) := by decide +kernel
theorem dX9_setTotal_51 : decode cX9_setTotal 51 = .ok (.invokevirtual 189, 3) := by decide +kernel
theorem dX9_setTotal_54 : decode cX9_setTotal 54 = .ok (.aload_n 0, 1) := by decide +kernel
theorem dX9_setTotal_55 : decode cX9_setTotal 55 = .ok (.getfield 16, 3) := by decide +kernel
theorem dX9_setTotal_58 : decode cX9_setTotal 58 = .ok (.iload_n 1, 1) := by decide +kernel
theorem dX9_setTotal_59 : decode cX9_setTotal 59 = .ok (.iload_n 2, 1) := by decide +kernel
theorem dX9_setTotal_60 : decode cX9_setTotal 60 = .ok (.invokestatic 143, 3) := by decide +kernel
theorem dX9_setTotal_63 : decode cX9_setTotal 63 = .ok (.iload_n 3, 1) := by decide +kernel
theorem dX9_setTotal_64 : decode cX9_setTotal 64 = .ok (.iastore, 1) := by decide +kernel
theorem dX9_setTotal_65 : decode cX9_setTotal 65 = .ok (.aload_n 0, 1) := by decide +kernel
theorem dX9_setTotal_66 : decode cX9_setTotal 66 = .ok (.aload_n 0, 1) := by decide +kernel
theorem dX9_setTotal_67 : decode cX9_setTotal 67 = .ok (.getfield 16, 3) := by decide +kernel
theorem dX9_setTotal_70 : decode cX9_setTotal 70 = .ok (.invokevirtual 133, 3) := by decide +kernel
theorem dX9_setTotal_73 : decode cX9_setTotal 73 = .ok (.aload_n 0, 1) := by decide +kernel
theorem dX9_setTotal_74 : decode cX9_setTotal 74 = .ok (.getfield 112, 3) := by decide +kernel
theorem dX9_setTotal_77 : decode cX9_setTotal 77 = .ok (.ireturn, 1) := by decide +kernel
theorem dX9_tooMany_0 : decode cX9_tooMany 0 = .ok (.iload_n 2, 1) := by decide +kernel
theorem dX9_tooMany_1 : decode cX9_tooMany 1 = .ok (.ifCond .le 25, 3) := by decide +kernel
theorem dX9_tooMany_4 : decode cX9_tooMany 4 = .ok (.aload_n 0, 1) := by decide +kernel
theorem dX9_tooMany_5 : decode cX9_tooMany 5 = .ok (.bipush 11, 2) := by decide +kernel
theorem dX9_tooMany_7 : decode cX9_tooMany 7 = .ok (.iload_n 1, 1) := by decide +kernel
theorem dX9_tooMany_8 : decode cX9_tooMany 8 = .ok (.iadd, 1) := by decide +kernel
theorem dX9_tooMany_9 : decode cX9_tooMany 9 = .ok (.iaload, 1) := by decide +kernel
theorem dX9_tooMany_10 : decode cX9_tooMany 10 = .ok (.ifCond .ne 16, 3) := by decide +kernel
theorem dX9_tooMany_13 : decode cX9_tooMany 13 = .ok (.aload_n 0, 1) := by decide +kernel
theorem dX9_tooMany_14 : decode cX9_tooMany 14 = .ok (.invokestatic 86, 3) := by decide +kernel
theorem dX9_tooMany_17 : decode cX9_tooMany 17 = .ok (.bipush 6, 2) := by decide +kernel
theorem dX9_tooMany_19 : decode cX9_tooMany 19 = .ok (.if_icmp .ne 7, 3) := by decide +kernel
theorem dX9_tooMany_22 : decode cX9_tooMany 22 = .ok (.iconst 1, 1) := by decide +kernel
theorem dX9_tooMany_23 : decode cX9_tooMany 23 = .ok (.goto 4, 3) := by decide +kernel
theorem dX9_tooMany_26 : decode cX9_tooMany 26 = .ok (.iconst 0, 1) := by decide +kernel
theorem dX9_tooMany_27 : decode cX9_tooMany 27 = .ok (.ireturn, 1) := by decide +kernel
theorem dX9_setPin_0 : decode cX9_setPin 0 = .ok (.aload_n 0, 1) := by decide +kernel
theorem dX9_setPin_1 : decode cX9_setPin 1 = .ok (.iconst 0, 1) := by decide +kernel
theorem dX9_setPin_2 : decode cX9_setPin 2 = .ok (.putfield 65, 3) := by decide +kernel
theorem dX9_setPin_5 : decode cX9_setPin 5 = .ok (.aload_n 0, 1) := by decide +kernel
theorem dX9_setPin_6 : decode cX9_setPin 6 = .ok (.iload_n 1, 1) := by decide +kernel
theorem dX9_setPin_7 : decode cX9_setPin 7 = .ok (.invokevirtual 146, 3) := by decide +kernel
theorem dX9_setPin_10 : decode cX9_setPin 10 = .ok (.ifCond .eq 5, 3) := by decide +kernel
theorem dX9_setPin_13 : decode cX9_setPin 13 = .ok (.iconst (-1), 1) := by decide +kernel
theorem dX9_setPin_14 : decode cX9_setPin 14 = .ok (.ireturn, 1) := by decide +kernel
theorem dX9_setPin_15 : decode cX9_setPin 15 = .ok (.iload_n 2, 1) := by decide +kernel
theorem dX9_setPin_16 : decode cX9_setPin 16 = .ok (.i2l, 1) := by decide +kernel
theorem dX9_setPin_17 : decode cX9_setPin 17 = .ok (.lconst 0, 1) := by decide +kernel
theorem dX9_setPin_18 : decode cX9_setPin 18 = .ok (.ldc2_w 177, 3) := by decide +kernel
theorem dX9_setPin_21 : decode cX9_setPin 21 = .ok (.invokestatic 77, 3) := by decide +kernel
theorem dX9_setPin_24 : decode cX9_setPin 24 = .ok (.ifCond .ne 6, 3) := by decide +kernel
theorem dX9_setPin_27 : decode cX9_setPin 27 = .ok (.bipush (-2), 2) := by decide +kernel
theorem dX9_setPin_29 : decode cX9_setPin 29 = .ok (.ireturn, 1) := by decide +kernel
theorem dX9_setPin_30 : decode cX9_setPin 30 = .ok (.aload_n 0, 1) := by decide +kernel
theorem dX9_setPin_31 : decode cX9_setPin 31 = .ok (.getfield 16, 3) := by decide +kernel
theorem dX9_setPin_34 : decode cX9_setPin 34 = .ok (.iload_n 1, 1) := by decide +kernel
theorem dX9_setPin_35 : decode cX9_setPin 35 = .ok (.iload_n 2, 1) := by decide +kernel
theorem dX9_setPin_36 : decode cX9_setPin 36 = .ok (.invokestatic 202, 3) := by decide +kernel
theorem dX9_setPin_39 : decode cX9_setPin 39 = .ok (.ifCond .eq 6, 3) := by decide +kernel
theorem dX9_setPin_42 : decode cX9_setPin 42 = .ok (.bipush (-4), 2) := by decide +kernel
theorem dX9_setPin_44 : decode cX9_setPin 44 = .ok (.ireturn, 1) := by decide +kernel
theorem dX9_setPin_45 : decode cX9_setPin 45 = .ok (.aload_n 0, 1) := by decide +kernel
theorem dX9_setPin_46 : decode cX9_setPin 46 = .ok (.invokevirtual 189, 3) := by decide +kernel
theorem dX9_setPin_49 : decode cX9_setPin 49 = .ok (.aload_n 0, 1) := by decide +kernel
theorem dX9_setPin_50 : decode cX9_setPin 50 = .ok (.getfield 16, 3) := by decide +kernel
theorem dX9_setPin_53 : decode cX9_setPin 53 = .ok (.bipush 11, 2) := by decide +kernel
theorem dX9_setPin_55 : decode cX9_setPin 55 = .ok (.iload_n 1, 1) := by decide +kernel
theorem dX9_setPin_56 : decode cX9_setPin 56 = .ok (.iadd, 1) := by decide +kernel
theorem dX9_setPin_57 : decode cX9_setPin 57 = .ok (.iload_n 2, 1) := by decide +kernel
theorem dX9_setPin_58 : decode cX9_setPin 58 = .ok (.iastore, 1) := by decide +kernel
theorem dX9_setPin_59 : decode cX9_setPin 59 = .ok (.aload_n 0, 1) := by decide +kernel
theorem dX9_setPin_60 : decode cX9_setPin 60 = .ok (.aload_n 0, 1) := by decide +kernel
theorem dX9_setPin_61 : decode cX9_setPin 61 = .ok (.getfield 16, 3) := by decide +kernel
theorem dX9_setPin_64 : decode cX9_setPin 64 = .ok (.invokevirtual 133, 3) := by decide +kernel
theorem dX9_setPin_67 : decode cX9_setPin 67 = .ok (.aload_n 0, 1) := by decide +kernel
theorem dX9_setPin_68 : decode cX9_setPin 68 = .ok (.getfield 112, 3) := by decide +kernel
theorem dX9_setPin_71 : decode cX9_setPin 71 = .ok (.ireturn, 1) := by decide +kernel
theorem dX9_undo_0 : decode cX9_undo 0 = .ok (.aload_n 0, 1) := by decide +kernel
theorem dX9_undo_1 : decode cX9_undo 1 = .ok (.iconst 0, 1) := by decide +kernel
theorem dX9_undo_2 : decode cX9_undo 2 = .ok (.putfield 65, 3) := by decide +kernel
theorem dX9_undo_5 : decode cX9_undo 5 = .ok (.aload_n 0, 1) := by decide +kernel
theorem dX9_undo_6 : decode cX9_undo 6 = .ok (.getfield 137, 3) := by decide +kernel
theorem dX9_undo_9 : decode cX9_undo 9 = .ok (.ifCond .ne 6, 3) := by decide +kernel
theorem dX9_undo_12 : decode cX9_undo 12 = .ok (.bipush (-3), 2) := by decide +kernel
theorem dX9_undo_14 : decode cX9_undo 14 = .ok (.ireturn, 1) := by decide +kernel
theorem dX9_undo_15 : decode cX9_undo 15 = .ok (.aload_n 0, 1) := by decide +kernel
theorem dX9_undo_16 : decode cX9_undo 16 = .ok (.dup, 1) := by decide +kernel
theorem dX9_undo_17 : decode cX9_undo 17 = .ok (.getfield 137, 3) := by decide +kernel
theorem dX9_undo_20 : decode cX9_undo 20 = .ok (.iconst 1, 1) := by decide +kernel
theorem dX9_undo_21 : decode cX9_undo 21 = .ok (.isub, 1) := by decide +kernel
theorem dX9_undo_22 : decode cX9_undo 22 = .ok (.putfield 137, 3) := by decide +kernel
theorem dX9_undo_25 : decode cX9_undo 25 = .ok (.iconst 0, 1) := by decide +kernel
theorem dX9_undo_26 : decode cX9_undo 26 = .ok (.istore_n 1, 1) := by decide +kernel
theorem dX9_undo_27 : decode cX9_undo 27 = .ok (.iload_n 1, 1) := by decide +kernel
theorem dX9_undo_28 : decode cX9_undo 28 = .ok (.bipush 32, 2) := by decide +kernel
theorem dX9_undo_30 : decode cX9_undo 30 = .ok (.if_icmp .ge 29, 3) := by decide +kernel
theorem dX9_undo_33 : decode cX9_undo 33 = .ok (.aload_n 0, 1) := by decide +kernel
theorem dX9_undo_34 : decode cX9_undo 34 = .ok (.getfield 16, 3) := by decide +kernel
theorem dX9_undo_37 : decode cX9_undo 37 = .ok (.iload_n 1, 1) := by decide +kernel
theorem dX9_undo_38 : decode cX9_undo 38 = .ok (.aload_n 0, 1) := by decide +kernel
theorem dX9_undo_39 : decode cX9_undo 39 = .ok (.getfield 22, 3) := by decide +kernel
theorem dX9_undo_42 : decode cX9_undo 42 = .ok (.bipush 32, 2) := by decide +kernel
theorem dX9_undo_44 : decode cX9_undo 44 = .ok (.aload_n 0, 1) := by decide +kernel
theorem dX9_undo_45 : decode cX9_undo 45 = .ok (.getfield 137, 3) := by decide +kernel
theorem dX9_undo_48 : decode cX9_undo 48 = .ok (.imul, 1) := by decide +kernel
theorem dX9_undo_49 : decode cX9_undo 49 = .ok (.iload_n 1, 1) := by decide +kernel
theorem dX9_undo_50 : decode cX9_undo 50 = .ok (.iadd, 1) := by decide +kernel
theorem dX9_undo_51 : decode cX9_undo 51 = .ok (.iaload, 1) := by decide +kernel
theorem dX9_undo_52 : decode cX9_undo 52 = .ok (.iastore, 1) := by decide +kernel
theorem dX9_undo_53 : decode cX9_undo 53 = .ok (.iinc 1 1, 3) := by decide +kernel
theorem dX9_undo_56 : decode cX9_undo 56 = .ok (.goto (-29), 3) := by decide +kernel
theorem dX9_undo_59 : decode cX9_undo 59 = .ok (.aload_n 0, 1) := by decide +kernel
theorem dX9_undo_60 : decode cX9_undo 60 = .ok (.getfield 137, 3) := by decide +kernel
theorem dX9_undo_63 : decode cX9_undo 63 = .ok (.ireturn, 1) := by decide +kernel
theorem dX9_switches_0 : decode cX9_switches 0 = .ok (.aload_n 0, 1) := by decide +kernel
theorem dX9_switches_1 : decode cX9_switches 1 = .ok (.iconst 0, 1) := by decide +kernel
theorem dX9_switches_2 : decode cX9_switches 2 = .ok (.putfield 65, 3) := by decide +kernel
theorem dX9_switches_5 : decode cX9_switches 5 = .ok (.iload_n 1, 1) := by decide +kernel
theorem dX9_switches_6 : decode cX9_switches 6 = .ok (.i2l, 1) := by decide +kernel
theorem dX9_switches_7 : decode cX9_switches 7 = .ok (.lconst 0, 1) := by decide +kernel
theorem dX9_switches_8 : decode cX9_switches 8 = .ok (.lconst 1, 1) := by decide +kernel
theorem dX9_switches_9 : decode cX9_switches 9 = .ok (.invokestatic 77, 3) := by decide +kernel
theorem dX9_switches_12 : decode cX9_switches 12 = .ok (.ifCond .eq 11, 3) := by decide +kernel
theorem dX9_switches_15 : decode cX9_switches 15 = .ok (.aload_n 0, 1) := by decide +kernel
theorem dX9_switches_16 : decode cX9_switches 16 = .ok (.iload_n 1, 1) := by decide +kernel
theorem dX9_switches_17 : decode cX9_switches 17 = .ok (.invokevirtual 199, 3) := by decide +kernel
theorem dX9_switches_20 : decode cX9_switches 20 = .ok (.goto 5, 3) := by decide +kernel
theorem dX9_switches_23 : decode cX9_switches 23 = .ok (.bipush (-2), 2) := by decide +kernel
theorem dX9_switches_25 : decode cX9_switches 25 = .ok (.ireturn, 1) := by decide +kernel
theorem dX9_areFour_0 : decode cX9_areFour 0 = .ok (.iload_n 0, 1) := by decide +kernel
theorem dX9_areFour_1 : decode cX9_areFour 1 = .ok (.iload_n 0, 1) := by decide +kernel
theorem dX9_areFour_2 : decode cX9_areFour 2 = .ok (.iconst 1, 1) := by decide +kernel
theorem dX9_areFour_3 : decode cX9_areFour 3 = .ok (.isub, 1) := by decide +kernel
theorem dX9_areFour_4 : decode cX9_areFour 4 = .ok (.iand, 1) := by decide +kernel
theorem dX9_areFour_5 : decode cX9_areFour 5 = .ok (.istore_n 1, 1) := by decide +kernel
theorem dX9_areFour_6 : decode cX9_areFour 6 = .ok (.iload_n 1, 1) := by decide +kernel
theorem dX9_areFour_7 : decode cX9_areFour 7 = .ok (.iload_n 1, 1) := by decide +kernel
theorem dX9_areFour_8 : decode cX9_areFour 8 = .ok (.iconst 1, 1) := by decide +kernel
theorem dX9_areFour_9 : decode cX9_areFour 9 = .ok (.isub, 1) := by decide +kernel
theorem dX9_areFour_10 : decode cX9_areFour 10 = .ok (.iand, 1) := by decide +kernel
theorem dX9_areFour_11 : decode cX9_areFour 11 = .ok (.istore_n 1, 1) := by decide +kernel
theorem dX9_areFour_12 : decode cX9_areFour 12 = .ok (.iload_n 1, 1) := by decide +kernel
theorem dX9_areFour_13 : decode cX9_areFour 13 = .ok (.iload_n 1, 1) := by decide +kernel
theorem dX9_areFour_14 : decode cX9_areFour 14 = .ok (.iconst 1, 1) := by decide +kernel
theorem dX9_areFour_15 : decode cX9_areFour 15 = .ok (.isub, 1) := by decide +kernel
theorem dX9_areFour_16 : decode cX9_areFour 16 = .ok (.iand, 1) := by decide +kernel
theorem dX9_areFour_17 : decode cX9_areFour 17 = .ok (.istore_n 2, 1) := by decide +kernel
theorem dX9_areFour_18 : decode cX9_areFour 18 = .ok (.iload_n 2, 1) := by decide +kernel
theorem dX9_areFour_19 : decode cX9_areFour 19 = .ok (.ifCond .eq 15, 3) := by decide +kernel
theorem dX9_areFour_22 : decode cX9_areFour 22 = .ok (.iload_n 2, 1) := by decide +kernel
theorem dX9_areFour_23 : decode cX9_areFour 23 = .ok (.iload_n 2, 1) := by decide +kernel
theorem dX9_areFour_24 : decode cX9_areFour 24 = .ok (.iconst 1, 1) := by decide +kernel
theorem dX9_areFour_25 : decode cX9_areFour 25 = .ok (.isub, 1) := by decide +kernel
theorem dX9_areFour_26 : decode cX9_areFour 26 = .ok (.iand, 1) := by decide +kernel
theorem dX9_areFour_27 : decode cX9_areFour 27 = .ok (.ifCond .ne 7, 3) := by decide +kernel
theorem dX9_areFour_30 : decode cX9_areFour 30 = .ok (.iconst 1, 1) := by decide +kernel
theorem dX9_areFour_31 : decode cX9_areFour 31 = .ok (.goto 4, 3) := by decide +kernel
theorem dX9_areFour_34 : decode cX9_areFour 34 = .ok (.iconst 0, 1) := by decide +kernel
theorem dX9_areFour_35 : decode cX9_areFour 35 = .ok (.ireturn, 1) := by decide +kernel
theorem dX9_spread_0 : decode cX9_spread 0 = .ok (.aload_n 0, 1) := by decide +kernel
theorem dX9_spread_1 : decode cX9_spread 1 = .ok (.aload_n 0, 1) := by decide +kernel
theorem dX9_spread_2 : decode cX9_spread 2 = .ok (.getfield 16, 3) := by decide +kernel
theorem dX9_spread_5 : decode cX9_spread 5 = .ok (.iconst 1, 1) := by decide +kernel
theorem dX9_spread_6 : decode cX9_spread 6 = .ok (.invokevirtual 122, 3) := by decide +kernel
theorem dX9_spread_9 : decode cX9_spread 9 = .ok (.iconst 0, 1) := by decide +kernel
theorem dX9_spread_10 : decode cX9_spread 10 = .ok (.istore_n 1, 1) := by decide +kernel
theorem dX9_spread_11 : decode cX9_spread 11 = .ok (.iload_n 1, 1) := by decide +kernel
theorem dX9_spread_12 : decode cX9_spread 12 = .ok (.aload_n 0, 1) := by decide +kernel
theorem dX9_spread_13 : decode cX9_spread 13 = .ok (.getfield 112, 3) := by decide +kernel
theorem dX9_spread_16 : decode cX9_spread 16 = .ok (.if_icmp .ge 17, 3) := by decide +kernel
theorem dX9_spread_19 : decode cX9_spread 19 = .ok (.aload_n 0, 1) := by decide +kernel
theorem dX9_spread_20 : decode cX9_spread 20 = .ok (.getfield 47, 3) := by decide +kernel
theorem dX9_spread_23 : decode cX9_spread 23 = .ok (.iload_n 1, 1) := by decide +kernel
theorem dX9_spread_24 : decode cX9_spread 24 = .ok (.bipush (-9), 2) := by decide +kernel
theorem dX9_spread_26 : decode cX9_spread 26 = .ok (.iastore, 1) := by decide +kernel
theorem dX9_spread_27 : decode cX9_spread 27 = .ok (.iinc 1 1, 3) := by decide +kernel
theorem dX9_spread_30 : decode cX9_spread 30 = .ok (.goto (-19), 3) := by decide +kernel
theorem dX9_spread_33 : decode cX9_spread 33 = .ok (.aload_n 0, 1) := by decide +kernel
theorem dX9_spread_34 : decode cX9_spread 34 = .ok (.getfield 16, 3) := by decide +kernel
theorem dX9_spread_37 : decode cX9_spread 37 = .ok (.bipush 31, 2) := by decide +kernel
theorem dX9_spread_39 : decode cX9_spread 39 = .ok (.iaload, 1) := by decide +kernel
theorem dX9_spread_40 : decode cX9_spread 40 = .ok (.bipush (-9), 2) := by decide +kernel
theorem dX9_spread_42 : decode cX9_spread 42 = .ok (.if_icmp .ne 5, 3) := by decide +kernel
theorem dX9_spread_45 : decode cX9_spread 45 = .ok (.iconst 0, 1) := by decide +kernel
theorem dX9_spread_46 : decode cX9_spread 46 = .ok (.ireturn, 1) := by decide +kernel
theorem dX9_spread_47 : decode cX9_spread 47 = .ok (.aload_n 0, 1) := by decide +kernel
theorem dX9_spread_48 : decode cX9_spread 48 = .ok (.getfield 50, 3) := by decide +kernel
theorem dX9_spread_51 : decode cX9_spread 51 = .ok (.iconst 0, 1) := by decide +kernel
theorem dX9_spread_52 : decode cX9_spread 52 = .ok (.aload_n 0, 1) := by decide +kernel
theorem dX9_spread_53 : decode cX9_spread 53 = .ok (.aload_n 0, 1) := by decide +kernel
theorem dX9_spread_54 : decode cX9_spread 54 = .ok (.getfield 16, 3) := by decide +kernel
theorem dX9_spread_57 : decode cX9_spread 57 = .ok (.bipush 31, 2) := by decide +kernel
theorem dX9_spread_59 : decode cX9_spread 59 = .ok (.iaload, 1) := by decide +kernel
theorem dX9_spread_60 : decode cX9_spread 60 = .ok (.invokevirtual 126, 3) := by decide +kernel
theorem dX9_spread_63 : decode cX9_spread 63 = .ok (.iastore, 1) := by decide +kernel
theorem dX9_spread_64 : decode cX9_spread 64 = .ok (.aload_n 0, 1) := by decide +kernel
theorem dX9_spread_65 : decode cX9_spread 65 = .ok (.getfield 47, 3) := by decide +kernel
theorem dX9_spread_68 : decode cX9_spread 68 = .ok (.aload_n 0, 1) := by decide +kernel
theorem dX9_spread_69 : decode cX9_spread 69 = .ok (.getfield 50, 3) := by decide +kernel
theorem dX9_spread_72 : decode cX9_spread 72 = .ok (.iconst 0, 1) := by decide +kernel
theorem dX9_spread_73 : decode cX9_spread 73 = .ok (.iaload, 1) := by decide +kernel
theorem dX9_spread_74 : decode cX9_spread 74 = .ok (.iconst 0, 1) := by decide +kernel
theorem dX9_spread_75 : decode cX9_spread 75 = .ok (.iastore, 1) := by decide +kernel
theorem dX9_spread_76 : decode cX9_spread 76 = .ok (.iconst 1, 1) := by decide +kernel
theorem dX9_spread_77 : decode cX9_spread 77 = .ok (.istore_n 1, 1) := by decide +kernel
theorem dX9_spread_78 : decode cX9_spread 78 = .ok (.iconst 0, 1) := by decide +kernel
theorem dX9_spread_79 : decode cX9_spread 79 = .ok (.istore_n 2, 1) := by decide +kernel
theorem dX9_spread_80 : decode cX9_spread 80 = .ok (.iload_n 2, 1) := by decide +kernel
theorem dX9_spread_81 : decode cX9_spread 81 = .ok (.iload_n 1, 1) := by decide +kernel
theorem dX9_spread_82 : decode cX9_spread 82 = .ok (.if_icmp .ge 89, 3) := by decide +kernel
theorem dX9_spread_85 : decode cX9_spread 85 = .ok (.iconst 0, 1) := by decide +kernel
theorem dX9_spread_86 : decode cX9_spread 86 = .ok (.istore_n 3, 1) := by decide +kernel
theorem dX9_spread_87 : decode cX9_spread 87 = .ok (.iload_n 3, 1) := by decide +kernel
theorem dX9_spread_88 : decode cX9_spread 88 = .ok (.aload_n 0, 1) := by decide +kernel
theorem dX9_spread_89 : decode cX9_spread 89 = .ok (.getfield 112, 3) := by decide +kernel
theorem dX9_spread_92 : decode cX9_spread 92 = .ok (.if_icmp .ge 73, 3) := by decide +kernel
theorem dX9_spread_95 : decode cX9_spread 95 = .ok (.aload_n 0, 1) := by decide +kernel
theorem dX9_spread_96 : decode cX9_spread 96 = .ok (.getfield 47, 3) := by decide +kernel
theorem dX9_spread_99 : decode cX9_spread 99 = .ok (.iload_n 3, 1) := by decide +kernel
theorem dX9_spread_100 : decode cX9_spread 100 = .ok (.iaload, 1) := by decide +kernel
theorem dX9_spread_101 : decode cX9_spread 101 = .ok (.bipush (-9), 2) := by decide +kernel
theorem dX9_spread_103 : decode cX9_spread 103 = .ok (.if_icmp .ne 56, 3) := by decide +kernel
theorem dX9_spread_106 : decode cX9_spread 106 = .ok (.aload_n 0, 1) := by decide +kernel
theorem dX9_spread_107 : decode cX9_spread 107 = .ok (.getfield 44, 3) := by decide +kernel
theorem dX9_spread_110 : decode cX9_spread 110 = .ok (.iload_n 3, 1) := by decide +kernel
theorem dX9_spread_111 : decode cX9_spread 111 = .ok (.iaload, 1) := by decide +kernel
theorem dX9_spread_112 : decode cX9_spread 112 = .ok (.aload_n 0, 1) := by decide +kernel
theorem dX9_spread_113 : decode cX9_spread 113 = .ok (.getfield 44, 3) := by decide +kernel
theorem dX9_spread_116 : decode cX9_spread 116 = .ok (.aload_n 0, 1) := by decide +kernel
theorem dX9_spread_117 : decode cX9_spread 117 = .ok (.getfield 50, 3) := by decide +kernel
theorem dX9_spread_120 : decode cX9_spread 120 = .ok (.iload_n 2, 1) := by decide +kernel
theorem dX9_spread_121 : decode cX9_spread 121 = .ok (.iaload, 1) := by decide +kernel
theorem dX9_spread_122 : decode cX9_spread 122 = .ok (.iaload, 1) := by decide +kernel
theorem dX9_spread_123 : decode cX9_spread 123 = .ok (.ixor, 1) := by decide +kernel
theorem dX9_spread_124 : decode cX9_spread 124 = .ok (.invokestatic 205, 3) := by decide +kernel
theorem dX9_spread_127 : decode cX9_spread 127 = .ok (.ifCond .eq 32, 3) := by decide +kernel
theorem dX9_spread_130 : decode cX9_spread 130 = .ok (.aload_n 0, 1) := by decide +kernel
theorem dX9_spread_131 : decode cX9_spread 131 = .ok (.getfield 47, 3) := by decide +kernel
theorem dX9_spread_134 : decode cX9_spread 134 = .ok (.iload_n 3, 1) := by decide +kernel
theorem dX9_spread_135 : decode cX9_spread 135 = .ok (.aload_n 0, 1) := by decide +kernel
theorem dX9_spread_136 : decode cX9_spread 136 = .ok (.getfield 47, 3) := by decide +kernel
theorem dX9_spread_139 : decode cX9_spread 139 = .ok (.aload_n 0, 1) := by decide +kernel
theorem dX9_spread_140 : decode cX9_spread 140 = .ok (.getfield 50, 3) := by decide +kernel
theorem dX9_spread_143 : decode cX9_spread 143 = .ok (.iload_n 2, 1) := by decide +kernel
theorem dX9_spread_144 : decode cX9_spread 144 = .ok (.iaload, 1) := by decide +kernel
theorem dX9_spread_145 : decode cX9_spread 145 = .ok (.iaload, 1) := by decide +kernel
theorem dX9_spread_146 : decode cX9_spread 146 = .ok (.iconst 1, 1) := by decide +kernel
theorem dX9_spread_147 : decode cX9_spread 147 = .ok (.iadd, 1) := by decide +kernel
theorem dX9_spread_148 : decode cX9_spread 148 = .ok (.iastore, 1) := by decide +kernel
theorem dX9_spread_149 : decode cX9_spread 149 = .ok (.aload_n 0, 1) := by decide +kernel
theorem dX9_spread_150 : decode cX9_spread 150 = .ok (.getfield 50, 3) := by decide +kernel
theorem dX9_spread_153 : decode cX9_spread 153 = .ok (.iload_n 1, 1) := by decide +kernel
theorem dX9_spread_154 : decode cX9_spread 154 = .ok (.iload_n 3, 1) := by decide +kernel
theorem dX9_spread_155 : decode cX9_spread 155 = .ok (.iastore, 1) := by decide +kernel
theorem dX9_spread_156 : decode cX9_spread 156 = .ok (.iinc 1 1, 3) := by decide +kernel
theorem dX9_spread_159 : decode cX9_spread 159 = .ok (.iinc 3 1, 3) := by decide +kernel
theorem dX9_spread_162 : decode cX9_spread 162 = .ok (.goto (-75), 3) := by decide +kernel
theorem dX9_spread_165 : decode cX9_spread 165 = .ok (.iinc 2 1, 3) := by decide +kernel
theorem dX9_spread_168 : decode cX9_spread 168 = .ok (.goto (-88), 3) := by decide +kernel
theorem dX9_spread_171 : decode cX9_spread 171 = .ok (.iload_n 1, 1) := by decide +kernel
theorem dX9_spread_172 : decode cX9_spread 172 = .ok (.ireturn, 1) := by decide +kernel
theorem dX9_reached_0 : decode cX9_reached 0 = .ok (.aload_n 0, 1) := by decide +kernel
theorem dX9_reached_1 : decode cX9_reached 1 = .ok (.iconst 0, 1) := by decide +kernel
theorem dX9_reached_2 : decode cX9_reached 2 = .ok (.putfield 65, 3) := by decide +kernel
theorem dX9_reached_5 : decode cX9_reached 5 = .ok (.aload_n 0, 1) := by decide +kernel
theorem dX9_reached_6 : decode cX9_reached 6 = .ok (.invokevirtual 208, 3) := by decide +kernel
theorem dX9_reached_9 : decode cX9_reached 9 = .ok (.ireturn, 1) := by decide +kernel
theorem dX9_apart_0 : decode cX9_apart 0 = .ok (.aload_n 0, 1) := by decide +kernel
theorem dX9_apart_1 : decode cX9_apart 1 = .ok (.iconst 0, 1) := by decide +kernel
theorem dX9_apart_2 : decode cX9_apart 2 = .ok (.putfield 65, 3) := by decide +kernel
theorem dX9_apart_5 : decode cX9_apart 5 = .ok (.iload_n 1, 1) := by decide +kernel
theorem dX9_apart_6 : decode cX9_apart 6 = .ok (.i2l, 1) := by decide +kernel
theorem dX9_apart_7 : decode cX9_apart 7 = .ok (.lconst 0, 1) := by decide +kernel
theorem dX9_apart_8 : decode cX9_apart 8 = .ok (.lconst 1, 1) := by decide +kernel
theorem dX9_apart_9 : decode cX9_apart 9 = .ok (.invokestatic 77, 3) := by decide +kernel
theorem dX9_apart_12 : decode cX9_apart 12 = .ok (.ifCond .ne 5, 3) := by decide +kernel
theorem dX9_apart_15 : decode cX9_apart 15 = .ok (.iconst (-1), 1) := by decide +kernel
theorem dX9_apart_16 : decode cX9_apart 16 = .ok (.ireturn, 1) := by decide +kernel
theorem dX9_apart_17 : decode cX9_apart 17 = .ok (.aload_n 0, 1) := by decide +kernel
theorem dX9_apart_18 : decode cX9_apart 18 = .ok (.getfield 28, 3) := by decide +kernel
theorem dX9_apart_21 : decode cX9_apart 21 = .ok (.iload_n 1, 1) := by decide +kernel
theorem dX9_apart_22 : decode cX9_apart 22 = .ok (.baload, 1) := by decide +kernel
theorem dX9_apart_23 : decode cX9_apart 23 = .ok (.ifCond .ne 6, 3) := by decide +kernel
theorem dX9_apart_26 : decode cX9_apart 26 = .ok (.bipush (-3), 2) := by decide +kernel
theorem dX9_apart_28 : decode cX9_apart 28 = .ok (.ireturn, 1) := by decide +kernel
theorem dX9_apart_29 : decode cX9_apart 29 = .ok (.bipush 32, 2) := by decide +kernel
theorem dX9_apart_31 : decode cX9_apart 31 = .ok (.iload_n 1, 1) := by decide +kernel
theorem dX9_apart_32 : decode cX9_apart 32 = .ok (.imul, 1) := by decide +kernel
theorem dX9_apart_33 : decode cX9_apart 33 = .ok (.istore_n 2, 1) := by decide +kernel
theorem dX9_apart_34 : decode cX9_apart 34 = .ok (.aload_n 0, 1) := by decide +kernel
theorem dX9_apart_35 : decode cX9_apart 35 = .ok (.getfield 25, 3) := by decide +kernel
theorem dX9_apart_38 : decode cX9_apart 38 = .ok (.iload_n 2, 1) := by decide +kernel
theorem dX9_apart_39 : decode cX9_apart 39 = .ok (.bipush 31, 2) := by decide +kernel
theorem dX9_apart_41 : decode cX9_apart 41 = .ok (.iadd, 1) := by decide +kernel
theorem dX9_apart_42 : decode cX9_apart 42 = .ok (.iaload, 1) := by decide +kernel
theorem dX9_apart_43 : decode cX9_apart 43 = .ok (.istore_n 3, 1) := by decide +kernel
theorem dX9_apart_44 : decode cX9_apart 44 = .ok (.aload_n 0, 1) := by decide +kernel
theorem dX9_apart_45 : decode cX9_apart 45 = .ok (.getfield 25, 3) := by decide +kernel
theorem dX9_apart_48 : decode cX9_apart 48 = .ok (.iload_n 2, 1) := by decide +kernel
theorem dX9_apart_49 : decode cX9_apart 49 = .ok (.iaload, 1) := by decide +kernel
theorem dX9_apart_50 : decode cX9_apart 50 = .ok (.aload_n 0, 1) := by decide +kernel
theorem dX9_apart_51 : decode cX9_apart 51 = .ok (.getfield 16, 3) := by decide +kernel
theorem dX9_apart_54 : decode cX9_apart 54 = .ok (.iconst 0, 1) := by decide +kernel
theorem dX9_apart_55 : decode cX9_apart 55 = .ok (.iaload, 1) := by decide +kernel
theorem dX9_apart_56 : decode cX9_apart 56 = .ok (.if_icmp .ne 38, 3) := by decide +kernel
theorem dX9_apart_59 : decode cX9_apart 59 = .ok (.aload_n 0, 1) := by decide +kernel
theorem dX9_apart_60 : decode cX9_apart 60 = .ok (.getfield 25, 3) := by decide +kernel
theorem dX9_apart_63 : decode cX9_apart 63 = .ok (.iload_n 2, 1) := by decide +kernel
theorem dX9_apart_64 : decode cX9_apart 64 = .ok (.iconst 1, 1) := by decide +kernel
theorem dX9_apart_65 : decode cX9_apart 65 = .ok (.iadd, 1) := by decide +kernel
theorem dX9_apart_66 : decode cX9_apart 66 = .ok (.iaload, 1) := by decide +kernel
theorem dX9_apart_67 : decode cX9_apart 67 = .ok (.aload_n 0, 1) := by decide +kernel
theorem dX9_apart_68 : decode cX9_apart 68 = .ok (.getfield 16, 3) := by decide +kernel
theorem dX9_apart_71 : decode cX9_apart 71 = .ok (.iconst 1, 1) := by decide +kernel
theorem dX9_apart_72 : decode cX9_apart 72 = .ok (.iaload, 1) := by decide +kernel
theorem dX9_apart_73 : decode cX9_apart 73 = .ok (.if_icmp .ne 21, 3) := by decide +kernel
theorem dX9_apart_76 : decode cX9_apart 76 = .ok (.iload_n 3, 1) := by decide +kernel
theorem dX9_apart_77 : decode cX9_apart 77 = .ok (.bipush (-9), 2) := by decide +kernel
theorem dX9_apart_79 : decode cX9_apart 79 = .ok (.if_icmp .eq 15, 3) := by decide +kernel
theorem dX9_apart_82 : decode cX9_apart 82 = .ok (.aload_n 0, 1) := by decide +kernel
