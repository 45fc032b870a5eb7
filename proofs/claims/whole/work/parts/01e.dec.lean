theorem dX9_apart_83 : decode cX9_apart 83 = .ok (.getfield 16, 3) := by decide +kernel
theorem dX9_apart_86 : decode cX9_apart 86 = .ok (.bipush 31, 2) := by decide +kernel
theorem dX9_apart_88 : decode cX9_apart 88 = .ok (.iaload, 1) := by decide +kernel
theorem dX9_apart_89 : decode cX9_apart 89 = .ok (.bipush (-9), 2) := by decide +kernel
theorem dX9_apart_91 : decode cX9_apart 91 = .ok (.if_icmp .ne 6, 3) := by decide +kernel
theorem dX9_apart_94 : decode cX9_apart 94 = .ok (.bipush (-9), 2) := by decide +kernel
theorem dX9_apart_96 : decode cX9_apart 96 = .ok (.ireturn, 1) := by decide +kernel
theorem dX9_apart_97 : decode cX9_apart 97 = .ok (.aload_n 0, 1) := by decide +kernel
theorem dX9_apart_98 : decode cX9_apart 98 = .ok (.invokevirtual 208, 3) := by decide +kernel
theorem dX9_apart_101 : decode cX9_apart 101 = .ok (.pop, 1) := by decide +kernel
theorem dX9_apart_102 : decode cX9_apart 102 = .ok (.aload_n 0, 1) := by decide +kernel
theorem dX9_apart_103 : decode cX9_apart 103 = .ok (.iload_n 3, 1) := by decide +kernel
theorem dX9_apart_104 : decode cX9_apart 104 = .ok (.invokevirtual 126, 3) := by decide +kernel
theorem dX9_apart_107 : decode cX9_apart 107 = .ok (.istore 4, 2) := by decide +kernel
theorem dX9_apart_109 : decode cX9_apart 109 = .ok (.iload 4, 2) := by decide +kernel
theorem dX9_apart_111 : decode cX9_apart 111 = .ok (.bipush (-9), 2) := by decide +kernel
theorem dX9_apart_113 : decode cX9_apart 113 = .ok (.if_icmp .ne 8, 3) := by decide +kernel
theorem dX9_apart_116 : decode cX9_apart 116 = .ok (.bipush (-9), 2) := by decide +kernel
theorem dX9_apart_118 : decode cX9_apart 118 = .ok (.goto 10, 3) := by decide +kernel
theorem dX9_apart_121 : decode cX9_apart 121 = .ok (.aload_n 0, 1) := by decide +kernel
theorem dX9_apart_122 : decode cX9_apart 122 = .ok (.getfield 47, 3) := by decide +kernel
theorem dX9_apart_125 : decode cX9_apart 125 = .ok (.iload 4, 2) := by decide +kernel
theorem dX9_apart_127 : decode cX9_apart 127 = .ok (.iaload, 1) := by decide +kernel
theorem dX9_apart_128 : decode cX9_apart 128 = .ok (.ireturn, 1) := by decide +kernel
theorem dX9_tells_0 : decode cX9_tells 0 = .ok (.iconst 0, 1) := by decide +kernel
theorem dX9_tells_1 : decode cX9_tells 1 = .ok (.istore_n 2, 1) := by decide +kernel
theorem dX9_tells_2 : decode cX9_tells 2 = .ok (.iconst 0, 1) := by decide +kernel
theorem dX9_tells_3 : decode cX9_tells 3 = .ok (.istore_n 3, 1) := by decide +kernel
theorem dX9_tells_4 : decode cX9_tells 4 = .ok (.iload_n 3, 1) := by decide +kernel
theorem dX9_tells_5 : decode cX9_tells 5 = .ok (.aload_n 0, 1) := by decide +kernel
theorem dX9_tells_6 : decode cX9_tells 6 = .ok (.getfield 112, 3) := by decide +kernel
theorem dX9_tells_9 : decode cX9_tells 9 = .ok (.if_icmp .ge 36, 3) := by decide +kernel
theorem dX9_tells_12 : decode cX9_tells 12 = .ok (.iload_n 2, 1) := by decide +kernel
theorem dX9_tells_13 : decode cX9_tells 13 = .ok (.aload_n 0, 1) := by decide +kernel
theorem dX9_tells_14 : decode cX9_tells 14 = .ok (.getfield 44, 3) := by decide +kernel
theorem dX9_tells_17 : decode cX9_tells 17 = .ok (.iload_n 3, 1) := by decide +kernel
theorem dX9_tells_18 : decode cX9_tells 18 = .ok (.iaload, 1) := by decide +kernel
theorem dX9_tells_19 : decode cX9_tells 19 = .ok (.aload_n 0, 1) := by decide +kernel
theorem dX9_tells_20 : decode cX9_tells 20 = .ok (.getfield 16, 3) := by decide +kernel
theorem dX9_tells_23 : decode cX9_tells 23 = .ok (.bipush 31, 2) := by decide +kernel
theorem dX9_tells_25 : decode cX9_tells 25 = .ok (.iaload, 1) := by decide +kernel
theorem dX9_tells_26 : decode cX9_tells 26 = .ok (.ixor, 1) := by decide +kernel
theorem dX9_tells_27 : decode cX9_tells 27 = .ok (.iload_n 1, 1) := by decide +kernel
theorem dX9_tells_28 : decode cX9_tells 28 = .ok (.iand, 1) := by decide +kernel
theorem dX9_tells_29 : decode cX9_tells 29 = .ok (.ifCond .ne 7, 3) := by decide +kernel
theorem dX9_tells_32 : decode cX9_tells 32 = .ok (.iconst 1, 1) := by decide +kernel
theorem dX9_tells_33 : decode cX9_tells 33 = .ok (.goto 4, 3) := by decide +kernel
theorem dX9_tells_36 : decode cX9_tells 36 = .ok (.iconst 0, 1) := by decide +kernel
theorem dX9_tells_37 : decode cX9_tells 37 = .ok (.iadd, 1) := by decide +kernel
theorem dX9_tells_38 : decode cX9_tells 38 = .ok (.istore_n 2, 1) := by decide +kernel
theorem dX9_tells_39 : decode cX9_tells 39 = .ok (.iinc 3 1, 3) := by decide +kernel
theorem dX9_tells_42 : decode cX9_tells 42 = .ok (.goto (-38), 3) := by decide +kernel
theorem dX9_tells_45 : decode cX9_tells 45 = .ok (.iload_n 2, 1) := by decide +kernel
theorem dX9_tells_46 : decode cX9_tells 46 = .ok (.iconst 1, 1) := by decide +kernel
theorem dX9_tells_47 : decode cX9_tells 47 = .ok (.if_icmp .ne 7, 3) := by decide +kernel
theorem dX9_tells_50 : decode cX9_tells 50 = .ok (.iconst 1, 1) := by decide +kernel
theorem dX9_tells_51 : decode cX9_tells 51 = .ok (.goto 4, 3) := by decide +kernel
theorem dX9_tells_54 : decode cX9_tells 54 = .ok (.iconst 0, 1) := by decide +kernel
theorem dX9_tells_55 : decode cX9_tells 55 = .ok (.ireturn, 1) := by decide +kernel
theorem dX9_cellBit_0 : decode cX9_cellBit 0 = .ok (.iconst 1, 1) := by decide +kernel
theorem dX9_cellBit_1 : decode cX9_cellBit 1 = .ok (.aload_n 0, 1) := by decide +kernel
theorem dX9_cellBit_2 : decode cX9_cellBit 2 = .ok (.getfield 16, 3) := by decide +kernel
theorem dX9_cellBit_5 : decode cX9_cellBit 5 = .ok (.invokestatic 69, 3) := by decide +kernel
theorem dX9_cellBit_8 : decode cX9_cellBit 8 = .ok (.iconst 1, 1) := by decide +kernel
theorem dX9_cellBit_9 : decode cX9_cellBit 9 = .ok (.isub, 1) := by decide +kernel
theorem dX9_cellBit_10 : decode cX9_cellBit 10 = .ok (.iload_n 1, 1) := by decide +kernel
theorem dX9_cellBit_11 : decode cX9_cellBit 11 = .ok (.isub, 1) := by decide +kernel
theorem dX9_cellBit_12 : decode cX9_cellBit 12 = .ok (.ishl, 1) := by decide +kernel
theorem dX9_cellBit_13 : decode cX9_cellBit 13 = .ok (.ireturn, 1) := by decide +kernel
theorem dX9_findKey_0 : decode cX9_findKey 0 = .ok (.aload_n 0, 1) := by decide +kernel
theorem dX9_findKey_1 : decode cX9_findKey 1 = .ok (.getfield 16, 3) := by decide +kernel
theorem dX9_findKey_4 : decode cX9_findKey 4 = .ok (.invokestatic 69, 3) := by decide +kernel
theorem dX9_findKey_7 : decode cX9_findKey 7 = .ok (.istore_n 1, 1) := by decide +kernel
theorem dX9_findKey_8 : decode cX9_findKey 8 = .ok (.aload_n 0, 1) := by decide +kernel
theorem dX9_findKey_9 : decode cX9_findKey 9 = .ok (.aload_n 0, 1) := by decide +kernel
theorem dX9_findKey_10 : decode cX9_findKey 10 = .ok (.iconst 0, 1) := by decide +kernel
theorem dX9_findKey_11 : decode cX9_findKey 11 = .ok (.invokevirtual 211, 3) := by decide +kernel
theorem dX9_findKey_14 : decode cX9_findKey 14 = .ok (.ifCond .eq 7, 3) := by decide +kernel
theorem dX9_findKey_17 : decode cX9_findKey 17 = .ok (.iconst 0, 1) := by decide +kernel
theorem dX9_findKey_18 : decode cX9_findKey 18 = .ok (.goto 5, 3) := by decide +kernel
theorem dX9_findKey_21 : decode cX9_findKey 21 = .ok (.bipush (-9), 2) := by decide +kernel
theorem dX9_findKey_23 : decode cX9_findKey 23 = .ok (.putfield 214, 3) := by decide +kernel
theorem dX9_findKey_26 : decode cX9_findKey 26 = .ok (.aload_n 0, 1) := by decide +kernel
theorem dX9_findKey_27 : decode cX9_findKey 27 = .ok (.aload_n 0, 1) := by decide +kernel
theorem dX9_findKey_28 : decode cX9_findKey 28 = .ok (.getfield 214, 3) := by decide +kernel
theorem dX9_findKey_31 : decode cX9_findKey 31 = .ok (.putfield 217, 3) := by decide +kernel
theorem dX9_findKey_34 : decode cX9_findKey 34 = .ok (.iconst 0, 1) := by decide +kernel
theorem dX9_findKey_35 : decode cX9_findKey 35 = .ok (.istore_n 2, 1) := by decide +kernel
theorem dX9_findKey_36 : decode cX9_findKey 36 = .ok (.iload_n 2, 1) := by decide +kernel
theorem dX9_findKey_37 : decode cX9_findKey 37 = .ok (.iload_n 1, 1) := by decide +kernel
theorem dX9_findKey_38 : decode cX9_findKey 38 = .ok (.if_icmp .ge 42, 3) := by decide +kernel
theorem dX9_findKey_41 : decode cX9_findKey 41 = .ok (.aload_n 0, 1) := by decide +kernel
theorem dX9_findKey_42 : decode cX9_findKey 42 = .ok (.getfield 214, 3) := by decide +kernel
theorem dX9_findKey_45 : decode cX9_findKey 45 = .ok (.bipush (-9), 2) := by decide +kernel
theorem dX9_findKey_47 : decode cX9_findKey 47 = .ok (.if_icmp .ne 33, 3) := by decide +kernel
theorem dX9_findKey_50 : decode cX9_findKey 50 = .ok (.aload_n 0, 1) := by decide +kernel
theorem dX9_findKey_51 : decode cX9_findKey 51 = .ok (.aload_n 0, 1) := by decide +kernel
theorem dX9_findKey_52 : decode cX9_findKey 52 = .ok (.iload_n 2, 1) := by decide +kernel
theorem dX9_findKey_53 : decode cX9_findKey 53 = .ok (.invokevirtual 220, 3) := by decide +kernel
theorem dX9_findKey_56 : decode cX9_findKey 56 = .ok (.invokevirtual 211, 3) := by decide +kernel
theorem dX9_findKey_59 : decode cX9_findKey 59 = .ok (.ifCond .eq 15, 3) := by decide +kernel
theorem dX9_findKey_62 : decode cX9_findKey 62 = .ok (.aload_n 0, 1) := by decide +kernel
theorem dX9_findKey_63 : decode cX9_findKey 63 = .ok (.iconst 1, 1) := by decide +kernel
theorem dX9_findKey_64 : decode cX9_findKey 64 = .ok (.putfield 214, 3) := by decide +kernel
theorem dX9_findKey_67 : decode cX9_findKey 67 = .ok (.aload_n 0, 1) := by decide +kernel
theorem dX9_findKey_68 : decode cX9_findKey 68 = .ok (.iload_n 2, 1) := by decide +kernel
theorem dX9_findKey_69 : decode cX9_findKey 69 = .ok (.iconst 1, 1) := by decide +kernel
theorem dX9_findKey_70 : decode cX9_findKey 70 = .ok (.iadd, 1) := by decide +kernel
theorem dX9_findKey_71 : decode cX9_findKey 71 = .ok (.putfield 217, 3) := by decide +kernel
theorem dX9_findKey_74 : decode cX9_findKey 74 = .ok (.iinc 2 1, 3) := by decide +kernel
theorem dX9_findKey_77 : decode cX9_findKey 77 = .ok (.goto (-41), 3) := by decide +kernel
theorem dX9_findKey_80 : decode cX9_findKey 80 = .ok (.iconst 0, 1) := by decide +kernel
theorem dX9_findKey_81 : decode cX9_findKey 81 = .ok (.istore_n 2, 1) := by decide +kernel
theorem dX9_findKey_82 : decode cX9_findKey 82 = .ok (.iload_n 2, 1) := by decide +kernel
theorem dX9_findKey_83 : decode cX9_findKey 83 = .ok (.iload_n 1, 1) := by decide +kernel
theorem dX9_findKey_84 : decode cX9_findKey 84 = .ok (.if_icmp .ge 79, 3) := by decide +kernel
theorem dX9_findKey_87 : decode cX9_findKey 87 = .ok (.aload_n 0, 1) := by decide +kernel
theorem dX9_findKey_88 : decode cX9_findKey 88 = .ok (.getfield 214, 3) := by decide +kernel
theorem dX9_findKey_91 : decode cX9_findKey 91 = .ok (.bipush (-9), 2) := by decide +kernel
theorem dX9_findKey_93 : decode cX9_findKey 93 = .ok (.if_icmp .ne 70, 3) := by decide +kernel
theorem dX9_findKey_96 : decode cX9_findKey 96 = .ok (.iload_n 2, 1) := by decide +kernel
theorem dX9_findKey_97 : decode cX9_findKey 97 = .ok (.iconst 1, 1) := by decide +kernel
theorem dX9_findKey_98 : decode cX9_findKey 98 = .ok (.iadd, 1) := by decide +kernel
theorem dX9_findKey_99 : decode cX9_findKey 99 = .ok (.istore_n 3, 1) := by decide +kernel
theorem dX9_findKey_100 : decode cX9_findKey 100 = .ok (.iload_n 3, 1) := by decide +kernel
theorem dX9_findKey_101 : decode cX9_findKey 101 = .ok (.iload_n 1, 1) := by decide +kernel
theorem dX9_findKey_102 : decode cX9_findKey 102 = .ok (.if_icmp .ge 55, 3) := by decide +kernel
theorem dX9_findKey_105 : decode cX9_findKey 105 = .ok (.aload_n 0, 1) := by decide +kernel
theorem dX9_findKey_106 : decode cX9_findKey 106 = .ok (.getfield 214, 3) := by decide +kernel
theorem dX9_findKey_109 : decode cX9_findKey 109 = .ok (.bipush (-9), 2) := by decide +kernel
theorem dX9_findKey_111 : decode cX9_findKey 111 = .ok (.if_icmp .ne 46, 3) := by decide +kernel
theorem dX9_findKey_114 : decode cX9_findKey 114 = .ok (.aload_n 0, 1) := by decide +kernel
theorem dX9_findKey_115 : decode cX9_findKey 115 = .ok (.aload_n 0, 1) := by decide +kernel
theorem dX9_findKey_116 : decode cX9_findKey 116 = .ok (.iload_n 2, 1) := by decide +kernel
theorem dX9_findKey_117 : decode cX9_findKey 117 = .ok (.invokevirtual 220, 3) := by decide +kernel
theorem dX9_findKey_120 : decode cX9_findKey 120 = .ok (.aload_n 0, 1) := by decide +kernel
theorem dX9_findKey_121 : decode cX9_findKey 121 = .ok (.iload_n 3, 1) := by decide +kernel
theorem dX9_findKey_122 : decode cX9_findKey 122 = .ok (.invokevirtual 220, 3) := by decide +kernel
theorem dX9_findKey_125 : decode cX9_findKey 125 = .ok (.ior, 1) := by decide +kernel
theorem dX9_findKey_126 : decode cX9_findKey 126 = .ok (.invokevirtual 211, 3) := by decide +kernel
theorem dX9_findKey_129 : decode cX9_findKey 129 = .ok (.ifCond .eq 22, 3) := by decide +kernel
theorem dX9_findKey_132 : decode cX9_findKey 132 = .ok (.aload_n 0, 1) := by decide +kernel
theorem dX9_findKey_133 : decode cX9_findKey 133 = .ok (.iconst 2, 1) := by decide +kernel
theorem dX9_findKey_134 : decode cX9_findKey 134 = .ok (.putfield 214, 3) := by decide +kernel
theorem dX9_findKey_137 : decode cX9_findKey 137 = .ok (.aload_n 0, 1) := by decide +kernel
theorem dX9_findKey_138 : decode cX9_findKey 138 = .ok (.bipush 100, 2) := by decide +kernel
theorem dX9_findKey_140 : decode cX9_findKey 140 = .ok (.iload_n 2, 1) := by decide +kernel
theorem dX9_findKey_141 : decode cX9_findKey 141 = .ok (.iconst 1, 1) := by decide +kernel
theorem dX9_findKey_142 : decode cX9_findKey 142 = .ok (.iadd, 1) := by decide +kernel
theorem dX9_findKey_143 : decode cX9_findKey 143 = .ok (.imul, 1) := by decide +kernel
theorem dX9_findKey_144 : decode cX9_findKey 144 = .ok (.iload_n 3, 1) := by decide +kernel
theorem dX9_findKey_145 : decode cX9_findKey 145 = .ok (.iadd, 1) := by decide +kernel
theorem dX9_findKey_146 : decode cX9_findKey 146 = .ok (.iconst 1, 1) := by decide +kernel
theorem dX9_findKey_147 : decode cX9_findKey 147 = .ok (.iadd, 1) := by decide +kernel
theorem dX9_findKey_148 : decode cX9_findKey 148 = .ok (.putfield 217, 3) := by decide +kernel
theorem dX9_findKey_151 : decode cX9_findKey 151 = .ok (.iinc 3 1, 3) := by decide +kernel
theorem dX9_findKey_154 : decode cX9_findKey 154 = .ok (.goto (-54), 3) := by decide +kernel
theorem dX9_findKey_157 : decode cX9_findKey 157 = .ok (.iinc 2 1, 3) := by decide +kernel
theorem dX9_findKey_160 : decode cX9_findKey 160 = .ok (.goto (-78), 3) := by decide +kernel
theorem dX9_findKey_163 : decode cX9_findKey 163 = .ok (.iconst 0, 1) := by decide +kernel
theorem dX9_findKey_164 : decode cX9_findKey 164 = .ok (.istore_n 2, 1) := by decide +kernel
theorem dX9_findKey_165 : decode cX9_findKey 165 = .ok (.iload_n 2, 1) := by decide +kernel
theorem dX9_findKey_166 : decode cX9_findKey 166 = .ok (.iload_n 1, 1) := by decide +kernel
theorem dX9_findKey_167 : decode cX9_findKey 167 = .ok (.iload_n 1, 1) := by decide +kernel
theorem dX9_findKey_168 : decode cX9_findKey 168 = .ok (.imul, 1) := by decide +kernel
theorem dX9_findKey_169 : decode cX9_findKey 169 = .ok (.iload_n 1, 1) := by decide +kernel
theorem dX9_findKey_170 : decode cX9_findKey 170 = .ok (.imul, 1) := by decide +kernel
theorem dX9_findKey_171 : decode cX9_findKey 171 = .ok (.if_icmp .ge 104, 3) := by decide +kernel
theorem dX9_findKey_174 : decode cX9_findKey 174 = .ok (.aload_n 0, 1) := by decide +kernel
theorem dX9_findKey_175 : decode cX9_findKey 175 = .ok (.getfield 214, 3) := by decide +kernel
theorem dX9_findKey_178 : decode cX9_findKey 178 = .ok (.bipush (-9), 2) := by decide +kernel
theorem dX9_findKey_180 : decode cX9_findKey 180 = .ok (.if_icmp .ne 95, 3) := by decide +kernel
theorem dX9_findKey_183 : decode cX9_findKey 183 = .ok (.iload_n 2, 1) := by decide +kernel
theorem dX9_findKey_184 : decode cX9_findKey 184 = .ok (.iload_n 1, 1) := by decide +kernel
theorem dX9_findKey_185 : decode cX9_findKey 185 = .ok (.iload_n 1, 1) := by decide +kernel
theorem dX9_findKey_186 : decode cX9_findKey 186 = .ok (.imul, 1) := by decide +kernel
theorem dX9_findKey_187 : decode cX9_findKey 187 = .ok (.idiv, 1) := by decide +kernel
theorem dX9_findKey_188 : decode cX9_findKey 188 = .ok (.istore_n 3, 1) := by decide +kernel
theorem dX9_findKey_189 : decode cX9_findKey 189 = .ok (.iload_n 2, 1) := by decide +kernel
theorem dX9_findKey_190 : decode cX9_findKey 190 = .ok (.iload_n 1, 1) := by decide +kernel
theorem dX9_findKey_191 : decode cX9_findKey 191 = .ok (.idiv, 1) := by decide +kernel
theorem dX9_findKey_192 : decode cX9_findKey 192 = .ok (.iload_n 1, 1) := by decide +kernel
theorem dX9_findKey_193 : decode cX9_findKey 193 = .ok (.irem, 1) := by decide +kernel
theorem dX9_findKey_194 : decode cX9_findKey 194 = .ok (.istore 4, 2) := by decide +kernel
theorem dX9_findKey_196 : decode cX9_findKey 196 = .ok (.iload_n 2, 1) := by decide +kernel
theorem dX9_findKey_197 : decode cX9_findKey 197 = .ok (.iload_n 1, 1) := by decide +kernel
theorem dX9_findKey_198 : decode cX9_findKey 198 = .ok (.irem, 1) := by decide +kernel
theorem dX9_findKey_199 : decode cX9_findKey 199 = .ok (.istore 5, 2) := by decide +kernel
theorem dX9_findKey_201 : decode cX9_findKey 201 = .ok (.iload_n 3, 1) := by decide +kernel
theorem dX9_findKey_202 : decode cX9_findKey 202 = .ok (.iload 4, 2) := by decide +kernel
theorem dX9_findKey_204 : decode cX9_findKey 204 = .ok (.if_icmp .ge 65, 3) := by decide +kernel
theorem dX9_findKey_207 : decode cX9_findKey 207 = .ok (.iload 4, 2) := by decide +kernel
theorem dX9_findKey_209 : decode cX9_findKey 209 = .ok (.iload 5, 2) := by decide +kernel
theorem dX9_findKey_211 : decode cX9_findKey 211 = .ok (.if_icmp .ge 58, 3) := by decide +kernel
theorem dX9_findKey_214 : decode cX9_findKey 214 = .ok (.aload_n 0, 1) := by decide +kernel
theorem dX9_findKey_215 : decode cX9_findKey 215 = .ok (.aload_n 0, 1) := by decide +kernel
theorem dX9_findKey_216 : decode cX9_findKey 216 = .ok (.iload_n 3, 1) := by decide +kernel
theorem dX9_findKey_217 : decode cX9_findKey 217 = .ok (.invokevirtual 220, 3) := by decide +kernel
theorem dX9_findKey_220 : decode cX9_findKey 220 = .ok (.aload_n 0, 1) := by decide +kernel
theorem dX9_findKey_221 : decode cX9_findKey 221 = .ok (.iload 4, 2) := by decide +kernel
theorem dX9_findKey_223 : decode cX9_findKey 223 = .ok (.invokevirtual 220, 3) := by decide +kernel
theorem dX9_findKey_226 : decode cX9_findKey 226 = .ok (.ior, 1) := by decide +kernel
theorem dX9_findKey_227 : decode cX9_findKey 227 = .ok (.aload_n 0, 1) := by decide +kernel
theorem dX9_findKey_228 : decode cX9_findKey 228 = .ok (.iload 5, 2) := by decide +kernel
theorem dX9_findKey_230 : decode cX9_findKey 230 = .ok (.invokevirtual 220, 3) := by decide +kernel
theorem dX9_findKey_233 : decode cX9_findKey 233 = .ok (.ior, 1) := by decide +kernel
theorem dX9_findKey_234 : decode cX9_findKey 234 = .ok (.invokevirtual 211, 3) := by decide +kernel
theorem dX9_findKey_237 : decode cX9_findKey 237 = .ok (.ifCond .eq 32, 3) := by decide +kernel
theorem dX9_findKey_240 : decode cX9_findKey 240 = .ok (.aload_n 0, 1) := by decide +kernel
theorem dX9_findKey_241 : decode cX9_findKey 241 = .ok (.iconst 3, 1) := by decide +kernel
theorem dX9_findKey_242 : decode cX9_findKey 242 = .ok (.putfield 214, 3) := by decide +kernel
theorem dX9_findKey_245 : decode cX9_findKey 245 = .ok (.aload_n 0, 1) := by decide +kernel
theorem dX9_findKey_246 : decode cX9_findKey 246 = .ok (.sipush 10000, 3) := by decide +kernel
theorem dX9_findKey_249 : decode cX9_findKey 249 = .ok (.iload_n 3, 1) := by decide +kernel
theorem dX9_findKey_250 : decode cX9_findKey 250 = .ok (.iconst 1, 1) := by decide +kernel
theorem dX9_findKey_251 : decode cX9_findKey 251 = .ok (.iadd, 1) := by decide +kernel
theorem dX9_findKey_252 : decode cX9_findKey 252 = .ok (.imul, 1) := by decide +kernel
theorem dX9_findKey_253 : decode cX9_findKey 253 = .ok (.bipush 100, 2) := by decide +kernel
theorem dX9_findKey_255 : decode cX9_findKey 255 = .ok (.iload 4, 2) := by decide +kernel
theorem dX9_findKey_257 : decode cX9_findKey 257 = .ok (.iconst 1, 1) := by decide +kernel
theorem dX9_findKey_258 : decode cX9_findKey 258 = .ok (.iadd, 1) := by decide +kernel
theorem dX9_findKey_259 : decode cX9_findKey 259 = .ok (.imul, 1) := by decide +kernel
theorem dX9_findKey_260 : decode cX9_findKey 260 = .ok (.iadd, 1) := by decide +kernel
theorem dX9_findKey_261 : decode cX9_findKey 261 = .ok (.iload 5, 2) := by decide +kernel
theorem dX9_findKey_263 : decode cX9_findKey 263 = .ok (.iadd, 1) := by decide +kernel
theorem dX9_findKey_264 : decode cX9_findKey 264 = .ok (.iconst 1, 1) := by decide +kernel
theorem dX9_findKey_265 : decode cX9_findKey 265 = .ok (.iadd, 1) := by decide +kernel
theorem dX9_findKey_266 : decode cX9_findKey 266 = .ok (.putfield 217, 3) := by decide +kernel
theorem dX9_findKey_269 : decode cX9_findKey 269 = .ok (.iinc 2 1, 3) := by decide +kernel
theorem dX9_findKey_272 : decode cX9_findKey 272 = .ok (.goto (-107), 3) := by decide +kernel
theorem dX9_findKey_275 : decode cX9_findKey 275 = .ok (.return_, 1) := by decide +kernel
theorem dX9_key_0 : decode cX9_key 0 = .ok (.aload_n 0, 1) := by decide +kernel
theorem dX9_key_1 : decode cX9_key 1 = .ok (.iconst 0, 1) := by decide +kernel
theorem dX9_key_2 : decode cX9_key 2 = .ok (.putfield 65, 3) := by decide +kernel
theorem dX9_key_5 : decode cX9_key 5 = .ok (.iload_n 1, 1) := by decide +kernel
theorem dX9_key_6 : decode cX9_key 6 = .ok (.i2l, 1) := by decide +kernel
theorem dX9_key_7 : decode cX9_key 7 = .ok (.lconst 0, 1) := by decide +kernel
theorem dX9_key_8 : decode cX9_key 8 = .ok (.lconst 1, 1) := by decide +kernel
theorem dX9_key_9 : decode cX9_key 9 = .ok (.invokestatic 77, 3) := by decide +kernel
theorem dX9_key_12 : decode cX9_key 12 = .ok (.ifCond .ne 6, 3) := by decide +kernel
theorem dX9_key_15 : decode cX9_key 15 = .ok (.bipush (-2), 2) := by decide +kernel
theorem dX9_key_17 : decode cX9_key 17 = .ok (.ireturn, 1) := by decide +kernel
theorem dX9_key_18 : decode cX9_key 18 = .ok (.aload_n 0, 1) := by decide +kernel
theorem dX9_key_19 : decode cX9_key 19 = .ok (.aload_n 0, 1) := by decide +kernel
theorem dX9_key_20 : decode cX9_key 20 = .ok (.getfield 16, 3) := by decide +kernel
theorem dX9_key_23 : decode cX9_key 23 = .ok (.iconst 1, 1) := by decide +kernel
theorem dX9_key_24 : decode cX9_key 24 = .ok (.invokevirtual 122, 3) := by decide +kernel
theorem dX9_key_27 : decode cX9_key 27 = .ok (.aload_n 0, 1) := by decide +kernel
theorem dX9_key_28 : decode cX9_key 28 = .ok (.getfield 16, 3) := by decide +kernel
theorem dX9_key_31 : decode cX9_key 31 = .ok (.bipush 31, 2) := by decide +kernel
theorem dX9_key_33 : decode cX9_key 33 = .ok (.iaload, 1) := by decide +kernel
theorem dX9_key_34 : decode cX9_key 34 = .ok (.bipush (-9), 2) := by decide +kernel
theorem dX9_key_36 : decode cX9_key 36 = .ok (.if_icmp .ne 6, 3) := by decide +kernel
theorem dX9_key_39 : decode cX9_key 39 = .ok (.bipush (-9), 2) := by decide +kernel
theorem dX9_key_41 : decode cX9_key 41 = .ok (.ireturn, 1) := by decide +kernel
theorem dX9_key_42 : decode cX9_key 42 = .ok (.aload_n 0, 1) := by decide +kernel
theorem dX9_key_43 : decode cX9_key 43 = .ok (.invokevirtual 223, 3) := by decide +kernel
theorem dX9_key_46 : decode cX9_key 46 = .ok (.iload_n 1, 1) := by decide +kernel
theorem dX9_key_47 : decode cX9_key 47 = .ok (.ifCond .ne 10, 3) := by decide +kernel
theorem dX9_key_50 : decode cX9_key 50 = .ok (.aload_n 0, 1) := by decide +kernel
theorem dX9_key_51 : decode cX9_key 51 = .ok (.getfield 214, 3) := by decide +kernel
theorem dX9_key_54 : decode cX9_key 54 = .ok (.goto 7, 3) := by decide +kernel
theorem dX9_key_57 : decode cX9_key 57 = .ok (.aload_n 0, 1) := by decide +kernel
theorem dX9_key_58 : decode cX9_key 58 = .ok (.getfield 217, 3) := by decide +kernel
theorem dX9_key_61 : decode cX9_key 61 = .ok (.ireturn, 1) := by decide +kernel
theorem dX9_longPower_0 : decode cX9_longPower 0 = .ok (.lconst 1, 1) := by decide +kernel
theorem dX9_longPower_1 : decode cX9_longPower 1 = .ok (.lstore_n 3, 1) := by decide +kernel
theorem dX9_longPower_2 : decode cX9_longPower 2 = .ok (.iconst 0, 1) := by decide +kernel
theorem dX9_longPower_3 : decode cX9_longPower 3 = .ok (.istore 5, 2) := by decide +kernel
theorem dX9_longPower_5 : decode cX9_longPower 5 = .ok (.iload 5, 2) := by decide +kernel
theorem dX9_longPower_7 : decode cX9_longPower 7 = .ok (.iload_n 2, 1) := by decide +kernel
theorem dX9_longPower_8 : decode cX9_longPower 8 = .ok (.if_icmp .ge 13, 3) := by decide +kernel
theorem dX9_longPower_11 : decode cX9_longPower 11 = .ok (.lload_n 3, 1) := by decide +kernel
theorem dX9_longPower_12 : decode cX9_longPower 12 = .ok (.lload_n 0, 1) := by decide +kernel
theorem dX9_longPower_13 : decode cX9_longPower 13 = .ok (.lmul, 1) := by decide +kernel
theorem dX9_longPower_14 : decode cX9_longPower 14 = .ok (.lstore_n 3, 1) := by decide +kernel
theorem dX9_longPower_15 : decode cX9_longPower 15 = .ok (.iinc 5 1, 3) := by decide +kernel
theorem dX9_longPower_18 : decode cX9_longPower 18 = .ok (.goto (-13), 3) := by decide +kernel
theorem dX9_longPower_21 : decode cX9_longPower 21 = .ok (.lload_n 3, 1) := by decide +kernel
theorem dX9_longPower_22 : decode cX9_longPower 22 = .ok (.lreturn, 1) := by decide +kernel
theorem dX9_putTotal_0 : decode cX9_putTotal 0 = .ok (.iload_n 1, 1) := by decide +kernel
theorem dX9_putTotal_1 : decode cX9_putTotal 1 = .ok (.iconst 2, 1) := by decide +kernel
theorem dX9_putTotal_2 : decode cX9_putTotal 2 = .ok (.if_icmp .ge 47, 3) := by decide +kernel
theorem dX9_putTotal_5 : decode cX9_putTotal 5 = .ok (.iload_n 2, 1) := by decide +kernel
theorem dX9_putTotal_6 : decode cX9_putTotal 6 = .ok (.aload_n 0, 1) := by decide +kernel
theorem dX9_putTotal_7 : decode cX9_putTotal 7 = .ok (.getfield 19, 3) := by decide +kernel
theorem dX9_putTotal_10 : decode cX9_putTotal 10 = .ok (.iload_n 1, 1) := by decide +kernel
theorem dX9_putTotal_11 : decode cX9_putTotal 11 = .ok (.iconst 2, 1) := by decide +kernel
theorem dX9_putTotal_12 : decode cX9_putTotal 12 = .ok (.if_icmp .ge 7, 3) := by decide +kernel
theorem dX9_putTotal_15 : decode cX9_putTotal 15 = .ok (.iload_n 1, 1) := by decide +kernel
theorem dX9_putTotal_16 : decode cX9_putTotal 16 = .ok (.goto 4, 3) := by decide +kernel
theorem dX9_putTotal_19 : decode cX9_putTotal 19 = .ok (.iconst 0, 1) := by decide +kernel
theorem dX9_putTotal_20 : decode cX9_putTotal 20 = .ok (.iaload, 1) := by decide +kernel
theorem dX9_putTotal_21 : decode cX9_putTotal 21 = .ok (.if_icmp .ge 28, 3) := by decide +kernel
theorem dX9_putTotal_24 : decode cX9_putTotal 24 = .ok (.iload_n 3, 1) := by decide +kernel
theorem dX9_putTotal_25 : decode cX9_putTotal 25 = .ok (.aload_n 0, 1) := by decide +kernel
theorem dX9_putTotal_26 : decode cX9_putTotal 26 = .ok (.getfield 19, 3) := by decide +kernel
theorem dX9_putTotal_29 : decode cX9_putTotal 29 = .ok (.iload_n 1, 1) := by decide +kernel
theorem dX9_putTotal_30 : decode cX9_putTotal 30 = .ok (.iconst 2, 1) := by decide +kernel
theorem dX9_putTotal_31 : decode cX9_putTotal 31 = .ok (.if_icmp .ge 9, 3) := by decide +kernel
theorem dX9_putTotal_34 : decode cX9_putTotal 34 = .ok (.iconst 1, 1) := by decide +kernel
theorem dX9_putTotal_35 : decode cX9_putTotal 35 = .ok (.iload_n 1, 1) := by decide +kernel
theorem dX9_putTotal_36 : decode cX9_putTotal 36 = .ok (.isub, 1) := by decide +kernel
theorem dX9_putTotal_37 : decode cX9_putTotal 37 = .ok (.goto 4, 3) := by decide +kernel
theorem dX9_putTotal_40 : decode cX9_putTotal 40 = .ok (.iconst 0, 1) := by decide +kernel
theorem dX9_putTotal_41 : decode cX9_putTotal 41 = .ok (.iaload, 1) := by decide +kernel
theorem dX9_putTotal_42 : decode cX9_putTotal 42 = .ok (.if_icmp .gt 7, 3) := by decide +kernel
theorem dX9_putTotal_45 : decode cX9_putTotal 45 = .ok (.iconst 1, 1) := by decide +kernel
theorem dX9_putTotal_46 : decode cX9_putTotal 46 = .ok (.goto 4, 3) := by decide +kernel
theorem dX9_putTotal_49 : decode cX9_putTotal 49 = .ok (.iconst 0, 1) := by decide +kernel
theorem dX9_putTotal_50 : decode cX9_putTotal 50 = .ok (.istore 4, 2) := by decide +kernel
theorem dX9_putTotal_52 : decode cX9_putTotal 52 = .ok (.iload 4, 2) := by decide +kernel
theorem dX9_putTotal_54 : decode cX9_putTotal 54 = .ok (.ifCond .eq 22, 3) := by decide +kernel
theorem dX9_putTotal_57 : decode cX9_putTotal 57 = .ok (.aload_n 0, 1) := by decide +kernel
theorem dX9_putTotal_58 : decode cX9_putTotal 58 = .ok (.getfield 19, 3) := by decide +kernel
theorem dX9_putTotal_61 : decode cX9_putTotal 61 = .ok (.iload_n 1, 1) := by decide +kernel
theorem dX9_putTotal_62 : decode cX9_putTotal 62 = .ok (.iload_n 2, 1) := by decide +kernel
theorem dX9_putTotal_63 : decode cX9_putTotal 63 = .ok (.invokestatic 143, 3) := by decide +kernel
theorem dX9_putTotal_66 : decode cX9_putTotal 66 = .ok (.iload_n 3, 1) := by decide +kernel
theorem dX9_putTotal_67 : decode cX9_putTotal 67 = .ok (.iastore, 1) := by decide +kernel
theorem dX9_putTotal_68 : decode cX9_putTotal 68 = .ok (.aload_n 0, 1) := by decide +kernel
theorem dX9_putTotal_69 : decode cX9_putTotal 69 = .ok (.aload_n 0, 1) := by decide +kernel
theorem dX9_putTotal_70 : decode cX9_putTotal 70 = .ok (.getfield 19, 3) := by decide +kernel
theorem dX9_putTotal_73 : decode cX9_putTotal 73 = .ok (.invokevirtual 133, 3) := by decide +kernel
theorem dX9_putTotal_76 : decode cX9_putTotal 76 = .ok (.iload 4, 2) := by decide +kernel
theorem dX9_putTotal_78 : decode cX9_putTotal 78 = .ok (.ireturn, 1) := by decide +kernel
theorem dX9_putPin_0 : decode cX9_putPin 0 = .ok (.iload_n 1, 1) := by decide +kernel
theorem dX9_putPin_1 : decode cX9_putPin 1 = .ok (.aload_n 0, 1) := by decide +kernel
theorem dX9_putPin_2 : decode cX9_putPin 2 = .ok (.getfield 19, 3) := by decide +kernel
theorem dX9_putPin_5 : decode cX9_putPin 5 = .ok (.invokestatic 69, 3) := by decide +kernel
theorem dX9_putPin_8 : decode cX9_putPin 8 = .ok (.if_icmp .ge 24, 3) := by decide +kernel
theorem dX9_putPin_11 : decode cX9_putPin 11 = .ok (.iload_n 2, 1) := by decide +kernel
theorem dX9_putPin_12 : decode cX9_putPin 12 = .ok (.iconst 3, 1) := by decide +kernel
theorem dX9_putPin_13 : decode cX9_putPin 13 = .ok (.if_icmp .ge 19, 3) := by decide +kernel
theorem dX9_putPin_16 : decode cX9_putPin 16 = .ok (.aload_n 0, 1) := by decide +kernel
theorem dX9_putPin_17 : decode cX9_putPin 17 = .ok (.getfield 19, 3) := by decide +kernel
theorem dX9_putPin_20 : decode cX9_putPin 20 = .ok (.iload_n 1, 1) := by decide +kernel
theorem dX9_putPin_21 : decode cX9_putPin 21 = .ok (.iload_n 2, 1) := by decide +kernel
theorem dX9_putPin_22 : decode cX9_putPin 22 = .ok (.invokestatic 202, 3) := by decide +kernel
theorem dX9_putPin_25 : decode cX9_putPin 25 = .ok (.ifCond .ne 7, 3) := by decide +kernel
theorem dX9_putPin_28 : decode cX9_putPin 28 = .ok (.iconst 1, 1) := by decide +kernel
theorem dX9_putPin_29 : decode cX9_putPin 29 = .ok (.goto 4, 3) := by decide +kernel
theorem dX9_putPin_32 : decode cX9_putPin 32 = .ok (.iconst 0, 1) := by decide +kernel
theorem dX9_putPin_33 : decode cX9_putPin 33 = .ok (.istore_n 3, 1) := by decide +kernel
theorem dX9_putPin_34 : decode cX9_putPin 34 = .ok (.iload_n 3, 1) := by decide +kernel
theorem dX9_putPin_35 : decode cX9_putPin 35 = .ok (.ifCond .eq 21, 3) := by decide +kernel
theorem dX9_putPin_38 : decode cX9_putPin 38 = .ok (.aload_n 0, 1) := by decide +kernel
theorem dX9_putPin_39 : decode cX9_putPin 39 = .ok (.getfield 19, 3) := by decide +kernel
theorem dX9_putPin_42 : decode cX9_putPin 42 = .ok (.bipush 11, 2) := by decide +kernel
theorem dX9_putPin_44 : decode cX9_putPin 44 = .ok (.iload_n 1, 1) := by decide +kernel
theorem dX9_putPin_45 : decode cX9_putPin 45 = .ok (.iadd, 1) := by decide +kernel
theorem dX9_putPin_46 : decode cX9_putPin 46 = .ok (.iload_n 2, 1) := by decide +kernel
theorem dX9_putPin_47 : decode cX9_putPin 47 = .ok (.iastore, 1) := by decide +kernel
theorem dX9_putPin_48 : decode cX9_putPin 48 = .ok (.aload_n 0, 1) := by decide +kernel
theorem dX9_putPin_49 : decode cX9_putPin 49 = .ok (.aload_n 0, 1) := by decide +kernel
theorem dX9_putPin_50 : decode cX9_putPin 50 = .ok (.getfield 19, 3) := by decide +kernel
theorem dX9_putPin_53 : decode cX9_putPin 53 = .ok (.invokevirtual 133, 3) := by decide +kernel
theorem dX9_putPin_56 : decode cX9_putPin 56 = .ok (.iload_n 3, 1) := by decide +kernel
theorem dX9_putPin_57 : decode cX9_putPin 57 = .ok (.ireturn, 1) := by decide +kernel
theorem dX9_putSwitch_0 : decode cX9_putSwitch 0 = .ok (.iload_n 1, 1) := by decide +kernel
theorem dX9_putSwitch_1 : decode cX9_putSwitch 1 = .ok (.aload_n 0, 1) := by decide +kernel
theorem dX9_putSwitch_2 : decode cX9_putSwitch 2 = .ok (.getfield 19, 3) := by decide +kernel
theorem dX9_putSwitch_5 : decode cX9_putSwitch 5 = .ok (.iconst 0, 1) := by decide +kernel
theorem dX9_putSwitch_6 : decode cX9_putSwitch 6 = .ok (.iaload, 1) := by decide +kernel
theorem dX9_putSwitch_7 : decode cX9_putSwitch 7 = .ok (.if_icmp .ge 38, 3) := by decide +kernel
theorem dX9_putSwitch_10 : decode cX9_putSwitch 10 = .ok (.iload_n 2, 1) := by decide +kernel
theorem dX9_putSwitch_11 : decode cX9_putSwitch 11 = .ok (.aload_n 0, 1) := by decide +kernel
theorem dX9_putSwitch_12 : decode cX9_putSwitch 12 = .ok (.getfield 19, 3) := by decide +kernel
theorem dX9_putSwitch_15 : decode cX9_putSwitch 15 = .ok (.iconst 0, 1) := by decide +kernel
theorem dX9_putSwitch_16 : decode cX9_putSwitch 16 = .ok (.iaload, 1) := by decide +kernel
theorem dX9_putSwitch_17 : decode cX9_putSwitch 17 = .ok (.if_icmp .ge 28, 3) := by decide +kernel
theorem dX9_putSwitch_20 : decode cX9_putSwitch 20 = .ok (.iload_n 3, 1) := by decide +kernel
theorem dX9_putSwitch_21 : decode cX9_putSwitch 21 = .ok (.aload_n 0, 1) := by decide +kernel
theorem dX9_putSwitch_22 : decode cX9_putSwitch 22 = .ok (.getfield 19, 3) := by decide +kernel
theorem dX9_putSwitch_25 : decode cX9_putSwitch 25 = .ok (.iconst 1, 1) := by decide +kernel
theorem dX9_putSwitch_26 : decode cX9_putSwitch 26 = .ok (.iaload, 1) := by decide +kernel
theorem dX9_putSwitch_27 : decode cX9_putSwitch 27 = .ok (.if_icmp .ge 18, 3) := by decide +kernel
theorem dX9_putSwitch_30 : decode cX9_putSwitch 30 = .ok (.iload 4, 2) := by decide +kernel
theorem dX9_putSwitch_32 : decode cX9_putSwitch 32 = .ok (.aload_n 0, 1) := by decide +kernel
theorem dX9_putSwitch_33 : decode cX9_putSwitch 33 = .ok (.getfield 19, 3) := by decide +kernel
theorem dX9_putSwitch_36 : decode cX9_putSwitch 36 = .ok (.iconst 1, 1) := by decide +kernel
theorem dX9_putSwitch_37 : decode cX9_putSwitch 37 = .ok (.iaload, 1) := by decide +kernel
theorem dX9_putSwitch_38 : decode cX9_putSwitch 38 = .ok (.if_icmp .ge 7, 3) := by decide +kernel
theorem dX9_putSwitch_41 : decode cX9_putSwitch 41 = .ok (.iconst 1, 1) := by decide +kernel
theorem dX9_putSwitch_42 : decode cX9_putSwitch 42 = .ok (.goto 4, 3) := by decide +kernel
theorem dX9_putSwitch_45 : decode cX9_putSwitch 45 = .ok (.iconst 0, 1) := by decide +kernel
theorem dX9_putSwitch_46 : decode cX9_putSwitch 46 = .ok (.istore 5, 2) := by decide +kernel
theorem dX9_putSwitch_48 : decode cX9_putSwitch 48 = .ok (.iload 5, 2) := by decide +kernel
theorem dX9_putSwitch_50 : decode cX9_putSwitch 50 = .ok (.ifCond .eq 18, 3) := by decide +kernel
theorem dX9_putSwitch_53 : decode cX9_putSwitch 53 = .ok (.aload_n 0, 1) := by decide +kernel
theorem dX9_putSwitch_54 : decode cX9_putSwitch 54 = .ok (.getfield 19, 3) := by decide +kernel
theorem dX9_putSwitch_57 : decode cX9_putSwitch 57 = .ok (.iload_n 1, 1) := by decide +kernel
theorem dX9_putSwitch_58 : decode cX9_putSwitch 58 = .ok (.iload_n 2, 1) := by decide +kernel
theorem dX9_putSwitch_59 : decode cX9_putSwitch 59 = .ok (.iload_n 3, 1) := by decide +kernel
theorem dX9_putSwitch_60 : decode cX9_putSwitch 60 = .ok (.iload 4, 2) := by decide +kernel
theorem dX9_putSwitch_62 : decode cX9_putSwitch 62 = .ok (.invokestatic 195, 3) := by decide +kernel
theorem dX9_putSwitch_65 : decode cX9_putSwitch 65 = .ok (.goto 4, 3) := by decide +kernel
theorem dX9_putSwitch_68 : decode cX9_putSwitch 68 = .ok (.iconst 0, 1) := by decide +kernel
theorem dX9_putSwitch_69 : decode cX9_putSwitch 69 = .ok (.istore 6, 2) := by decide +kernel
theorem dX9_putSwitch_71 : decode cX9_putSwitch 71 = .ok (.aload_n 0, 1) := by decide +kernel
theorem dX9_putSwitch_72 : decode cX9_putSwitch 72 = .ok (.getfield 19, 3) := by decide +kernel
theorem dX9_putSwitch_75 : decode cX9_putSwitch 75 = .ok (.bipush 31, 2) := by decide +kernel
theorem dX9_putSwitch_77 : decode cX9_putSwitch 77 = .ok (.iload 6, 2) := by decide +kernel
theorem dX9_putSwitch_79 : decode cX9_putSwitch 79 = .ok (.ifCond .ne 13, 3) := by decide +kernel
theorem dX9_putSwitch_82 : decode cX9_putSwitch 82 = .ok (.aload_n 0, 1) := by decide +kernel
theorem dX9_putSwitch_83 : decode cX9_putSwitch 83 = .ok (.getfield 19, 3) := by decide +kernel
theorem dX9_putSwitch_86 : decode cX9_putSwitch 86 = .ok (.bipush 31, 2) := by decide +kernel
theorem dX9_putSwitch_88 : decode cX9_putSwitch 88 = .ok (.iaload, 1) := by decide +kernel
theorem dX9_putSwitch_89 : decode cX9_putSwitch 89 = .ok (.goto 13, 3) := by decide +kernel
theorem dX9_putSwitch_92 : decode cX9_putSwitch 92 = .ok (.aload_n 0, 1) := by decide +kernel
theorem dX9_putSwitch_93 : decode cX9_putSwitch 93 = .ok (.getfield 19, 3) := by decide +kernel
theorem dX9_putSwitch_96 : decode cX9_putSwitch 96 = .ok (.bipush 31, 2) := by decide +kernel
theorem dX9_putSwitch_98 : decode cX9_putSwitch 98 = .ok (.iaload, 1) := by decide +kernel
theorem dX9_putSwitch_99 : decode cX9_putSwitch 99 = .ok (.iload 6, 2) := by decide +kernel
theorem dX9_putSwitch_101 : decode cX9_putSwitch 101 = .ok (.ixor, 1) := by decide +kernel
theorem dX9_putSwitch_102 : decode cX9_putSwitch 102 = .ok (.iastore, 1) := by decide +kernel
theorem dX9_putSwitch_103 : decode cX9_putSwitch 103 = .ok (.iload 6, 2) := by decide +kernel
theorem dX9_putSwitch_105 : decode cX9_putSwitch 105 = .ok (.ifCond .eq 7, 3) := by decide +kernel
theorem dX9_putSwitch_108 : decode cX9_putSwitch 108 = .ok (.iconst 1, 1) := by decide +kernel
theorem dX9_putSwitch_109 : decode cX9_putSwitch 109 = .ok (.goto 4, 3) := by decide +kernel
theorem dX9_putSwitch_112 : decode cX9_putSwitch 112 = .ok (.iconst 0, 1) := by decide +kernel
theorem dX9_putSwitch_113 : decode cX9_putSwitch 113 = .ok (.ireturn, 1) := by decide +kernel
theorem dX9_does_0 : decode cX9_does 0 = .ok (.iload_n 1, 1) := by decide +kernel
theorem dX9_does_1 : decode cX9_does 1 = .ok (.sipush 1000, 3) := by decide +kernel
theorem dX9_does_4 : decode cX9_does 4 = .ok (.idiv, 1) := by decide +kernel
theorem dX9_does_5 : decode cX9_does 5 = .ok (.bipush 10, 2) := by decide +kernel
theorem dX9_does_7 : decode cX9_does 7 = .ok (.irem, 1) := by decide +kernel
theorem dX9_does_8 : decode cX9_does 8 = .ok (.istore_n 2, 1) := by decide +kernel
theorem dX9_does_9 : decode cX9_does 9 = .ok (.iload_n 1, 1) := by decide +kernel
theorem dX9_does_10 : decode cX9_does 10 = .ok (.bipush 100, 2) := by decide +kernel
theorem dX9_does_12 : decode cX9_does 12 = .ok (.idiv, 1) := by decide +kernel
theorem dX9_does_13 : decode cX9_does 13 = .ok (.bipush 10, 2) := by decide +kernel
theorem dX9_does_15 : decode cX9_does 15 = .ok (.irem, 1) := by decide +kernel
theorem dX9_does_16 : decode cX9_does 16 = .ok (.istore_n 3, 1) := by decide +kernel
theorem dX9_does_17 : decode cX9_does 17 = .ok (.iload_n 1, 1) := by decide +kernel
theorem dX9_does_18 : decode cX9_does 18 = .ok (.bipush 10, 2) := by decide +kernel
theorem dX9_does_20 : decode cX9_does 20 = .ok (.idiv, 1) := by decide +kernel
theorem dX9_does_21 : decode cX9_does 21 = .ok (.bipush 10, 2) := by decide +kernel
theorem dX9_does_23 : decode cX9_does 23 = .ok (.irem, 1) := by decide +kernel
theorem dX9_does_24 : decode cX9_does 24 = .ok (.istore 4, 2) := by decide +kernel
theorem dX9_does_26 : decode cX9_does 26 = .ok (.iload_n 1, 1) := by decide +kernel
theorem dX9_does_27 : decode cX9_does 27 = .ok (.bipush 10, 2) := by decide +kernel
theorem dX9_does_29 : decode cX9_does 29 = .ok (.irem, 1) := by decide +kernel
theorem dX9_does_30 : decode cX9_does 30 = .ok (.istore 5, 2) := by decide +kernel
theorem dX9_does_32 : decode cX9_does 32 = .ok (.bipush 10, 2) := by decide +kernel
theorem dX9_does_34 : decode cX9_does 34 = .ok (.iload_n 2, 1) := by decide +kernel
theorem dX9_does_35 : decode cX9_does 35 = .ok (.imul, 1) := by decide +kernel
theorem dX9_does_36 : decode cX9_does 36 = .ok (.iload_n 3, 1) := by decide +kernel
theorem dX9_does_37 : decode cX9_does 37 = .ok (.iadd, 1) := by decide +kernel
theorem dX9_does_38 : decode cX9_does 38 = .ok (.istore 6, 2) := by decide +kernel
theorem dX9_does_40 : decode cX9_does 40 = .ok (.iload 6, 2) := by decide +kernel
theorem dX9_does_42 : decode cX9_does 42 = .ok (.aload_n 0, 1) := by decide +kernel
theorem dX9_does_43 : decode cX9_does 43 = .ok (.getfield 19, 3) := by decide +kernel
theorem dX9_does_46 : decode cX9_does 46 = .ok (.invokestatic 69, 3) := by decide +kernel
theorem dX9_does_49 : decode cX9_does 49 = .ok (.if_icmp .ge 7, 3) := by decide +kernel
theorem dX9_does_52 : decode cX9_does 52 = .ok (.iconst 1, 1) := by decide +kernel
theorem dX9_does_53 : decode cX9_does 53 = .ok (.goto 4, 3) := by decide +kernel
theorem dX9_does_56 : decode cX9_does 56 = .ok (.iconst 0, 1) := by decide +kernel
theorem dX9_does_57 : decode cX9_does 57 = .ok (.istore 7, 2) := by decide +kernel
theorem dX9_does_59 : decode cX9_does 59 = .ok (.iload_n 1, 1) := by decide +kernel
theorem dX9_does_60 : decode cX9_does 60 = .ok (.sipush 10000, 3) := by decide +kernel
theorem dX9_does_63 : decode cX9_does 63 = .ok (.idiv, 1) := by decide +kernel
theorem dX9_does_64 : decode cX9_does 64 = .ok (.tableswitch 228 1 6 #[40, 51, 78, 100, 157, 197], 40) := by decide +kernel
theorem dX9_does_104 : decode cX9_does 104 = .ok (.aload_n 0, 1) := by decide +kernel
theorem dX9_does_105 : decode cX9_does 105 = .ok (.iload_n 2, 1) := by decide +kernel
theorem dX9_does_106 : decode cX9_does 106 = .ok (.iload_n 3, 1) := by decide +kernel
theorem dX9_does_107 : decode cX9_does 107 = .ok (.iload 4, 2) := by decide +kernel
theorem dX9_does_109 : decode cX9_does 109 = .ok (.iload 5, 2) := by decide +kernel
theorem dX9_does_111 : decode cX9_does 111 = .ok (.invokevirtual 226, 3) := by decide +kernel
theorem dX9_does_114 : decode cX9_does 114 = .ok (.ireturn, 1) := by decide +kernel
theorem dX9_does_115 : decode cX9_does 115 = .ok (.iload 4, 2) := by decide +kernel
theorem dX9_does_117 : decode cX9_does 117 = .ok (.ifCond .ne 23, 3) := by decide +kernel
theorem dX9_does_120 : decode cX9_does 120 = .ok (.iload 7, 2) := by decide +kernel
theorem dX9_does_122 : decode cX9_does 122 = .ok (.ifCond .eq 18, 3) := by decide +kernel
theorem dX9_does_125 : decode cX9_does 125 = .ok (.aload_n 0, 1) := by decide +kernel
theorem dX9_does_126 : decode cX9_does 126 = .ok (.iload 6, 2) := by decide +kernel
theorem dX9_does_128 : decode cX9_does 128 = .ok (.iload 5, 2) := by decide +kernel
theorem dX9_does_130 : decode cX9_does 130 = .ok (.invokevirtual 230, 3) := by decide +kernel
theorem dX9_does_133 : decode cX9_does 133 = .ok (.ifCond .eq 7, 3) := by decide +kernel
theorem dX9_does_136 : decode cX9_does 136 = .ok (.iconst 1, 1) := by decide +kernel
theorem dX9_does_137 : decode cX9_does 137 = .ok (.goto 4, 3) := by decide +kernel
theorem dX9_does_140 : decode cX9_does 140 = .ok (.iconst 0, 1) := by decide +kernel
theorem dX9_does_141 : decode cX9_does 141 = .ok (.ireturn, 1) := by decide +kernel
theorem dX9_does_142 : decode cX9_does 142 = .ok (.iload 4, 2) := by decide +kernel
theorem dX9_does_144 : decode cX9_does 144 = .ok (.ifCond .ne 18, 3) := by decide +kernel
theorem dX9_does_147 : decode cX9_does 147 = .ok (.aload_n 0, 1) := by decide +kernel
theorem dX9_does_148 : decode cX9_does 148 = .ok (.iload_n 2, 1) := by decide +kernel
theorem dX9_does_149 : decode cX9_does 149 = .ok (.iload_n 3, 1) := by decide +kernel
theorem dX9_does_150 : decode cX9_does 150 = .ok (.iload 5, 2) := by decide +kernel
theorem dX9_does_152 : decode cX9_does 152 = .ok (.invokevirtual 233, 3) := by decide +kernel
theorem dX9_does_155 : decode cX9_does 155 = .ok (.ifCond .eq 7, 3) := by decide +kernel
theorem dX9_does_158 : decode cX9_does 158 = .ok (.iconst 1, 1) := by decide +kernel
theorem dX9_does_159 : decode cX9_does 159 = .ok (.goto 4, 3) := by decide +kernel
theorem dX9_does_162 : decode cX9_does 162 = .ok (.iconst 0, 1) := by decide +kernel
theorem dX9_does_163 : decode cX9_does 163 = .ok (.ireturn, 1) := by decide +kernel
theorem dX9_does_164 : decode cX9_does 164 = .ok (.iload 4, 2) := by decide +kernel
theorem dX9_does_166 : decode cX9_does 166 = .ok (.ifCond .ne 53, 3) := by decide +kernel
theorem dX9_does_169 : decode cX9_does 169 = .ok (.iload 7, 2) := by decide +kernel
theorem dX9_does_171 : decode cX9_does 171 = .ok (.ifCond .eq 48, 3) := by decide +kernel
theorem dX9_does_174 : decode cX9_does 174 = .ok (.aload_n 0, 1) := by decide +kernel
theorem dX9_does_175 : decode cX9_does 175 = .ok (.getfield 19, 3) := by decide +kernel
theorem dX9_does_178 : decode cX9_does 178 = .ok (.bipush 31, 2) := by decide +kernel
theorem dX9_does_180 : decode cX9_does 180 = .ok (.iaload, 1) := by decide +kernel
theorem dX9_does_181 : decode cX9_does 181 = .ok (.bipush (-9), 2) := by decide +kernel
theorem dX9_does_183 : decode cX9_does 183 = .ok (.if_icmp .eq 36, 3) := by decide +kernel
theorem dX9_does_186 : decode cX9_does 186 = .ok (.aload_n 0, 1) := by decide +kernel
theorem dX9_does_187 : decode cX9_does 187 = .ok (.getfield 19, 3) := by decide +kernel
theorem dX9_does_190 : decode cX9_does 190 = .ok (.aload_n 0, 1) := by decide +kernel
theorem dX9_does_191 : decode cX9_does 191 = .ok (.getfield 19, 3) := by decide +kernel
theorem dX9_does_194 : decode cX9_does 194 = .ok (.bipush 31, 2) := by decide +kernel
theorem dX9_does_196 : decode cX9_does 196 = .ok (.iaload, 1) := by decide +kernel
theorem dX9_does_197 : decode cX9_does 197 = .ok (.iload 6, 2) := by decide +kernel
theorem dX9_does_199 : decode cX9_does 199 = .ok (.invokestatic 170, 3) := by decide +kernel
theorem dX9_does_202 : decode cX9_does 202 = .ok (.ifCond .eq 7, 3) := by decide +kernel
theorem dX9_does_205 : decode cX9_does 205 = .ok (.iconst 1, 1) := by decide +kernel
theorem dX9_does_206 : decode cX9_does 206 = .ok (.goto 4, 3) := by decide +kernel
theorem dX9_does_209 : decode cX9_does 209 = .ok (.iconst 0, 1) := by decide +kernel
theorem dX9_does_210 : decode cX9_does 210 = .ok (.iload 5, 2) := by decide +kernel
theorem dX9_does_212 : decode cX9_does 212 = .ok (.if_icmp .ne 7, 3) := by decide +kernel
theorem dX9_does_215 : decode cX9_does 215 = .ok (.iconst 1, 1) := by decide +kernel
theorem dX9_does_216 : decode cX9_does 216 = .ok (.goto 4, 3) := by decide +kernel
theorem dX9_does_219 : decode cX9_does 219 = .ok (.iconst 0, 1) := by decide +kernel
theorem dX9_does_220 : decode cX9_does 220 = .ok (.ireturn, 1) := by decide +kernel
theorem dX9_does_221 : decode cX9_does 221 = .ok (.aload_n 0, 1) := by decide +kernel
theorem dX9_does_222 : decode cX9_does 222 = .ok (.aload_n 0, 1) := by decide +kernel
theorem dX9_does_223 : decode cX9_does 223 = .ok (.getfield 19, 3) := by decide +kernel
theorem dX9_does_226 : decode cX9_does 226 = .ok (.iconst 1, 1) := by decide +kernel
theorem dX9_does_227 : decode cX9_does 227 = .ok (.invokevirtual 122, 3) := by decide +kernel
theorem dX9_does_230 : decode cX9_does 230 = .ok (.iload 4, 2) := by decide +kernel
theorem dX9_does_232 : decode cX9_does 232 = .ok (.ifCond .ne 27, 3) := by decide +kernel
theorem dX9_does_235 : decode cX9_does 235 = .ok (.iload 7, 2) := by decide +kernel
theorem dX9_does_237 : decode cX9_does 237 = .ok (.ifCond .eq 22, 3) := by decide +kernel
theorem dX9_does_240 : decode cX9_does 240 = .ok (.aload_n 0, 1) := by decide +kernel
theorem dX9_does_241 : decode cX9_does 241 = .ok (.aload_n 0, 1) := by decide +kernel
theorem dX9_does_242 : decode cX9_does 242 = .ok (.getfield 19, 3) := by decide +kernel
theorem dX9_does_245 : decode cX9_does 245 = .ok (.iload 6, 2) := by decide +kernel
theorem dX9_does_247 : decode cX9_does 247 = .ok (.invokevirtual 179, 3) := by decide +kernel
theorem dX9_does_250 : decode cX9_does 250 = .ok (.iload 5, 2) := by decide +kernel
theorem dX9_does_252 : decode cX9_does 252 = .ok (.if_icmp .ne 7, 3) := by decide +kernel
theorem dX9_does_255 : decode cX9_does 255 = .ok (.iconst 1, 1) := by decide +kernel
theorem dX9_does_256 : decode cX9_does 256 = .ok (.goto 4, 3) := by decide +kernel
theorem dX9_does_259 : decode cX9_does 259 = .ok (.iconst 0, 1) := by decide +kernel
theorem dX9_does_260 : decode cX9_does 260 = .ok (.ireturn, 1) := by decide +kernel
theorem dX9_does_261 : decode cX9_does 261 = .ok (.aload_n 0, 1) := by decide +kernel
theorem dX9_does_262 : decode cX9_does 262 = .ok (.aload_n 0, 1) := by decide +kernel
theorem dX9_does_263 : decode cX9_does 263 = .ok (.getfield 19, 3) := by decide +kernel
theorem dX9_does_266 : decode cX9_does 266 = .ok (.iconst 1, 1) := by decide +kernel
theorem dX9_does_267 : decode cX9_does 267 = .ok (.invokevirtual 122, 3) := by decide +kernel
theorem dX9_does_270 : decode cX9_does 270 = .ok (.iload_n 2, 1) := by decide +kernel
theorem dX9_does_271 : decode cX9_does 271 = .ok (.ifCond .ne 19, 3) := by decide +kernel
theorem dX9_does_274 : decode cX9_does 274 = .ok (.aload_n 0, 1) := by decide +kernel
theorem dX9_does_275 : decode cX9_does 275 = .ok (.getfield 112, 3) := by decide +kernel
theorem dX9_does_278 : decode cX9_does 278 = .ok (.iload_n 1, 1) := by decide +kernel
theorem dX9_does_279 : decode cX9_does 279 = .ok (.sipush 1000, 3) := by decide +kernel
theorem dX9_does_282 : decode cX9_does 282 = .ok (.irem, 1) := by decide +kernel
theorem dX9_does_283 : decode cX9_does 283 = .ok (.if_icmp .lt 7, 3) := by decide +kernel
theorem dX9_does_286 : decode cX9_does 286 = .ok (.iconst 1, 1) := by decide +kernel
theorem dX9_does_287 : decode cX9_does 287 = .ok (.goto 4, 3) := by decide +kernel
theorem dX9_does_290 : decode cX9_does 290 = .ok (.iconst 0, 1) := by decide +kernel
theorem dX9_does_291 : decode cX9_does 291 = .ok (.ireturn, 1) := by decide +kernel
theorem dX9_does_292 : decode cX9_does 292 = .ok (.iconst 0, 1) := by decide +kernel
theorem dX9_does_293 : decode cX9_does 293 = .ok (.ireturn, 1) := by decide +kernel
theorem dX9_judge_0 : decode cX9_judge 0 = .ok (.aload_n 0, 1) := by decide +kernel
theorem dX9_judge_1 : decode cX9_judge 1 = .ok (.iconst 0, 1) := by decide +kernel
theorem dX9_judge_2 : decode cX9_judge 2 = .ok (.putfield 65, 3) := by decide +kernel
theorem dX9_judge_5 : decode cX9_judge 5 = .ok (.iload_n 1, 1) := by decide +kernel
theorem dX9_judge_6 : decode cX9_judge 6 = .ok (.i2l, 1) := by decide +kernel
theorem dX9_judge_7 : decode cX9_judge 7 = .ok (.lconst 1, 1) := by decide +kernel
theorem dX9_judge_8 : decode cX9_judge 8 = .ok (.ldc2_w 237, 3) := by decide +kernel
theorem dX9_judge_11 : decode cX9_judge 11 = .ok (.invokestatic 77, 3) := by decide +kernel
theorem dX9_judge_14 : decode cX9_judge 14 = .ok (.ifCond .eq 20, 3) := by decide +kernel
theorem dX9_judge_17 : decode cX9_judge 17 = .ok (.lload_n 2, 1) := by decide +kernel
theorem dX9_judge_18 : decode cX9_judge 18 = .ok (.lconst 0, 1) := by decide +kernel
theorem dX9_judge_19 : decode cX9_judge 19 = .ok (.ldc2_w 239, 3) := by decide +kernel
theorem dX9_judge_22 : decode cX9_judge 22 = .ok (.iload_n 1, 1) := by decide +kernel
theorem dX9_judge_23 : decode cX9_judge 23 = .ok (.invokestatic 241, 3) := by decide +kernel
theorem dX9_judge_26 : decode cX9_judge 26 = .ok (.lconst 1, 1) := by decide +kernel
theorem dX9_judge_27 : decode cX9_judge 27 = .ok (.lsub, 1) := by decide +kernel
theorem dX9_judge_28 : decode cX9_judge 28 = .ok (.invokestatic 77, 3) := by decide +kernel
theorem dX9_judge_31 : decode cX9_judge 31 = .ok (.ifCond .ne 6, 3) := by decide +kernel
theorem dX9_judge_34 : decode cX9_judge 34 = .ok (.bipush (-2), 2) := by decide +kernel
theorem dX9_judge_36 : decode cX9_judge 36 = .ok (.ireturn, 1) := by decide +kernel
theorem dX9_judge_37 : decode cX9_judge 37 = .ok (.aload_n 0, 1) := by decide +kernel
theorem dX9_judge_38 : decode cX9_judge 38 = .ok (.getfield 19, 3) := by decide +kernel
theorem dX9_judge_41 : decode cX9_judge 41 = .ok (.aload_n 0, 1) := by decide +kernel
theorem dX9_judge_42 : decode cX9_judge 42 = .ok (.getfield 16, 3) := by decide +kernel
theorem dX9_judge_45 : decode cX9_judge 45 = .ok (.invokestatic 129, 3) := by decide +kernel
theorem dX9_judge_48 : decode cX9_judge 48 = .ok (.iconst 0, 1) := by decide +kernel
theorem dX9_judge_49 : decode cX9_judge 49 = .ok (.istore 4, 2) := by decide +kernel
theorem dX9_judge_51 : decode cX9_judge 51 = .ok (.iload 4, 2) := by decide +kernel
theorem dX9_judge_53 : decode cX9_judge 53 = .ok (.iload_n 1, 1) := by decide +kernel
theorem dX9_judge_54 : decode cX9_judge 54 = .ok (.if_icmp .ge 38, 3) := by decide +kernel
theorem dX9_judge_57 : decode cX9_judge 57 = .ok (.aload_n 0, 1) := by decide +kernel
theorem dX9_judge_58 : decode cX9_judge 58 = .ok (.lload_n 2, 1) := by decide +kernel
theorem dX9_judge_59 : decode cX9_judge 59 = .ok (.ldc2_w 239, 3) := by decide +kernel
theorem dX9_judge_62 : decode cX9_judge 62 = .ok (.iload_n 1, 1) := by decide +kernel
theorem dX9_judge_63 : decode cX9_judge 63 = .ok (.iconst 1, 1) := by decide +kernel
theorem dX9_judge_64 : decode cX9_judge 64 = .ok (.isub, 1) := by decide +kernel
theorem dX9_judge_65 : decode cX9_judge 65 = .ok (.iload 4, 2) := by decide +kernel
theorem dX9_judge_67 : decode cX9_judge 67 = .ok (.isub, 1) := by decide +kernel
theorem dX9_judge_68 : decode cX9_judge 68 = .ok (.invokestatic 241, 3) := by decide +kernel
theorem dX9_judge_71 : decode cX9_judge 71 = .ok (.ldiv, 1) := by decide +kernel
theorem dX9_judge_72 : decode cX9_judge 72 = .ok (.ldc2_w 239, 3) := by decide +kernel
theorem dX9_judge_75 : decode cX9_judge 75 = .ok (.lrem, 1) := by decide +kernel
theorem dX9_judge_76 : decode cX9_judge 76 = .ok (.l2i, 1) := by decide +kernel
theorem dX9_judge_77 : decode cX9_judge 77 = .ok (.invokevirtual 245, 3) := by decide +kernel
theorem dX9_judge_80 : decode cX9_judge 80 = .ok (.ifCond .ne 6, 3) := by decide +kernel
theorem dX9_judge_83 : decode cX9_judge 83 = .ok (.iload 4, 2) := by decide +kernel
theorem dX9_judge_85 : decode cX9_judge 85 = .ok (.ireturn, 1) := by decide +kernel
theorem dX9_judge_86 : decode cX9_judge 86 = .ok (.iinc 4 1, 3) := by decide +kernel
theorem dX9_judge_89 : decode cX9_judge 89 = .ok (.goto (-38), 3) := by decide +kernel
theorem dX9_judge_92 : decode cX9_judge 92 = .ok (.bipush (-9), 2) := by decide +kernel
theorem dX9_judge_94 : decode cX9_judge 94 = .ok (.ireturn, 1) := by decide +kernel
theorem dX9_see_0 : decode cX9_see 0 = .ok (.aload_n 0, 1) := by decide +kernel
theorem dX9_see_1 : decode cX9_see 1 = .ok (.iconst 0, 1) := by decide +kernel
theorem dX9_see_2 : decode cX9_see 2 = .ok (.putfield 65, 3) := by decide +kernel
theorem dX9_see_5 : decode cX9_see 5 = .ok (.iload_n 1, 1) := by decide +kernel
theorem dX9_see_6 : decode cX9_see 6 = .ok (.i2l, 1) := by decide +kernel
theorem dX9_see_7 : decode cX9_see 7 = .ok (.lconst 0, 1) := by decide +kernel
theorem dX9_see_8 : decode cX9_see 8 = .ok (.ldc2_w 248, 3) := by decide +kernel
theorem dX9_see_11 : decode cX9_see 11 = .ok (.invokestatic 77, 3) := by decide +kernel
theorem dX9_see_14 : decode cX9_see 14 = .ok (.ifCond .eq 13, 3) := by decide +kernel
theorem dX9_see_17 : decode cX9_see 17 = .ok (.iload_n 2, 1) := by decide +kernel
theorem dX9_see_18 : decode cX9_see 18 = .ok (.i2l, 1) := by decide +kernel
theorem dX9_see_19 : decode cX9_see 19 = .ok (.lconst 0, 1) := by decide +kernel
theorem dX9_see_20 : decode cX9_see 20 = .ok (.lconst 1, 1) := by decide +kernel
theorem dX9_see_21 : decode cX9_see 21 = .ok (.invokestatic 77, 3) := by decide +kernel
theorem dX9_see_24 : decode cX9_see 24 = .ok (.ifCond .ne 6, 3) := by decide +kernel
theorem dX9_see_27 : decode cX9_see 27 = .ok (.bipush (-2), 2) := by decide +kernel
theorem dX9_see_29 : decode cX9_see 29 = .ok (.ireturn, 1) := by decide +kernel
theorem dX9_see_30 : decode cX9_see 30 = .ok (.aload_n 0, 1) := by decide +kernel
theorem dX9_see_31 : decode cX9_see 31 = .ok (.getfield 250, 3) := by decide +kernel
theorem dX9_see_34 : decode cX9_see 34 = .ok (.bipush 6, 2) := by decide +kernel
theorem dX9_see_36 : decode cX9_see 36 = .ok (.if_icmp .ne 6, 3) := by decide +kernel
theorem dX9_see_39 : decode cX9_see 39 = .ok (.bipush (-4), 2) := by decide +kernel
theorem dX9_see_41 : decode cX9_see 41 = .ok (.ireturn, 1) := by decide +kernel
theorem dX9_see_42 : decode cX9_see 42 = .ok (.aload_n 0, 1) := by decide +kernel
theorem dX9_see_43 : decode cX9_see 43 = .ok (.getfield 32, 3) := by decide +kernel
theorem dX9_see_46 : decode cX9_see 46 = .ok (.aload_n 0, 1) := by decide +kernel
theorem dX9_see_47 : decode cX9_see 47 = .ok (.getfield 250, 3) := by decide +kernel
theorem dX9_see_50 : decode cX9_see 50 = .ok (.iload_n 1, 1) := by decide +kernel
theorem dX9_see_51 : decode cX9_see 51 = .ok (.iastore, 1) := by decide +kernel
theorem dX9_see_52 : decode cX9_see 52 = .ok (.aload_n 0, 1) := by decide +kernel
theorem dX9_see_53 : decode cX9_see 53 = .ok (.getfield 35, 3) := by decide +kernel
theorem dX9_see_56 : decode cX9_see 56 = .ok (.aload_n 0, 1) := by decide +kernel
theorem dX9_see_57 : decode cX9_see 57 = .ok (.getfield 250, 3) := by decide +kernel
theorem dX9_see_60 : decode cX9_see 60 = .ok (.iload_n 2, 1) := by decide +kernel
theorem dX9_see_61 : decode cX9_see 61 = .ok (.iastore, 1) := by decide +kernel
theorem dX9_see_62 : decode cX9_see 62 = .ok (.aload_n 0, 1) := by decide +kernel
theorem dX9_see_63 : decode cX9_see 63 = .ok (.dup, 1) := by decide +kernel
theorem dX9_see_64 : decode cX9_see 64 = .ok (.getfield 250, 3) := by decide +kernel
theorem dX9_see_67 : decode cX9_see 67 = .ok (.iconst 1, 1) := by decide +kernel
theorem dX9_see_68 : decode cX9_see 68 = .ok (.iadd, 1) := by decide +kernel
theorem dX9_see_69 : decode cX9_see 69 = .ok (.putfield 250, 3) := by decide +kernel
theorem dX9_see_72 : decode cX9_see 72 = .ok (.aload_n 0, 1) := by decide +kernel
theorem dX9_see_73 : decode cX9_see 73 = .ok (.getfield 250, 3) := by decide +kernel
theorem dX9_see_76 : decode cX9_see 76 = .ok (.ireturn, 1) := by decide +kernel
theorem dX9_unsee_0 : decode cX9_unsee 0 = .ok (.aload_n 0, 1) := by decide +kernel
theorem dX9_unsee_1 : decode cX9_unsee 1 = .ok (.iconst 0, 1) := by decide +kernel
theorem dX9_unsee_2 : decode cX9_unsee 2 = .ok (.putfield 65, 3) := by decide +kernel
theorem dX9_unsee_5 : decode cX9_unsee 5 = .ok (.aload_n 0, 1) := by decide +kernel
theorem dX9_unsee_6 : decode cX9_unsee 6 = .ok (.getfield 250, 3) := by decide +kernel
theorem dX9_unsee_9 : decode cX9_unsee 9 = .ok (.istore_n 1, 1) := by decide +kernel
theorem dX9_unsee_10 : decode cX9_unsee 10 = .ok (.aload_n 0, 1) := by decide +kernel
theorem dX9_unsee_11 : decode cX9_unsee 11 = .ok (.iconst 0, 1) := by decide +kernel
theorem dX9_unsee_12 : decode cX9_unsee 12 = .ok (.putfield 250, 3) := by decide +kernel
theorem dX9_unsee_15 : decode cX9_unsee 15 = .ok (.iload_n 1, 1) := by decide +kernel
theorem dX9_unsee_16 : decode cX9_unsee 16 = .ok (.ireturn, 1) := by decide +kernel
theorem dX9_agrees_0 : decode cX9_agrees 0 = .ok (.iconst 1, 1) := by decide +kernel
theorem dX9_agrees_1 : decode cX9_agrees 1 = .ok (.istore_n 2, 1) := by decide +kernel
theorem dX9_agrees_2 : decode cX9_agrees 2 = .ok (.iconst 0, 1) := by decide +kernel
theorem dX9_agrees_3 : decode cX9_agrees 3 = .ok (.istore_n 3, 1) := by decide +kernel
theorem dX9_agrees_4 : decode cX9_agrees 4 = .ok (.iload_n 3, 1) := by decide +kernel
theorem dX9_agrees_5 : decode cX9_agrees 5 = .ok (.aload_n 0, 1) := by decide +kernel
theorem dX9_agrees_6 : decode cX9_agrees 6 = .ok (.getfield 250, 3) := by decide +kernel
theorem dX9_agrees_9 : decode cX9_agrees 9 = .ok (.if_icmp .ge 79, 3) := by decide +kernel
theorem dX9_agrees_12 : decode cX9_agrees 12 = .ok (.aload_n 0, 1) := by decide +kernel
theorem dX9_agrees_13 : decode cX9_agrees 13 = .ok (.getfield 32, 3) := by decide +kernel
theorem dX9_agrees_16 : decode cX9_agrees 16 = .ok (.iload_n 3, 1) := by decide +kernel
theorem dX9_agrees_17 : decode cX9_agrees 17 = .ok (.iaload, 1) := by decide +kernel
theorem dX9_agrees_18 : decode cX9_agrees 18 = .ok (.aload_n 0, 1) := by decide +kernel
theorem dX9_agrees_19 : decode cX9_agrees 19 = .ok (.getfield 16, 3) := by decide +kernel
theorem dX9_agrees_22 : decode cX9_agrees 22 = .ok (.invokestatic 69, 3) := by decide +kernel
theorem dX9_agrees_25 : decode cX9_agrees 25 = .ok (.if_icmp .ge 24, 3) := by decide +kernel
theorem dX9_agrees_28 : decode cX9_agrees 28 = .ok (.aload_n 0, 1) := by decide +kernel
theorem dX9_agrees_29 : decode cX9_agrees 29 = .ok (.getfield 16, 3) := by decide +kernel
theorem dX9_agrees_32 : decode cX9_agrees 32 = .ok (.iload_n 1, 1) := by decide +kernel
theorem dX9_agrees_33 : decode cX9_agrees 33 = .ok (.aload_n 0, 1) := by decide +kernel
theorem dX9_agrees_34 : decode cX9_agrees 34 = .ok (.getfield 32, 3) := by decide +kernel
theorem dX9_agrees_37 : decode cX9_agrees 37 = .ok (.iload_n 3, 1) := by decide +kernel
theorem dX9_agrees_38 : decode cX9_agrees 38 = .ok (.iaload, 1) := by decide +kernel
theorem dX9_agrees_39 : decode cX9_agrees 39 = .ok (.invokestatic 170, 3) := by decide +kernel
theorem dX9_agrees_42 : decode cX9_agrees 42 = .ok (.ifCond .eq 7, 3) := by decide +kernel
theorem dX9_agrees_45 : decode cX9_agrees 45 = .ok (.iconst 1, 1) := by decide +kernel
theorem dX9_agrees_46 : decode cX9_agrees 46 = .ok (.goto 4, 3) := by decide +kernel
theorem dX9_agrees_49 : decode cX9_agrees 49 = .ok (.iconst 0, 1) := by decide +kernel
theorem dX9_agrees_50 : decode cX9_agrees 50 = .ok (.istore 4, 2) := by decide +kernel
theorem dX9_agrees_52 : decode cX9_agrees 52 = .ok (.iload_n 2, 1) := by decide +kernel
theorem dX9_agrees_53 : decode cX9_agrees 53 = .ok (.ifCond .eq 27, 3) := by decide +kernel
theorem dX9_agrees_56 : decode cX9_agrees 56 = .ok (.iload 4, 2) := by decide +kernel
theorem dX9_agrees_58 : decode cX9_agrees 58 = .ok (.aload_n 0, 1) := by decide +kernel
theorem dX9_agrees_59 : decode cX9_agrees 59 = .ok (.getfield 35, 3) := by decide +kernel
theorem dX9_agrees_62 : decode cX9_agrees 62 = .ok (.iload_n 3, 1) := by decide +kernel
theorem dX9_agrees_63 : decode cX9_agrees 63 = .ok (.iaload, 1) := by decide +kernel
theorem dX9_agrees_64 : decode cX9_agrees 64 = .ok (.iconst 1, 1) := by decide +kernel
theorem dX9_agrees_65 : decode cX9_agrees 65 = .ok (.if_icmp .ne 7, 3) := by decide +kernel
theorem dX9_agrees_68 : decode cX9_agrees 68 = .ok (.iconst 1, 1) := by decide +kernel
theorem dX9_agrees_69 : decode cX9_agrees 69 = .ok (.goto 4, 3) := by decide +kernel
theorem dX9_agrees_72 : decode cX9_agrees 72 = .ok (.iconst 0, 1) := by decide +kernel
theorem dX9_agrees_73 : decode cX9_agrees 73 = .ok (.if_icmp .ne 7, 3) := by decide +kernel
theorem dX9_agrees_76 : decode cX9_agrees 76 = .ok (.iconst 1, 1) := by decide +kernel
theorem dX9_agrees_77 : decode cX9_agrees 77 = .ok (.goto 4, 3) := by decide +kernel
theorem dX9_agrees_80 : decode cX9_agrees 80 = .ok (.iconst 0, 1) := by decide +kernel
theorem dX9_agrees_81 : decode cX9_agrees 81 = .ok (.istore_n 2, 1) := by decide +kernel
theorem dX9_agrees_82 : decode cX9_agrees 82 = .ok (.iinc 3 1, 3) := by decide +kernel
theorem dX9_agrees_85 : decode cX9_agrees 85 = .ok (.goto (-81), 3) := by decide +kernel
theorem dX9_agrees_88 : decode cX9_agrees 88 = .ok (.iload_n 2, 1) := by decide +kernel
theorem dX9_agrees_89 : decode cX9_agrees 89 = .ok (.ireturn, 1) := by decide +kernel
theorem dX9_which_0 : decode cX9_which 0 = .ok (.aload_n 0, 1) := by decide +kernel
theorem dX9_which_1 : decode cX9_which 1 = .ok (.iconst 0, 1) := by decide +kernel
theorem dX9_which_2 : decode cX9_which 2 = .ok (.putfield 65, 3) := by decide +kernel
theorem dX9_which_5 : decode cX9_which 5 = .ok (.iload_n 1, 1) := by decide +kernel
theorem dX9_which_6 : decode cX9_which 6 = .ok (.i2l, 1) := by decide +kernel
theorem dX9_which_7 : decode cX9_which 7 = .ok (.lconst 0, 1) := by decide +kernel
theorem dX9_which_8 : decode cX9_which 8 = .ok (.lconst 1, 1) := by decide +kernel
theorem dX9_which_9 : decode cX9_which 9 = .ok (.invokestatic 77, 3) := by decide +kernel
theorem dX9_which_12 : decode cX9_which 12 = .ok (.ifCond .ne 6, 3) := by decide +kernel
theorem dX9_which_15 : decode cX9_which 15 = .ok (.bipush (-2), 2) := by decide +kernel
theorem dX9_which_17 : decode cX9_which 17 = .ok (.ireturn, 1) := by decide +kernel
theorem dX9_which_18 : decode cX9_which 18 = .ok (.aload_n 0, 1) := by decide +kernel
theorem dX9_which_19 : decode cX9_which 19 = .ok (.aload_n 0, 1) := by decide +kernel
theorem dX9_which_20 : decode cX9_which 20 = .ok (.getfield 16, 3) := by decide +kernel
theorem dX9_which_23 : decode cX9_which 23 = .ok (.iconst 1, 1) := by decide +kernel
theorem dX9_which_24 : decode cX9_which 24 = .ok (.invokevirtual 122, 3) := by decide +kernel
theorem dX9_which_27 : decode cX9_which 27 = .ok (.iconst 0, 1) := by decide +kernel
theorem dX9_which_28 : decode cX9_which 28 = .ok (.istore_n 2, 1) := by decide +kernel
theorem dX9_which_29 : decode cX9_which 29 = .ok (.bipush (-9), 2) := by decide +kernel
theorem dX9_which_31 : decode cX9_which 31 = .ok (.istore_n 3, 1) := by decide +kernel
theorem dX9_which_32 : decode cX9_which 32 = .ok (.aload_n 0, 1) := by decide +kernel
theorem dX9_which_33 : decode cX9_which 33 = .ok (.getfield 112, 3) := by decide +kernel
theorem dX9_which_36 : decode cX9_which 36 = .ok (.iconst 1, 1) := by decide +kernel
theorem dX9_which_37 : decode cX9_which 37 = .ok (.isub, 1) := by decide +kernel
theorem dX9_which_38 : decode cX9_which 38 = .ok (.istore 4, 2) := by decide +kernel
theorem dX9_which_40 : decode cX9_which 40 = .ok (.iload 4, 2) := by decide +kernel
theorem dX9_which_42 : decode cX9_which 42 = .ok (.ifCond .lt 29, 3) := by decide +kernel
theorem dX9_which_45 : decode cX9_which 45 = .ok (.aload_n 0, 1) := by decide +kernel
theorem dX9_which_46 : decode cX9_which 46 = .ok (.aload_n 0, 1) := by decide +kernel
theorem dX9_which_47 : decode cX9_which 47 = .ok (.getfield 44, 3) := by decide +kernel
theorem dX9_which_50 : decode cX9_which 50 = .ok (.iload 4, 2) := by decide +kernel
theorem dX9_which_52 : decode cX9_which 52 = .ok (.iaload, 1) := by decide +kernel
theorem dX9_which_53 : decode cX9_which 53 = .ok (.invokevirtual 253, 3) := by decide +kernel
theorem dX9_which_56 : decode cX9_which 56 = .ok (.ifCond .eq 9, 3) := by decide +kernel
theorem dX9_which_59 : decode cX9_which 59 = .ok (.iinc 2 1, 3) := by decide +kernel
theorem dX9_which_62 : decode cX9_which 62 = .ok (.iload 4, 2) := by decide +kernel
theorem dX9_which_64 : decode cX9_which 64 = .ok (.istore_n 3, 1) := by decide +kernel
theorem dX9_which_65 : decode cX9_which 65 = .ok (.iinc 4 (-1), 3) := by decide +kernel
theorem dX9_which_68 : decode cX9_which 68 = .ok (.goto (-28), 3) := by decide +kernel
theorem dX9_which_71 : decode cX9_which 71 = .ok (.iload_n 1, 1) := by decide +kernel
theorem dX9_which_72 : decode cX9_which 72 = .ok (.ifCond .ne 7, 3) := by decide +kernel
theorem dX9_which_75 : decode cX9_which 75 = .ok (.iload_n 2, 1) := by decide +kernel
theorem dX9_which_76 : decode cX9_which 76 = .ok (.goto 4, 3) := by decide +kernel
theorem dX9_which_79 : decode cX9_which 79 = .ok (.iload_n 3, 1) := by decide +kernel
theorem dX9_which_80 : decode cX9_which 80 = .ok (.ireturn, 1) := by decide +kernel
theorem dX9_listPins_0 : decode cX9_listPins 0 = .ok (.iconst 0, 1) := by decide +kernel
theorem dX9_listPins_1 : decode cX9_listPins 1 = .ok (.istore_n 1, 1) := by decide +kernel
theorem dX9_listPins_2 : decode cX9_listPins 2 = .ok (.iconst 0, 1) := by decide +kernel
theorem dX9_listPins_3 : decode cX9_listPins 3 = .ok (.istore_n 2, 1) := by decide +kernel
theorem dX9_listPins_4 : decode cX9_listPins 4 = .ok (.iload_n 2, 1) := by decide +kernel
theorem dX9_listPins_5 : decode cX9_listPins 5 = .ok (.aload_n 0, 1) := by decide +kernel
theorem dX9_listPins_6 : decode cX9_listPins 6 = .ok (.getfield 16, 3) := by decide +kernel
theorem dX9_listPins_9 : decode cX9_listPins 9 = .ok (.invokestatic 69, 3) := by decide +kernel
theorem dX9_listPins_12 : decode cX9_listPins 12 = .ok (.if_icmp .ge 31, 3) := by decide +kernel
theorem dX9_listPins_15 : decode cX9_listPins 15 = .ok (.aload_n 0, 1) := by decide +kernel
theorem dX9_listPins_16 : decode cX9_listPins 16 = .ok (.getfield 16, 3) := by decide +kernel
theorem dX9_listPins_19 : decode cX9_listPins 19 = .ok (.bipush 11, 2) := by decide +kernel
theorem dX9_listPins_21 : decode cX9_listPins 21 = .ok (.iload_n 2, 1) := by decide +kernel
theorem dX9_listPins_22 : decode cX9_listPins 22 = .ok (.iadd, 1) := by decide +kernel
theorem dX9_listPins_23 : decode cX9_listPins 23 = .ok (.iaload, 1) := by decide +kernel
theorem dX9_listPins_24 : decode cX9_listPins 24 = .ok (.ifCond .le 13, 3) := by decide +kernel
theorem dX9_listPins_27 : decode cX9_listPins 27 = .ok (.aload_n 0, 1) := by decide +kernel
theorem dX9_listPins_28 : decode cX9_listPins 28 = .ok (.getfield 59, 3) := by decide +kernel
theorem dX9_listPins_31 : decode cX9_listPins 31 = .ok (.iload_n 1, 1) := by decide +kernel
theorem dX9_listPins_32 : decode cX9_listPins 32 = .ok (.iload_n 2, 1) := by decide +kernel
theorem dX9_listPins_33 : decode cX9_listPins 33 = .ok (.iastore, 1) := by decide +kernel
theorem dX9_listPins_34 : decode cX9_listPins 34 = .ok (.iinc 1 1, 3) := by decide +kernel
theorem dX9_listPins_37 : decode cX9_listPins 37 = .ok (.iinc 2 1, 3) := by decide +kernel
theorem dX9_listPins_40 : decode cX9_listPins 40 = .ok (.goto (-36), 3) := by decide +kernel
theorem dX9_listPins_43 : decode cX9_listPins 43 = .ok (.iload_n 1, 1) := by decide +kernel
theorem dX9_listPins_44 : decode cX9_listPins 44 = .ok (.ireturn, 1) := by decide +kernel
theorem dX9_holds_0 : decode cX9_holds 0 = .ok (.iconst 1, 1) := by decide +kernel
theorem dX9_holds_1 : decode cX9_holds 1 = .ok (.istore 4, 2) := by decide +kernel
theorem dX9_holds_3 : decode cX9_holds 3 = .ok (.iconst 0, 1) := by decide +kernel
theorem dX9_holds_4 : decode cX9_holds 4 = .ok (.istore 5, 2) := by decide +kernel
theorem dX9_holds_6 : decode cX9_holds 6 = .ok (.iload 5, 2) := by decide +kernel
theorem dX9_holds_8 : decode cX9_holds 8 = .ok (.iload_n 3, 1) := by decide +kernel
theorem dX9_holds_9 : decode cX9_holds 9 = .ok (.if_icmp .ge 72, 3) := by decide +kernel
theorem dX9_holds_12 : decode cX9_holds 12 = .ok (.iload 4, 2) := by decide +kernel
theorem dX9_holds_14 : decode cX9_holds 14 = .ok (.ifCond .eq 58, 3) := by decide +kernel
theorem dX9_holds_17 : decode cX9_holds 17 = .ok (.iload_n 2, 1) := by decide +kernel
theorem dX9_holds_18 : decode cX9_holds 18 = .ok (.iload 5, 2) := by decide +kernel
theorem dX9_holds_20 : decode cX9_holds 20 = .ok (.invokestatic 73, 3) := by decide +kernel
theorem dX9_holds_23 : decode cX9_holds 23 = .ok (.ifCond .eq 45, 3) := by decide +kernel
theorem dX9_holds_26 : decode cX9_holds 26 = .ok (.aload_n 0, 1) := by decide +kernel
theorem dX9_holds_27 : decode cX9_holds 27 = .ok (.getfield 16, 3) := by decide +kernel
theorem dX9_holds_30 : decode cX9_holds 30 = .ok (.iload_n 1, 1) := by decide +kernel
theorem dX9_holds_31 : decode cX9_holds 31 = .ok (.aload_n 0, 1) := by decide +kernel
theorem dX9_holds_32 : decode cX9_holds 32 = .ok (.getfield 59, 3) := by decide +kernel
theorem dX9_holds_35 : decode cX9_holds 35 = .ok (.iload 5, 2) := by decide +kernel
theorem dX9_holds_37 : decode cX9_holds 37 = .ok (.iaload, 1) := by decide +kernel
theorem dX9_holds_38 : decode cX9_holds 38 = .ok (.invokestatic 170, 3) := by decide +kernel
theorem dX9_holds_41 : decode cX9_holds 41 = .ok (.aload_n 0, 1) := by decide +kernel
theorem dX9_holds_42 : decode cX9_holds 42 = .ok (.getfield 16, 3) := by decide +kernel
theorem dX9_holds_45 : decode cX9_holds 45 = .ok (.bipush 11, 2) := by decide +kernel
theorem dX9_holds_47 : decode cX9_holds 47 = .ok (.aload_n 0, 1) := by decide +kernel
theorem dX9_holds_48 : decode cX9_holds 48 = .ok (.getfield 59, 3) := by decide +kernel
theorem dX9_holds_51 : decode cX9_holds 51 = .ok (.iload 5, 2) := by decide +kernel
theorem dX9_holds_53 : decode cX9_holds 53 = .ok (.iaload, 1) := by decide +kernel
theorem dX9_holds_54 : decode cX9_holds 54 = .ok (.iadd, 1) := by decide +kernel
theorem dX9_holds_55 : decode cX9_holds 55 = .ok (.iaload, 1) := by decide +kernel
theorem dX9_holds_56 : decode cX9_holds 56 = .ok (.iconst 1, 1) := by decide +kernel
theorem dX9_holds_57 : decode cX9_holds 57 = .ok (.if_icmp .ne 7, 3) := by decide +kernel
theorem dX9_holds_60 : decode cX9_holds 60 = .ok (.iconst 1, 1) := by decide +kernel
theorem dX9_holds_61 : decode cX9_holds 61 = .ok (.goto 4, 3) := by decide +kernel
theorem dX9_holds_64 : decode cX9_holds 64 = .ok (.iconst 0, 1) := by decide +kernel
theorem dX9_holds_65 : decode cX9_holds 65 = .ok (.if_icmp .ne 7, 3) := by decide +kernel
theorem dX9_holds_68 : decode cX9_holds 68 = .ok (.iconst 1, 1) := by decide +kernel
theorem dX9_holds_69 : decode cX9_holds 69 = .ok (.goto 4, 3) := by decide +kernel
theorem dX9_holds_72 : decode cX9_holds 72 = .ok (.iconst 0, 1) := by decide +kernel
theorem dX9_holds_73 : decode cX9_holds 73 = .ok (.istore 4, 2) := by decide +kernel
theorem dX9_holds_75 : decode cX9_holds 75 = .ok (.iinc 5 1, 3) := by decide +kernel
theorem dX9_holds_78 : decode cX9_holds 78 = .ok (.goto (-72), 3) := by decide +kernel
theorem dX9_holds_81 : decode cX9_holds 81 = .ok (.iload 4, 2) := by decide +kernel
theorem dX9_holds_83 : decode cX9_holds 83 = .ok (.ireturn, 1) := by decide +kernel
theorem dX9_weigh_0 : decode cX9_weigh 0 = .ok (.aload_n 0, 1) := by decide +kernel
theorem dX9_weigh_1 : decode cX9_weigh 1 = .ok (.invokevirtual 256, 3) := by decide +kernel
theorem dX9_weigh_4 : decode cX9_weigh 4 = .ok (.istore_n 1, 1) := by decide +kernel
theorem dX9_weigh_5 : decode cX9_weigh 5 = .ok (.aload_n 0, 1) := by decide +kernel
theorem dX9_weigh_6 : decode cX9_weigh 6 = .ok (.aload_n 0, 1) := by decide +kernel
theorem dX9_weigh_7 : decode cX9_weigh 7 = .ok (.getfield 16, 3) := by decide +kernel
theorem dX9_weigh_10 : decode cX9_weigh 10 = .ok (.iconst 0, 1) := by decide +kernel
theorem dX9_weigh_11 : decode cX9_weigh 11 = .ok (.invokevirtual 122, 3) := by decide +kernel
theorem dX9_weigh_14 : decode cX9_weigh 14 = .ok (.iconst 0, 1) := by decide +kernel
theorem dX9_weigh_15 : decode cX9_weigh 15 = .ok (.istore_n 2, 1) := by decide +kernel
theorem dX9_weigh_16 : decode cX9_weigh 16 = .ok (.iload_n 2, 1) := by decide +kernel
theorem dX9_weigh_17 : decode cX9_weigh 17 = .ok (.iconst 1, 1) := by decide +kernel
theorem dX9_weigh_18 : decode cX9_weigh 18 = .ok (.iload_n 1, 1) := by decide +kernel
theorem dX9_weigh_19 : decode cX9_weigh 19 = .ok (.ishl, 1) := by decide +kernel
theorem dX9_weigh_20 : decode cX9_weigh 20 = .ok (.if_icmp .ge 61, 3) := by decide +kernel
theorem dX9_weigh_23 : decode cX9_weigh 23 = .ok (.aload_n 0, 1) := by decide +kernel
theorem dX9_weigh_24 : decode cX9_weigh 24 = .ok (.getfield 62, 3) := by decide +kernel
theorem dX9_weigh_27 : decode cX9_weigh 27 = .ok (.iload_n 2, 1) := by decide +kernel
theorem dX9_weigh_28 : decode cX9_weigh 28 = .ok (.iconst 0, 1) := by decide +kernel
theorem dX9_weigh_29 : decode cX9_weigh 29 = .ok (.iastore, 1) := by decide +kernel
theorem dX9_weigh_30 : decode cX9_weigh 30 = .ok (.iconst 0, 1) := by decide +kernel
theorem dX9_weigh_31 : decode cX9_weigh 31 = .ok (.istore_n 3, 1) := by decide +kernel
theorem dX9_weigh_32 : decode cX9_weigh 32 = .ok (.iload_n 3, 1) := by decide +kernel
theorem dX9_weigh_33 : decode cX9_weigh 33 = .ok (.aload_n 0, 1) := by decide +kernel
theorem dX9_weigh_34 : decode cX9_weigh 34 = .ok (.getfield 112, 3) := by decide +kernel
theorem dX9_weigh_37 : decode cX9_weigh 37 = .ok (.if_icmp .ge 38, 3) := by decide +kernel
theorem dX9_weigh_40 : decode cX9_weigh 40 = .ok (.aload_n 0, 1) := by decide +kernel
theorem dX9_weigh_41 : decode cX9_weigh 41 = .ok (.getfield 62, 3) := by decide +kernel
theorem dX9_weigh_44 : decode cX9_weigh 44 = .ok (.iload_n 2, 1) := by decide +kernel
theorem dX9_weigh_45 : decode cX9_weigh 45 = .ok (.dup2, 1) := by decide +kernel
theorem dX9_weigh_46 : decode cX9_weigh 46 = .ok (.iaload, 1) := by decide +kernel
theorem dX9_weigh_47 : decode cX9_weigh 47 = .ok (.aload_n 0, 1) := by decide +kernel
theorem dX9_weigh_48 : decode cX9_weigh 48 = .ok (.aload_n 0, 1) := by decide +kernel
theorem dX9_weigh_49 : decode cX9_weigh 49 = .ok (.getfield 44, 3) := by decide +kernel
theorem dX9_weigh_52 : decode cX9_weigh 52 = .ok (.iload_n 3, 1) := by decide +kernel
theorem dX9_weigh_53 : decode cX9_weigh 53 = .ok (.iaload, 1) := by decide +kernel
theorem dX9_weigh_54 : decode cX9_weigh 54 = .ok (.iload_n 2, 1) := by decide +kernel
theorem dX9_weigh_55 : decode cX9_weigh 55 = .ok (.iload_n 1, 1) := by decide +kernel
theorem dX9_weigh_56 : decode cX9_weigh 56 = .ok (.invokevirtual 259, 3) := by decide +kernel
theorem dX9_weigh_59 : decode cX9_weigh 59 = .ok (.ifCond .eq 7, 3) := by decide +kernel
theorem dX9_weigh_62 : decode cX9_weigh 62 = .ok (.iconst 1, 1) := by decide +kernel
theorem dX9_weigh_63 : decode cX9_weigh 63 = .ok (.goto 4, 3) := by decide +kernel
theorem dX9_weigh_66 : decode cX9_weigh 66 = .ok (.iconst 0, 1) := by decide +kernel
theorem dX9_weigh_67 : decode cX9_weigh 67 = .ok (.iadd, 1) := by decide +kernel
theorem dX9_weigh_68 : decode cX9_weigh 68 = .ok (.iastore, 1) := by decide +kernel
theorem dX9_weigh_69 : decode cX9_weigh 69 = .ok (.iinc 3 1, 3) := by decide +kernel
theorem dX9_weigh_72 : decode cX9_weigh 72 = .ok (.goto (-40), 3) := by decide +kernel
theorem dX9_weigh_75 : decode cX9_weigh 75 = .ok (.iinc 2 1, 3) := by decide +kernel
theorem dX9_weigh_78 : decode cX9_weigh 78 = .ok (.goto (-62), 3) := by decide +kernel
theorem dX9_weigh_81 : decode cX9_weigh 81 = .ok (.iload_n 1, 1) := by decide +kernel
theorem dX9_weigh_82 : decode cX9_weigh 82 = .ok (.ireturn, 1) := by decide +kernel
theorem dX9_factorial_0 : decode cX9_factorial 0 = .ok (.iconst 1, 1) := by decide +kernel
theorem dX9_factorial_1 : decode cX9_factorial 1 = .ok (.istore_n 1, 1) := by decide +kernel
theorem dX9_factorial_2 : decode cX9_factorial 2 = .ok (.iconst 2, 1) := by decide +kernel
theorem dX9_factorial_3 : decode cX9_factorial 3 = .ok (.istore_n 2, 1) := by decide +kernel
theorem dX9_factorial_4 : decode cX9_factorial 4 = .ok (.iload_n 2, 1) := by decide +kernel
theorem dX9_factorial_5 : decode cX9_factorial 5 = .ok (.iload_n 0, 1) := by decide +kernel
theorem dX9_factorial_6 : decode cX9_factorial 6 = .ok (.if_icmp .gt 13, 3) := by decide +kernel
theorem dX9_factorial_9 : decode cX9_factorial 9 = .ok (.iload_n 1, 1) := by decide +kernel
theorem dX9_factorial_10 : decode cX9_factorial 10 = .ok (.iload_n 2, 1) := by decide +kernel
theorem dX9_factorial_11 : decode cX9_factorial 11 = .ok (.imul, 1) := by decide +kernel
theorem dX9_factorial_12 : decode cX9_factorial 12 = .ok (.istore_n 1, 1) := by decide +kernel
theorem dX9_factorial_13 : decode cX9_factorial 13 = .ok (.iinc 2 1, 3) := by decide +kernel
theorem dX9_factorial_16 : decode cX9_factorial 16 = .ok (.goto (-12), 3) := by decide +kernel
theorem dX9_factorial_19 : decode cX9_factorial 19 = .ok (.iload_n 1, 1) := by decide +kernel
theorem dX9_factorial_20 : decode cX9_factorial 20 = .ok (.ireturn, 1) := by decide +kernel
theorem dX9_share_0 : decode cX9_share 0 = .ok (.aload_n 0, 1) := by decide +kernel
theorem dX9_share_1 : decode cX9_share 1 = .ok (.iconst 0, 1) := by decide +kernel
theorem dX9_share_2 : decode cX9_share 2 = .ok (.putfield 65, 3) := by decide +kernel
theorem dX9_share_5 : decode cX9_share 5 = .ok (.aload_n 0, 1) := by decide +kernel
theorem dX9_share_6 : decode cX9_share 6 = .ok (.iload_n 1, 1) := by decide +kernel
theorem dX9_share_7 : decode cX9_share 7 = .ok (.invokevirtual 146, 3) := by decide +kernel
theorem dX9_share_10 : decode cX9_share 10 = .ok (.ifCond .eq 5, 3) := by decide +kernel
theorem dX9_share_13 : decode cX9_share 13 = .ok (.iconst (-1), 1) := by decide +kernel
theorem dX9_share_14 : decode cX9_share 14 = .ok (.ireturn, 1) := by decide +kernel
theorem dX9_share_15 : decode cX9_share 15 = .ok (.aload_n 0, 1) := by decide +kernel
theorem dX9_share_16 : decode cX9_share 16 = .ok (.getfield 16, 3) := by decide +kernel
theorem dX9_share_19 : decode cX9_share 19 = .ok (.bipush 11, 2) := by decide +kernel
theorem dX9_share_21 : decode cX9_share 21 = .ok (.iload_n 1, 1) := by decide +kernel
theorem dX9_share_22 : decode cX9_share 22 = .ok (.iadd, 1) := by decide +kernel
theorem dX9_share_23 : decode cX9_share 23 = .ok (.iaload, 1) := by decide +kernel
theorem dX9_share_24 : decode cX9_share 24 = .ok (.ifCond .ne 6, 3) := by decide +kernel
theorem dX9_share_27 : decode cX9_share 27 = .ok (.bipush (-3), 2) := by decide +kernel
theorem dX9_share_29 : decode cX9_share 29 = .ok (.ireturn, 1) := by decide +kernel
theorem dX9_share_30 : decode cX9_share 30 = .ok (.aload_n 0, 1) := by decide +kernel
theorem dX9_share_31 : decode cX9_share 31 = .ok (.invokevirtual 262, 3) := by decide +kernel
theorem dX9_share_34 : decode cX9_share 34 = .ok (.istore_n 3, 1) := by decide +kernel
theorem dX9_share_35 : decode cX9_share 35 = .ok (.iconst 0, 1) := by decide +kernel
theorem dX9_share_36 : decode cX9_share 36 = .ok (.istore 4, 2) := by decide +kernel
theorem dX9_share_38 : decode cX9_share 38 = .ok (.iconst 0, 1) := by decide +kernel
theorem dX9_share_39 : decode cX9_share 39 = .ok (.istore 5, 2) := by decide +kernel
theorem dX9_share_41 : decode cX9_share 41 = .ok (.iload 5, 2) := by decide +kernel
theorem dX9_share_43 : decode cX9_share 43 = .ok (.iload_n 3, 1) := by decide +kernel
theorem dX9_share_44 : decode cX9_share 44 = .ok (.if_icmp .ge 29, 3) := by decide +kernel
theorem dX9_share_47 : decode cX9_share 47 = .ok (.aload_n 0, 1) := by decide +kernel
theorem dX9_share_48 : decode cX9_share 48 = .ok (.getfield 59, 3) := by decide +kernel
theorem dX9_share_51 : decode cX9_share 51 = .ok (.iload 5, 2) := by decide +kernel
theorem dX9_share_53 : decode cX9_share 53 = .ok (.iaload, 1) := by decide +kernel
theorem dX9_share_54 : decode cX9_share 54 = .ok (.iload_n 1, 1) := by decide +kernel
theorem dX9_share_55 : decode cX9_share 55 = .ok (.if_icmp .ne 8, 3) := by decide +kernel
theorem dX9_share_58 : decode cX9_share 58 = .ok (.iload 5, 2) := by decide +kernel
theorem dX9_share_60 : decode cX9_share 60 = .ok (.goto 5, 3) := by decide +kernel
theorem dX9_share_63 : decode cX9_share 63 = .ok (.iload 4, 2) := by decide +kernel
theorem dX9_share_65 : decode cX9_share 65 = .ok (.istore 4, 2) := by decide +kernel
theorem dX9_share_67 : decode cX9_share 67 = .ok (.iinc 5 1, 3) := by decide +kernel
theorem dX9_share_70 : decode cX9_share 70 = .ok (.goto (-29), 3) := by decide +kernel
theorem dX9_share_73 : decode cX9_share 73 = .ok (.iconst 0, 1) := by decide +kernel
theorem dX9_share_74 : decode cX9_share 74 = .ok (.istore 5, 2) := by decide +kernel
theorem dX9_share_76 : decode cX9_share 76 = .ok (.iconst 0, 1) := by decide +kernel
theorem dX9_share_77 : decode cX9_share 77 = .ok (.istore 6, 2) := by decide +kernel
theorem dX9_share_79 : decode cX9_share 79 = .ok (.iload 6, 2) := by decide +kernel
theorem dX9_share_81 : decode cX9_share 81 = .ok (.iconst 1, 1) := by decide +kernel
theorem dX9_share_82 : decode cX9_share 82 = .ok (.iload_n 3, 1) := by decide +kernel
theorem dX9_share_83 : decode cX9_share 83 = .ok (.ishl, 1) := by decide +kernel
theorem dX9_share_84 : decode cX9_share 84 = .ok (.if_icmp .ge 71, 3) := by decide +kernel
theorem dX9_share_87 : decode cX9_share 87 = .ok (.iload 6, 2) := by decide +kernel
theorem dX9_share_89 : decode cX9_share 89 = .ok (.invokestatic 105, 3) := by decide +kernel
theorem dX9_share_92 : decode cX9_share 92 = .ok (.istore 7, 2) := by decide +kernel
theorem dX9_share_94 : decode cX9_share 94 = .ok (.iload 5, 2) := by decide +kernel
theorem dX9_share_96 : decode cX9_share 96 = .ok (.iload 6, 2) := by decide +kernel
theorem dX9_share_98 : decode cX9_share 98 = .ok (.iload 4, 2) := by decide +kernel
theorem dX9_share_100 : decode cX9_share 100 = .ok (.invokestatic 73, 3) := by decide +kernel
theorem dX9_share_103 : decode cX9_share 103 = .ok (.ifCond .eq 7, 3) := by decide +kernel
theorem dX9_share_106 : decode cX9_share 106 = .ok (.iconst 0, 1) := by decide +kernel
theorem dX9_share_107 : decode cX9_share 107 = .ok (.goto 39, 3) := by decide +kernel
theorem dX9_share_110 : decode cX9_share 110 = .ok (.iload 7, 2) := by decide +kernel
theorem dX9_share_112 : decode cX9_share 112 = .ok (.invokestatic 265, 3) := by decide +kernel
theorem dX9_share_115 : decode cX9_share 115 = .ok (.iload_n 3, 1) := by decide +kernel
theorem dX9_share_116 : decode cX9_share 116 = .ok (.iconst 1, 1) := by decide +kernel
theorem dX9_share_117 : decode cX9_share 117 = .ok (.isub, 1) := by decide +kernel
theorem dX9_share_118 : decode cX9_share 118 = .ok (.iload 7, 2) := by decide +kernel
theorem dX9_share_120 : decode cX9_share 120 = .ok (.isub, 1) := by decide +kernel
theorem dX9_share_121 : decode cX9_share 121 = .ok (.invokestatic 265, 3) := by decide +kernel
theorem dX9_share_124 : decode cX9_share 124 = .ok (.imul, 1) := by decide +kernel
theorem dX9_share_125 : decode cX9_share 125 = .ok (.aload_n 0, 1) := by decide +kernel
theorem dX9_share_126 : decode cX9_share 126 = .ok (.getfield 62, 3) := by decide +kernel
theorem dX9_share_129 : decode cX9_share 129 = .ok (.iload 6, 2) := by decide +kernel
theorem dX9_share_131 : decode cX9_share 131 = .ok (.iaload, 1) := by decide +kernel
theorem dX9_share_132 : decode cX9_share 132 = .ok (.aload_n 0, 1) := by decide +kernel
theorem dX9_share_133 : decode cX9_share 133 = .ok (.getfield 62, 3) := by decide +kernel
theorem dX9_share_136 : decode cX9_share 136 = .ok (.iload 6, 2) := by decide +kernel
theorem dX9_share_138 : decode cX9_share 138 = .ok (.iconst 1, 1) := by decide +kernel
theorem dX9_share_139 : decode cX9_share 139 = .ok (.iload 4, 2) := by decide +kernel
theorem dX9_share_141 : decode cX9_share 141 = .ok (.ishl, 1) := by decide +kernel
theorem dX9_share_142 : decode cX9_share 142 = .ok (.ior, 1) := by decide +kernel
theorem dX9_share_143 : decode cX9_share 143 = .ok (.iaload, 1) := by decide +kernel
theorem dX9_share_144 : decode cX9_share 144 = .ok (.isub, 1) := by decide +kernel
theorem dX9_share_145 : decode cX9_share 145 = .ok (.imul, 1) := by decide +kernel
theorem dX9_share_146 : decode cX9_share 146 = .ok (.iadd, 1) := by decide +kernel
theorem dX9_share_147 : decode cX9_share 147 = .ok (.istore 5, 2) := by decide +kernel
theorem dX9_share_149 : decode cX9_share 149 = .ok (.iinc 6 1, 3) := by decide +kernel
theorem dX9_share_152 : decode cX9_share 152 = .ok (.goto (-73), 3) := by decide +kernel
theorem dX9_share_155 : decode cX9_share 155 = .ok (.iload 5, 2) := by decide +kernel
theorem dX9_share_157 : decode cX9_share 157 = .ok (.iload_n 3, 1) := by decide +kernel
theorem dX9_share_158 : decode cX9_share 158 = .ok (.invokestatic 265, 3) := by decide +kernel
theorem dX9_share_161 : decode cX9_share 161 = .ok (.iload_n 2, 1) := by decide +kernel
theorem dX9_share_162 : decode cX9_share 162 = .ok (.invokestatic 185, 3) := by decide +kernel
theorem dX9_share_165 : decode cX9_share 165 = .ok (.ireturn, 1) := by decide +kernel
theorem dX9_power_0 : decode cX9_power 0 = .ok (.iconst 1, 1) := by decide +kernel
theorem dX9_power_1 : decode cX9_power 1 = .ok (.istore_n 2, 1) := by decide +kernel
theorem dX9_power_2 : decode cX9_power 2 = .ok (.iconst 0, 1) := by decide +kernel
theorem dX9_power_3 : decode cX9_power 3 = .ok (.istore_n 3, 1) := by decide +kernel
theorem dX9_power_4 : decode cX9_power 4 = .ok (.iload_n 3, 1) := by decide +kernel
theorem dX9_power_5 : decode cX9_power 5 = .ok (.iload_n 1, 1) := by decide +kernel
theorem dX9_power_6 : decode cX9_power 6 = .ok (.if_icmp .ge 13, 3) := by decide +kernel
theorem dX9_power_9 : decode cX9_power 9 = .ok (.iload_n 2, 1) := by decide +kernel
theorem dX9_power_10 : decode cX9_power 10 = .ok (.iload_n 0, 1) := by decide +kernel
theorem dX9_power_11 : decode cX9_power 11 = .ok (.imul, 1) := by decide +kernel
theorem dX9_power_12 : decode cX9_power 12 = .ok (.istore_n 2, 1) := by decide +kernel
theorem dX9_power_13 : decode cX9_power 13 = .ok (.iinc 3 1, 3) := by decide +kernel
theorem dX9_power_16 : decode cX9_power 16 = .ok (.goto (-12), 3) := by decide +kernel
theorem dX9_power_19 : decode cX9_power 19 = .ok (.iload_n 2, 1) := by decide +kernel
theorem dX9_power_20 : decode cX9_power 20 = .ok (.ireturn, 1) := by decide +kernel
theorem dX9_loose_0 : decode cX9_loose 0 = .ok (.aload_n 0, 1) := by decide +kernel
theorem dX9_loose_1 : decode cX9_loose 1 = .ok (.iconst 0, 1) := by decide +kernel
theorem dX9_loose_2 : decode cX9_loose 2 = .ok (.putfield 65, 3) := by decide +kernel
theorem dX9_loose_5 : decode cX9_loose 5 = .ok (.iload_n 1, 1) := by decide +kernel
theorem dX9_loose_6 : decode cX9_loose 6 = .ok (.i2l, 1) := by decide +kernel
theorem dX9_loose_7 : decode cX9_loose 7 = .ok (.lconst 0, 1) := by decide +kernel
theorem dX9_loose_8 : decode cX9_loose 8 = .ok (.ldc2_w 268, 3) := by decide +kernel
theorem dX9_loose_11 : decode cX9_loose 11 = .ok (.invokestatic 77, 3) := by decide +kernel
theorem dX9_loose_14 : decode cX9_loose 14 = .ok (.ifCond .ne 6, 3) := by decide +kernel
theorem dX9_loose_17 : decode cX9_loose 17 = .ok (.bipush (-2), 2) := by decide +kernel
theorem dX9_loose_19 : decode cX9_loose 19 = .ok (.ireturn, 1) := by decide +kernel
theorem dX9_loose_20 : decode cX9_loose 20 = .ok (.aload_n 0, 1) := by decide +kernel
theorem dX9_loose_21 : decode cX9_loose 21 = .ok (.invokevirtual 262, 3) := by decide +kernel
theorem dX9_loose_24 : decode cX9_loose 24 = .ok (.istore_n 3, 1) := by decide +kernel
theorem dX9_loose_25 : decode cX9_loose 25 = .ok (.iconst 0, 1) := by decide +kernel
theorem dX9_loose_26 : decode cX9_loose 26 = .ok (.istore 4, 2) := by decide +kernel
theorem dX9_loose_28 : decode cX9_loose 28 = .ok (.iconst 0, 1) := by decide +kernel
theorem dX9_loose_29 : decode cX9_loose 29 = .ok (.istore 5, 2) := by decide +kernel
theorem dX9_loose_31 : decode cX9_loose 31 = .ok (.iload 5, 2) := by decide +kernel
theorem dX9_loose_33 : decode cX9_loose 33 = .ok (.iconst 1, 1) := by decide +kernel
theorem dX9_loose_34 : decode cX9_loose 34 = .ok (.iload_n 3, 1) := by decide +kernel
theorem dX9_loose_35 : decode cX9_loose 35 = .ok (.ishl, 1) := by decide +kernel
theorem dX9_loose_36 : decode cX9_loose 36 = .ok (.if_icmp .ge 54, 3) := by decide +kernel
theorem dX9_loose_39 : decode cX9_loose 39 = .ok (.iload 5, 2) := by decide +kernel
theorem dX9_loose_41 : decode cX9_loose 41 = .ok (.invokestatic 105, 3) := by decide +kernel
theorem dX9_loose_44 : decode cX9_loose 44 = .ok (.istore 6, 2) := by decide +kernel
theorem dX9_loose_46 : decode cX9_loose 46 = .ok (.iload 4, 2) := by decide +kernel
theorem dX9_loose_48 : decode cX9_loose 48 = .ok (.aload_n 0, 1) := by decide +kernel
theorem dX9_loose_49 : decode cX9_loose 49 = .ok (.getfield 62, 3) := by decide +kernel
theorem dX9_loose_52 : decode cX9_loose 52 = .ok (.iload 5, 2) := by decide +kernel
theorem dX9_loose_54 : decode cX9_loose 54 = .ok (.iaload, 1) := by decide +kernel
theorem dX9_loose_55 : decode cX9_loose 55 = .ok (.iconst 1, 1) := by decide +kernel
theorem dX9_loose_56 : decode cX9_loose 56 = .ok (.if_icmp .ne 24, 3) := by decide +kernel
theorem dX9_loose_59 : decode cX9_loose 59 = .ok (.bipush 10, 2) := by decide +kernel
theorem dX9_loose_61 : decode cX9_loose 61 = .ok (.iload_n 1, 1) := by decide +kernel
theorem dX9_loose_62 : decode cX9_loose 62 = .ok (.isub, 1) := by decide +kernel
theorem dX9_loose_63 : decode cX9_loose 63 = .ok (.iload 6, 2) := by decide +kernel
theorem dX9_loose_65 : decode cX9_loose 65 = .ok (.invokestatic 270, 3) := by decide +kernel
theorem dX9_loose_68 : decode cX9_loose 68 = .ok (.iload_n 1, 1) := by decide +kernel
theorem dX9_loose_69 : decode cX9_loose 69 = .ok (.iload_n 3, 1) := by decide +kernel
theorem dX9_loose_70 : decode cX9_loose 70 = .ok (.iload 6, 2) := by decide +kernel
theorem dX9_loose_72 : decode cX9_loose 72 = .ok (.isub, 1) := by decide +kernel
theorem dX9_loose_73 : decode cX9_loose 73 = .ok (.invokestatic 270, 3) := by decide +kernel
theorem dX9_loose_76 : decode cX9_loose 76 = .ok (.imul, 1) := by decide +kernel
theorem dX9_loose_77 : decode cX9_loose 77 = .ok (.goto 4, 3) := by decide +kernel
theorem dX9_loose_80 : decode cX9_loose 80 = .ok (.iconst 0, 1) := by decide +kernel
theorem dX9_loose_81 : decode cX9_loose 81 = .ok (.iadd, 1) := by decide +kernel
theorem dX9_loose_82 : decode cX9_loose 82 = .ok (.istore 4, 2) := by decide +kernel
theorem dX9_loose_84 : decode cX9_loose 84 = .ok (.iinc 5 1, 3) := by decide +kernel
theorem dX9_loose_87 : decode cX9_loose 87 = .ok (.goto (-56), 3) := by decide +kernel
theorem dX9_loose_90 : decode cX9_loose 90 = .ok (.iload 4, 2) := by decide +kernel
theorem dX9_loose_92 : decode cX9_loose 92 = .ok (.bipush 10, 2) := by decide +kernel
theorem dX9_loose_94 : decode cX9_loose 94 = .ok (.iload_n 3, 1) := by decide +kernel
theorem dX9_loose_95 : decode cX9_loose 95 = .ok (.invokestatic 270, 3) := by decide +kernel
theorem dX9_loose_98 : decode cX9_loose 98 = .ok (.iload_n 2, 1) := by decide +kernel
theorem dX9_loose_99 : decode cX9_loose 99 = .ok (.invokestatic 185, 3) := by decide +kernel
theorem dX9_loose_102 : decode cX9_loose 102 = .ok (.ireturn, 1) := by decide +kernel
theorem dX9_seed_0 : decode cX9_seed 0 = .ok (.aload_n 0, 1) := by decide +kernel
theorem dX9_seed_1 : decode cX9_seed 1 = .ok (.iconst 0, 1) := by decide +kernel
theorem dX9_seed_2 : decode cX9_seed 2 = .ok (.putfield 65, 3) := by decide +kernel
theorem dX9_seed_5 : decode cX9_seed 5 = .ok (.aload_n 0, 1) := by decide +kernel
theorem dX9_seed_6 : decode cX9_seed 6 = .ok (.getfield 273, 3) := by decide +kernel
theorem dX9_seed_9 : decode cX9_seed 9 = .ok (.lstore_n 3, 1) := by decide +kernel
theorem dX9_seed_10 : decode cX9_seed 10 = .ok (.aload_n 0, 1) := by decide +kernel
theorem dX9_seed_11 : decode cX9_seed 11 = .ok (.lload_n 1, 1) := by decide +kernel
theorem dX9_seed_12 : decode cX9_seed 12 = .ok (.putfield 273, 3) := by decide +kernel
theorem dX9_seed_15 : decode cX9_seed 15 = .ok (.lload_n 3, 1) := by decide +kernel
theorem dX9_seed_16 : decode cX9_seed 16 = .ok (.lreturn, 1) := by decide +kernel
theorem dX9_drawn_0 : decode cX9_drawn 0 = .ok (.aload_n 0, 1) := by decide +kernel
theorem dX9_drawn_1 : decode cX9_drawn 1 = .ok (.iconst 0, 1) := by decide +kernel
theorem dX9_drawn_2 : decode cX9_drawn 2 = .ok (.putfield 65, 3) := by decide +kernel
theorem dX9_drawn_5 : decode cX9_drawn 5 = .ok (.iload_n 1, 1) := by decide +kernel
theorem dX9_drawn_6 : decode cX9_drawn 6 = .ok (.i2l, 1) := by decide +kernel
theorem dX9_drawn_7 : decode cX9_drawn 7 = .ok (.lconst 1, 1) := by decide +kernel
theorem dX9_drawn_8 : decode cX9_drawn 8 = .ok (.ldc2_w 277, 3) := by decide +kernel
theorem dX9_drawn_11 : decode cX9_drawn 11 = .ok (.invokestatic 77, 3) := by decide +kernel
theorem dX9_drawn_14 : decode cX9_drawn 14 = .ok (.ifCond .ne 6, 3) := by decide +kernel
theorem dX9_drawn_17 : decode cX9_drawn 17 = .ok (.bipush (-2), 2) := by decide +kernel
theorem dX9_drawn_19 : decode cX9_drawn 19 = .ok (.ireturn, 1) := by decide +kernel
theorem dX9_drawn_20 : decode cX9_drawn 20 = .ok (.aload_n 0, 1) := by decide +kernel
theorem dX9_drawn_21 : decode cX9_drawn 21 = .ok (.aload_n 0, 1) := by decide +kernel
theorem dX9_drawn_22 : decode cX9_drawn 22 = .ok (.getfield 16, 3) := by decide +kernel
theorem dX9_drawn_25 : decode cX9_drawn 25 = .ok (.iconst 1, 1) := by decide +kernel
theorem dX9_drawn_26 : decode cX9_drawn 26 = .ok (.invokevirtual 122, 3) := by decide +kernel
theorem dX9_drawn_29 : decode cX9_drawn 29 = .ok (.aload_n 0, 1) := by decide +kernel
theorem dX9_drawn_30 : decode cX9_drawn 30 = .ok (.getfield 19, 3) := by decide +kernel
theorem dX9_drawn_33 : decode cX9_drawn 33 = .ok (.aload_n 0, 1) := by decide +kernel
theorem dX9_drawn_34 : decode cX9_drawn 34 = .ok (.getfield 16, 3) := by decide +kernel
theorem dX9_drawn_37 : decode cX9_drawn 37 = .ok (.invokestatic 129, 3) := by decide +kernel
theorem dX9_drawn_40 : decode cX9_drawn 40 = .ok (.aload_n 0, 1) := by decide +kernel
theorem dX9_drawn_41 : decode cX9_drawn 41 = .ok (.getfield 16, 3) := by decide +kernel
theorem dX9_drawn_44 : decode cX9_drawn 44 = .ok (.iconst 0, 1) := by decide +kernel
theorem dX9_drawn_45 : decode cX9_drawn 45 = .ok (.iaload, 1) := by decide +kernel
theorem dX9_drawn_46 : decode cX9_drawn 46 = .ok (.istore_n 2, 1) := by decide +kernel
theorem dX9_drawn_47 : decode cX9_drawn 47 = .ok (.aload_n 0, 1) := by decide +kernel
theorem dX9_drawn_48 : decode cX9_drawn 48 = .ok (.getfield 16, 3) := by decide +kernel
theorem dX9_drawn_51 : decode cX9_drawn 51 = .ok (.iconst 1, 1) := by decide +kernel
theorem dX9_drawn_52 : decode cX9_drawn 52 = .ok (.iaload, 1) := by decide +kernel
theorem dX9_drawn_53 : decode cX9_drawn 53 = .ok (.istore_n 3, 1) := by decide +kernel
theorem dX9_drawn_54 : decode cX9_drawn 54 = .ok (.iconst 0, 1) := by decide +kernel
theorem dX9_drawn_55 : decode cX9_drawn 55 = .ok (.istore 4, 2) := by decide +kernel
theorem dX9_drawn_57 : decode cX9_drawn 57 = .ok (.iconst 0, 1) := by decide +kernel
theorem dX9_drawn_58 : decode cX9_drawn 58 = .ok (.istore 5, 2) := by decide +kernel
theorem dX9_drawn_60 : decode cX9_drawn 60 = .ok (.iload 5, 2) := by decide +kernel
theorem dX9_drawn_62 : decode cX9_drawn 62 = .ok (.iload_n 1, 1) := by decide +kernel
theorem dX9_drawn_63 : decode cX9_drawn 63 = .ok (.if_icmp .ge 97, 3) := by decide +kernel
theorem dX9_drawn_66 : decode cX9_drawn 66 = .ok (.aload_n 0, 1) := by decide +kernel
theorem dX9_drawn_67 : decode cX9_drawn 67 = .ok (.aload_n 0, 1) := by decide +kernel
theorem dX9_drawn_68 : decode cX9_drawn 68 = .ok (.getfield 273, 3) := by decide +kernel
theorem dX9_drawn_71 : decode cX9_drawn 71 = .ok (.ldc2_w 279, 3) := by decide +kernel
theorem dX9_drawn_74 : decode cX9_drawn 74 = .ok (.lmul, 1) := by decide +kernel
theorem dX9_drawn_75 : decode cX9_drawn 75 = .ok (.ldc2_w 281, 3) := by decide +kernel
theorem dX9_drawn_78 : decode cX9_drawn 78 = .ok (.ladd, 1) := by decide +kernel
theorem dX9_drawn_79 : decode cX9_drawn 79 = .ok (.putfield 273, 3) := by decide +kernel
theorem dX9_drawn_82 : decode cX9_drawn 82 = .ok (.aload_n 0, 1) := by decide +kernel
theorem dX9_drawn_83 : decode cX9_drawn 83 = .ok (.getfield 273, 3) := by decide +kernel
theorem dX9_drawn_86 : decode cX9_drawn 86 = .ok (.bipush 33, 2) := by decide +kernel
theorem dX9_drawn_88 : decode cX9_drawn 88 = .ok (.lushr, 1) := by decide +kernel
theorem dX9_drawn_89 : decode cX9_drawn 89 = .ok (.l2i, 1) := by decide +kernel
theorem dX9_drawn_90 : decode cX9_drawn 90 = .ok (.istore 6, 2) := by decide +kernel
theorem dX9_drawn_92 : decode cX9_drawn 92 = .ok (.aload_n 0, 1) := by decide +kernel
theorem dX9_drawn_93 : decode cX9_drawn 93 = .ok (.iload 6, 2) := by decide +kernel
theorem dX9_drawn_95 : decode cX9_drawn 95 = .ok (.iload_n 2, 1) := by decide +kernel
theorem dX9_drawn_96 : decode cX9_drawn 96 = .ok (.irem, 1) := by decide +kernel
theorem dX9_drawn_97 : decode cX9_drawn 97 = .ok (.iload 6, 2) := by decide +kernel
theorem dX9_drawn_99 : decode cX9_drawn 99 = .ok (.iconst 4, 1) := by decide +kernel
theorem dX9_drawn_100 : decode cX9_drawn 100 = .ok (.idiv, 1) := by decide +kernel
theorem dX9_drawn_101 : decode cX9_drawn 101 = .ok (.iload_n 2, 1) := by decide +kernel
theorem dX9_drawn_102 : decode cX9_drawn 102 = .ok (.irem, 1) := by decide +kernel
theorem dX9_drawn_103 : decode cX9_drawn 103 = .ok (.iload 6, 2) := by decide +kernel
theorem dX9_drawn_105 : decode cX9_drawn 105 = .ok (.bipush 16, 2) := by decide +kernel
theorem dX9_drawn_107 : decode cX9_drawn 107 = .ok (.idiv, 1) := by decide +kernel
theorem dX9_drawn_108 : decode cX9_drawn 108 = .ok (.iload_n 3, 1) := by decide +kernel
theorem dX9_drawn_109 : decode cX9_drawn 109 = .ok (.irem, 1) := by decide +kernel
theorem dX9_drawn_110 : decode cX9_drawn 110 = .ok (.iload 6, 2) := by decide +kernel
theorem dX9_drawn_112 : decode cX9_drawn 112 = .ok (.sipush 128, 3) := by decide +kernel
theorem dX9_drawn_115 : decode cX9_drawn 115 = .ok (.idiv, 1) := by decide +kernel
theorem dX9_drawn_116 : decode cX9_drawn 116 = .ok (.iload_n 3, 1) := by decide +kernel
theorem dX9_drawn_117 : decode cX9_drawn 117 = .ok (.irem, 1) := by decide +kernel
theorem dX9_drawn_118 : decode cX9_drawn 118 = .ok (.invokevirtual 226, 3) := by decide +kernel
theorem dX9_drawn_121 : decode cX9_drawn 121 = .ok (.pop, 1) := by decide +kernel
theorem dX9_drawn_122 : decode cX9_drawn 122 = .ok (.iload 4, 2) := by decide +kernel
theorem dX9_drawn_124 : decode cX9_drawn 124 = .ok (.aload_n 0, 1) := by decide +kernel
theorem dX9_drawn_125 : decode cX9_drawn 125 = .ok (.getfield 19, 3) := by decide +kernel
theorem dX9_drawn_128 : decode cX9_drawn 128 = .ok (.bipush 31, 2) := by decide +kernel
theorem dX9_drawn_130 : decode cX9_drawn 130 = .ok (.iaload, 1) := by decide +kernel
theorem dX9_drawn_131 : decode cX9_drawn 131 = .ok (.bipush (-9), 2) := by decide +kernel
theorem dX9_drawn_133 : decode cX9_drawn 133 = .ok (.if_icmp .ne 7, 3) := by decide +kernel
theorem dX9_drawn_136 : decode cX9_drawn 136 = .ok (.iconst 0, 1) := by decide +kernel
theorem dX9_drawn_137 : decode cX9_drawn 137 = .ok (.goto 14, 3) := by decide +kernel
theorem dX9_drawn_140 : decode cX9_drawn 140 = .ok (.aload_n 0, 1) := by decide +kernel
theorem dX9_drawn_141 : decode cX9_drawn 141 = .ok (.aload_n 0, 1) := by decide +kernel
theorem dX9_drawn_142 : decode cX9_drawn 142 = .ok (.getfield 19, 3) := by decide +kernel
theorem dX9_drawn_145 : decode cX9_drawn 145 = .ok (.bipush 31, 2) := by decide +kernel
theorem dX9_drawn_147 : decode cX9_drawn 147 = .ok (.iaload, 1) := by decide +kernel
theorem dX9_drawn_148 : decode cX9_drawn 148 = .ok (.invokevirtual 126, 3) := by decide +kernel
theorem dX9_drawn_151 : decode cX9_drawn 151 = .ok (.iadd, 1) := by decide +kernel
theorem dX9_drawn_152 : decode cX9_drawn 152 = .ok (.istore 4, 2) := by decide +kernel
theorem dX9_drawn_154 : decode cX9_drawn 154 = .ok (.iinc 5 1, 3) := by decide +kernel
theorem dX9_drawn_157 : decode cX9_drawn 157 = .ok (.goto (-97), 3) := by decide +kernel
theorem dX9_drawn_160 : decode cX9_drawn 160 = .ok (.iload 4, 2) := by decide +kernel
theorem dX9_drawn_162 : decode cX9_drawn 162 = .ok (.ireturn, 1) := by decide +kernel
theorem dX9_keep_0 : decode cX9_keep 0 = .ok (.aload_n 0, 1) := by decide +kernel
theorem dX9_keep_1 : decode cX9_keep 1 = .ok (.iconst 0, 1) := by decide +kernel
theorem dX9_keep_2 : decode cX9_keep 2 = .ok (.putfield 65, 3) := by decide +kernel
theorem dX9_keep_5 : decode cX9_keep 5 = .ok (.iload_n 1, 1) := by decide +kernel
theorem dX9_keep_6 : decode cX9_keep 6 = .ok (.i2l, 1) := by decide +kernel
theorem dX9_keep_7 : decode cX9_keep 7 = .ok (.lconst 0, 1) := by decide +kernel
theorem dX9_keep_8 : decode cX9_keep 8 = .ok (.lconst 1, 1) := by decide +kernel
theorem dX9_keep_9 : decode cX9_keep 9 = .ok (.invokestatic 77, 3) := by decide +kernel
theorem dX9_keep_12 : decode cX9_keep 12 = .ok (.ifCond .ne 5, 3) := by decide +kernel
theorem dX9_keep_15 : decode cX9_keep 15 = .ok (.iconst (-1), 1) := by decide +kernel
theorem dX9_keep_16 : decode cX9_keep 16 = .ok (.ireturn, 1) := by decide +kernel
theorem dX9_keep_17 : decode cX9_keep 17 = .ok (.aload_n 0, 1) := by decide +kernel
theorem dX9_keep_18 : decode cX9_keep 18 = .ok (.getfield 28, 3) := by decide +kernel
theorem dX9_keep_21 : decode cX9_keep 21 = .ok (.iload_n 1, 1) := by decide +kernel
theorem dX9_keep_22 : decode cX9_keep 22 = .ok (.iconst 1, 1) := by decide +kernel
theorem dX9_keep_23 : decode cX9_keep 23 = .ok (.bastore, 1) := by decide +kernel
theorem dX9_keep_24 : decode cX9_keep 24 = .ok (.iconst 0, 1) := by decide +kernel
theorem dX9_keep_25 : decode cX9_keep 25 = .ok (.istore_n 2, 1) := by decide +kernel
theorem dX9_keep_26 : decode cX9_keep 26 = .ok (.iload_n 2, 1) := by decide +kernel
theorem dX9_keep_27 : decode cX9_keep 27 = .ok (.bipush 32, 2) := by decide +kernel
theorem dX9_keep_29 : decode cX9_keep 29 = .ok (.if_icmp .ge 26, 3) := by decide +kernel
theorem dX9_keep_32 : decode cX9_keep 32 = .ok (.aload_n 0, 1) := by decide +kernel
theorem dX9_keep_33 : decode cX9_keep 33 = .ok (.getfield 25, 3) := by decide +kernel
theorem dX9_keep_36 : decode cX9_keep 36 = .ok (.bipush 32, 2) := by decide +kernel
theorem dX9_keep_38 : decode cX9_keep 38 = .ok (.iload_n 1, 1) := by decide +kernel
theorem dX9_keep_39 : decode cX9_keep 39 = .ok (.imul, 1) := by decide +kernel
theorem dX9_keep_40 : decode cX9_keep 40 = .ok (.iload_n 2, 1) := by decide +kernel
theorem dX9_keep_41 : decode cX9_keep 41 = .ok (.iadd, 1) := by decide +kernel
theorem dX9_keep_42 : decode cX9_keep 42 = .ok (.aload_n 0, 1) := by decide +kernel
theorem dX9_keep_43 : decode cX9_keep 43 = .ok (.getfield 16, 3) := by decide +kernel
theorem dX9_keep_46 : decode cX9_keep 46 = .ok (.iload_n 2, 1) := by decide +kernel
theorem dX9_keep_47 : decode cX9_keep 47 = .ok (.iaload, 1) := by decide +kernel
theorem dX9_keep_48 : decode cX9_keep 48 = .ok (.iastore, 1) := by decide +kernel
theorem dX9_keep_49 : decode cX9_keep 49 = .ok (.iinc 2 1, 3) := by decide +kernel
theorem dX9_keep_52 : decode cX9_keep 52 = .ok (.goto (-26), 3) := by decide +kernel
theorem dX9_keep_55 : decode cX9_keep 55 = .ok (.aload_n 0, 1) := by decide +kernel
theorem dX9_keep_56 : decode cX9_keep 56 = .ok (.getfield 16, 3) := by decide +kernel
theorem dX9_keep_59 : decode cX9_keep 59 = .ok (.invokestatic 69, 3) := by decide +kernel
theorem dX9_keep_62 : decode cX9_keep 62 = .ok (.ireturn, 1) := by decide +kernel
theorem dX9_again_0 : decode cX9_again 0 = .ok (.aload_n 0, 1) := by decide +kernel
theorem dX9_again_1 : decode cX9_again 1 = .ok (.iconst 0, 1) := by decide +kernel
theorem dX9_again_2 : decode cX9_again 2 = .ok (.putfield 65, 3) := by decide +kernel
theorem dX9_again_5 : decode cX9_again 5 = .ok (.iload_n 1, 1) := by decide +kernel
theorem dX9_again_6 : decode cX9_again 6 = .ok (.i2l, 1) := by decide +kernel
theorem dX9_again_7 : decode cX9_again 7 = .ok (.lconst 0, 1) := by decide +kernel
theorem dX9_again_8 : decode cX9_again 8 = .ok (.lconst 1, 1) := by decide +kernel
theorem dX9_again_9 : decode cX9_again 9 = .ok (.invokestatic 77, 3) := by decide +kernel
theorem dX9_again_12 : decode cX9_again 12 = .ok (.ifCond .ne 5, 3) := by decide +kernel
theorem dX9_again_15 : decode cX9_again 15 = .ok (.iconst (-1), 1) := by decide +kernel
theorem dX9_again_16 : decode cX9_again 16 = .ok (.ireturn, 1) := by decide +kernel
theorem dX9_again_17 : decode cX9_again 17 = .ok (.aload_n 0, 1) := by decide +kernel
theorem dX9_again_18 : decode cX9_again 18 = .ok (.getfield 28, 3) := by decide +kernel
theorem dX9_again_21 : decode cX9_again 21 = .ok (.iload_n 1, 1) := by decide +kernel
theorem dX9_again_22 : decode cX9_again 22 = .ok (.baload, 1) := by decide +kernel
theorem dX9_again_23 : decode cX9_again 23 = .ok (.ifCond .ne 6, 3) := by decide +kernel
theorem dX9_again_26 : decode cX9_again 26 = .ok (.bipush (-3), 2) := by decide +kernel
theorem dX9_again_28 : decode cX9_again 28 = .ok (.ireturn, 1) := by decide +kernel
theorem dX9_again_29 : decode cX9_again 29 = .ok (.iconst 0, 1) := by decide +kernel
theorem dX9_again_30 : decode cX9_again 30 = .ok (.istore_n 2, 1) := by decide +kernel
theorem dX9_again_31 : decode cX9_again 31 = .ok (.iload_n 2, 1) := by decide +kernel
theorem dX9_again_32 : decode cX9_again 32 = .ok (.bipush 32, 2) := by decide +kernel
theorem dX9_again_34 : decode cX9_again 34 = .ok (.if_icmp .ge 26, 3) := by decide +kernel
theorem dX9_again_37 : decode cX9_again 37 = .ok (.aload_n 0, 1) := by decide +kernel
theorem dX9_again_38 : decode cX9_again 38 = .ok (.getfield 16, 3) := by decide +kernel
theorem dX9_again_41 : decode cX9_again 41 = .ok (.iload_n 2, 1) := by decide +kernel
theorem dX9_again_42 : decode cX9_again 42 = .ok (.aload_n 0, 1) := by decide +kernel
theorem dX9_again_43 : decode cX9_again 43 = .ok (.getfield 25, 3) := by decide +kernel
theorem dX9_again_46 : decode cX9_again 46 = .ok (.bipush 32, 2) := by decide +kernel
theorem dX9_again_48 : decode cX9_again 48 = .ok (.iload_n 1, 1) := by decide +kernel
theorem dX9_again_49 : decode cX9_again 49 = .ok (.imul, 1) := by decide +kernel
theorem dX9_again_50 : decode cX9_again 50 = .ok (.iload_n 2, 1) := by decide +kernel
theorem dX9_again_51 : decode cX9_again 51 = .ok (.iadd, 1) := by decide +kernel
theorem dX9_again_52 : decode cX9_again 52 = .ok (.iaload, 1) := by decide +kernel
theorem dX9_again_53 : decode cX9_again 53 = .ok (.iastore, 1) := by decide +kernel
theorem dX9_again_54 : decode cX9_again 54 = .ok (.iinc 2 1, 3) := by decide +kernel
theorem dX9_again_57 : decode cX9_again 57 = .ok (.goto (-26), 3) := by decide +kernel
theorem dX9_again_60 : decode cX9_again 60 = .ok (.aload_n 0, 1) := by decide +kernel
theorem dX9_again_61 : decode cX9_again 61 = .ok (.iconst 0, 1) := by decide +kernel
theorem dX9_again_62 : decode cX9_again 62 = .ok (.putfield 137, 3) := by decide +kernel
theorem dX9_again_65 : decode cX9_again 65 = .ok (.aload_n 0, 1) := by decide +kernel
theorem dX9_again_66 : decode cX9_again 66 = .ok (.getfield 16, 3) := by decide +kernel
theorem dX9_again_69 : decode cX9_again 69 = .ok (.invokestatic 69, 3) := by decide +kernel
theorem dX9_again_72 : decode cX9_again 72 = .ok (.ireturn, 1) := by decide +kernel
theorem dX9_openCells_0 : decode cX9_openCells 0 = .ok (.aload_n 0, 1) := by decide +kernel
theorem dX9_openCells_1 : decode cX9_openCells 1 = .ok (.aload_n 0, 1) := by decide +kernel
theorem dX9_openCells_2 : decode cX9_openCells 2 = .ok (.getfield 16, 3) := by decide +kernel
theorem dX9_openCells_5 : decode cX9_openCells 5 = .ok (.iconst 1, 1) := by decide +kernel
theorem dX9_openCells_6 : decode cX9_openCells 6 = .ok (.invokevirtual 122, 3) := by decide +kernel
theorem dX9_openCells_9 : decode cX9_openCells 9 = .ok (.iconst 0, 1) := by decide +kernel
theorem dX9_openCells_10 : decode cX9_openCells 10 = .ok (.istore_n 1, 1) := by decide +kernel
theorem dX9_openCells_11 : decode cX9_openCells 11 = .ok (.iconst 0, 1) := by decide +kernel
theorem dX9_openCells_12 : decode cX9_openCells 12 = .ok (.istore_n 2, 1) := by decide +kernel
theorem dX9_openCells_13 : decode cX9_openCells 13 = .ok (.iload_n 2, 1) := by decide +kernel
theorem dX9_openCells_14 : decode cX9_openCells 14 = .ok (.aload_n 0, 1) := by decide +kernel
theorem dX9_openCells_15 : decode cX9_openCells 15 = .ok (.getfield 16, 3) := by decide +kernel
theorem dX9_openCells_18 : decode cX9_openCells 18 = .ok (.invokestatic 69, 3) := by decide +kernel
theorem dX9_openCells_21 : decode cX9_openCells 21 = .ok (.if_icmp .ge 30, 3) := by decide +kernel
theorem dX9_openCells_24 : decode cX9_openCells 24 = .ok (.iload_n 1, 1) := by decide +kernel
theorem dX9_openCells_25 : decode cX9_openCells 25 = .ok (.aload_n 0, 1) := by decide +kernel
theorem dX9_openCells_26 : decode cX9_openCells 26 = .ok (.aload_n 0, 1) := by decide +kernel
theorem dX9_openCells_27 : decode cX9_openCells 27 = .ok (.getfield 16, 3) := by decide +kernel
theorem dX9_openCells_30 : decode cX9_openCells 30 = .ok (.iload_n 2, 1) := by decide +kernel
theorem dX9_openCells_31 : decode cX9_openCells 31 = .ok (.invokevirtual 179, 3) := by decide +kernel
theorem dX9_openCells_34 : decode cX9_openCells 34 = .ok (.iconst 2, 1) := by decide +kernel
theorem dX9_openCells_35 : decode cX9_openCells 35 = .ok (.if_icmp .ne 7, 3) := by decide +kernel
theorem dX9_openCells_38 : decode cX9_openCells 38 = .ok (.iconst 1, 1) := by decide +kernel
theorem dX9_openCells_39 : decode cX9_openCells 39 = .ok (.goto 4, 3) := by decide +kernel
theorem dX9_openCells_42 : decode cX9_openCells 42 = .ok (.iconst 0, 1) := by decide +kernel
theorem dX9_openCells_43 : decode cX9_openCells 43 = .ok (.iadd, 1) := by decide +kernel
theorem dX9_openCells_44 : decode cX9_openCells 44 = .ok (.istore_n 1, 1) := by decide +kernel
theorem dX9_openCells_45 : decode cX9_openCells 45 = .ok (.iinc 2 1, 3) := by decide +kernel
theorem dX9_openCells_48 : decode cX9_openCells 48 = .ok (.goto (-35), 3) := by decide +kernel
theorem dX9_openCells_51 : decode cX9_openCells 51 = .ok (.iload_n 1, 1) := by decide +kernel
theorem dX9_openCells_52 : decode cX9_openCells 52 = .ok (.ireturn, 1) := by decide +kernel
theorem dX9_count_0 : decode cX9_count 0 = .ok (.aload_n 0, 1) := by decide +kernel
theorem dX9_count_1 : decode cX9_count 1 = .ok (.iconst 0, 1) := by decide +kernel
theorem dX9_count_2 : decode cX9_count 2 = .ok (.putfield 65, 3) := by decide +kernel
theorem dX9_count_5 : decode cX9_count 5 = .ok (.iload_n 1, 1) := by decide +kernel
theorem dX9_count_6 : decode cX9_count 6 = .ok (.tableswitch 149 0 9 #[54, 59, 59, 68, 76, 103, 108, 113, 118, 133], 54) := by decide +kernel
theorem dX9_count_60 : decode cX9_count 60 = .ok (.aload_n 0, 1) := by decide +kernel
theorem dX9_count_61 : decode cX9_count 61 = .ok (.getfield 83, 3) := by decide +kernel
theorem dX9_count_64 : decode cX9_count 64 = .ok (.ireturn, 1) := by decide +kernel
theorem dX9_count_65 : decode cX9_count 65 = .ok (.aload_n 0, 1) := by decide +kernel
theorem dX9_count_66 : decode cX9_count 66 = .ok (.getfield 16, 3) := by decide +kernel
theorem dX9_count_69 : decode cX9_count 69 = .ok (.iload_n 1, 1) := by decide +kernel
theorem dX9_count_70 : decode cX9_count 70 = .ok (.iconst 1, 1) := by decide +kernel
theorem dX9_count_71 : decode cX9_count 71 = .ok (.isub, 1) := by decide +kernel
theorem dX9_count_72 : decode cX9_count 72 = .ok (.iaload, 1) := by decide +kernel
theorem dX9_count_73 : decode cX9_count 73 = .ok (.ireturn, 1) := by decide +kernel
theorem dX9_count_74 : decode cX9_count 74 = .ok (.aload_n 0, 1) := by decide +kernel
theorem dX9_count_75 : decode cX9_count 75 = .ok (.getfield 16, 3) := by decide +kernel
theorem dX9_count_78 : decode cX9_count 78 = .ok (.invokestatic 86, 3) := by decide +kernel
theorem dX9_count_81 : decode cX9_count 81 = .ok (.ireturn, 1) := by decide +kernel
theorem dX9_count_82 : decode cX9_count 82 = .ok (.aload_n 0, 1) := by decide +kernel
theorem dX9_count_83 : decode cX9_count 83 = .ok (.getfield 16, 3) := by decide +kernel
theorem dX9_count_86 : decode cX9_count 86 = .ok (.bipush 31, 2) := by decide +kernel
theorem dX9_count_88 : decode cX9_count 88 = .ok (.iaload, 1) := by decide +kernel
theorem dX9_count_89 : decode cX9_count 89 = .ok (.bipush (-9), 2) := by decide +kernel
theorem dX9_count_91 : decode cX9_count 91 = .ok (.if_icmp .ne 7, 3) := by decide +kernel
theorem dX9_count_94 : decode cX9_count 94 = .ok (.iconst 0, 1) := by decide +kernel
theorem dX9_count_95 : decode cX9_count 95 = .ok (.goto 13, 3) := by decide +kernel
theorem dX9_count_98 : decode cX9_count 98 = .ok (.aload_n 0, 1) := by decide +kernel
theorem dX9_count_99 : decode cX9_count 99 = .ok (.getfield 16, 3) := by decide +kernel
theorem dX9_count_102 : decode cX9_count 102 = .ok (.bipush 31, 2) := by decide +kernel
theorem dX9_count_104 : decode cX9_count 104 = .ok (.iaload, 1) := by decide +kernel
theorem dX9_count_105 : decode cX9_count 105 = .ok (.invokestatic 105, 3) := by decide +kernel
theorem dX9_count_108 : decode cX9_count 108 = .ok (.ireturn, 1) := by decide +kernel
theorem dX9_count_109 : decode cX9_count 109 = .ok (.aload_n 0, 1) := by decide +kernel
theorem dX9_count_110 : decode cX9_count 110 = .ok (.invokevirtual 283, 3) := by decide +kernel
theorem dX9_count_113 : decode cX9_count 113 = .ok (.ireturn, 1) := by decide +kernel
theorem dX9_count_114 : decode cX9_count 114 = .ok (.aload_n 0, 1) := by decide +kernel
theorem dX9_count_115 : decode cX9_count 115 = .ok (.getfield 137, 3) := by decide +kernel
theorem dX9_count_118 : decode cX9_count 118 = .ok (.ireturn, 1) := by decide +kernel
theorem dX9_count_119 : decode cX9_count 119 = .ok (.aload_n 0, 1) := by decide +kernel
theorem dX9_count_120 : decode cX9_count 120 = .ok (.getfield 250, 3) := by decide +kernel
theorem dX9_count_123 : decode cX9_count 123 = .ok (.ireturn, 1) := by decide +kernel
theorem dX9_count_124 : decode cX9_count 124 = .ok (.aload_n 0, 1) := by decide +kernel
theorem dX9_count_125 : decode cX9_count 125 = .ok (.getfield 16, 3) := by decide +kernel
theorem dX9_count_128 : decode cX9_count 128 = .ok (.iconst 2, 1) := by decide +kernel
theorem dX9_count_129 : decode cX9_count 129 = .ok (.aload_n 0, 1) := by decide +kernel
theorem dX9_count_130 : decode cX9_count 130 = .ok (.getfield 16, 3) := by decide +kernel
theorem dX9_count_133 : decode cX9_count 133 = .ok (.iconst 0, 1) := by decide +kernel
theorem dX9_count_134 : decode cX9_count 134 = .ok (.iaload, 1) := by decide +kernel
theorem dX9_count_135 : decode cX9_count 135 = .ok (.invokestatic 150, 3) := by decide +kernel
theorem dX9_count_138 : decode cX9_count 138 = .ok (.ireturn, 1) := by decide +kernel
theorem dX9_count_139 : decode cX9_count 139 = .ok (.aload_n 0, 1) := by decide +kernel
theorem dX9_count_140 : decode cX9_count 140 = .ok (.getfield 16, 3) := by decide +kernel
theorem dX9_count_143 : decode cX9_count 143 = .ok (.bipush 6, 2) := by decide +kernel
theorem dX9_count_145 : decode cX9_count 145 = .ok (.aload_n 0, 1) := by decide +kernel
theorem dX9_count_146 : decode cX9_count 146 = .ok (.getfield 16, 3) := by decide +kernel
theorem dX9_count_149 : decode cX9_count 149 = .ok (.iconst 1, 1) := by decide +kernel
theorem dX9_count_150 : decode cX9_count 150 = .ok (.iaload, 1) := by decide +kernel
theorem dX9_count_151 : decode cX9_count 151 = .ok (.invokestatic 150, 3) := by decide +kernel
theorem dX9_count_154 : decode cX9_count 154 = .ok (.ireturn, 1) := by decide +kernel
theorem dX9_count_155 : decode cX9_count 155 = .ok (.bipush (-2), 2) := by decide +kernel
theorem dX9_count_157 : decode cX9_count 157 = .ok (.ireturn, 1) := by decide +kernel
theorem dJ6_bitCount_0f7a4_0 : decode cJ6_bitCount_0f7a4 0 = .ok (.iload_n 0, 1) := by decide +kernel
theorem dJ6_bitCount_0f7a4_1 : decode cJ6_bitCount_0f7a4 1 = .ok (.iload_n 0, 1) := by decide +kernel
theorem dJ6_bitCount_0f7a4_2 : decode cJ6_bitCount_0f7a4 2 = .ok (.iconst 1, 1) := by decide +kernel
theorem dJ6_bitCount_0f7a4_3 : decode cJ6_bitCount_0f7a4 3 = .ok (.iushr, 1) := by decide +kernel
theorem dJ6_bitCount_0f7a4_4 : decode cJ6_bitCount_0f7a4 4 = .ok (.ldc_w 265, 3) := by decide +kernel
theorem dJ6_bitCount_0f7a4_7 : decode cJ6_bitCount_0f7a4 7 = .ok (.iand, 1) := by decide +kernel
theorem dJ6_bitCount_0f7a4_8 : decode cJ6_bitCount_0f7a4 8 = .ok (.isub, 1) := by decide +kernel
theorem dJ6_bitCount_0f7a4_9 : decode cJ6_bitCount_0f7a4 9 = .ok (.istore_n 0, 1) := by decide +kernel
theorem dJ6_bitCount_0f7a4_10 : decode cJ6_bitCount_0f7a4 10 = .ok (.iload_n 0, 1) := by decide +kernel
theorem dJ6_bitCount_0f7a4_11 : decode cJ6_bitCount_0f7a4 11 = .ok (.ldc_w 266, 3) := by decide +kernel
theorem dJ6_bitCount_0f7a4_14 : decode cJ6_bitCount_0f7a4 14 = .ok (.iand, 1) := by decide +kernel
theorem dJ6_bitCount_0f7a4_15 : decode cJ6_bitCount_0f7a4 15 = .ok (.iload_n 0, 1) := by decide +kernel
theorem dJ6_bitCount_0f7a4_16 : decode cJ6_bitCount_0f7a4 16 = .ok (.iconst 2, 1) := by decide +kernel
theorem dJ6_bitCount_0f7a4_17 : decode cJ6_bitCount_0f7a4 17 = .ok (.iushr, 1) := by decide +kernel
theorem dJ6_bitCount_0f7a4_18 : decode cJ6_bitCount_0f7a4 18 = .ok (.ldc_w 266, 3) := by decide +kernel
theorem dJ6_bitCount_0f7a4_21 : decode cJ6_bitCount_0f7a4 21 = .ok (.iand, 1) := by decide +kernel
theorem dJ6_bitCount_0f7a4_22 : decode cJ6_bitCount_0f7a4 22 = .ok (.iadd, 1) := by decide +kernel
theorem dJ6_bitCount_0f7a4_23 : decode cJ6_bitCount_0f7a4 23 = .ok (.istore_n 0, 1) := by decide +kernel
theorem dJ6_bitCount_0f7a4_24 : decode cJ6_bitCount_0f7a4 24 = .ok (.iload_n 0, 1) := by decide +kernel
theorem dJ6_bitCount_0f7a4_25 : decode cJ6_bitCount_0f7a4 25 = .ok (.iload_n 0, 1) := by decide +kernel
theorem dJ6_bitCount_0f7a4_26 : decode cJ6_bitCount_0f7a4 26 = .ok (.iconst 4, 1) := by decide +kernel
theorem dJ6_bitCount_0f7a4_27 : decode cJ6_bitCount_0f7a4 27 = .ok (.iushr, 1) := by decide +kernel
theorem dJ6_bitCount_0f7a4_28 : decode cJ6_bitCount_0f7a4 28 = .ok (.iadd, 1) := by decide +kernel
theorem dJ6_bitCount_0f7a4_29 : decode cJ6_bitCount_0f7a4 29 = .ok (.ldc_w 267, 3) := by decide +kernel
theorem dJ6_bitCount_0f7a4_32 : decode cJ6_bitCount_0f7a4 32 = .ok (.iand, 1) := by decide +kernel
theorem dJ6_bitCount_0f7a4_33 : decode cJ6_bitCount_0f7a4 33 = .ok (.istore_n 0, 1) := by decide +kernel
theorem dJ6_bitCount_0f7a4_34 : decode cJ6_bitCount_0f7a4 34 = .ok (.iload_n 0, 1) := by decide +kernel
theorem dJ6_bitCount_0f7a4_35 : decode cJ6_bitCount_0f7a4 35 = .ok (.iload_n 0, 1) := by decide +kernel
theorem dJ6_bitCount_0f7a4_36 : decode cJ6_bitCount_0f7a4 36 = .ok (.bipush 8, 2) := by decide +kernel
theorem dJ6_bitCount_0f7a4_38 : decode cJ6_bitCount_0f7a4 38 = .ok (.iushr, 1) := by decide +kernel
theorem dJ6_bitCount_0f7a4_39 : decode cJ6_bitCount_0f7a4 39 = .ok (.iadd, 1) := by decide +kernel
theorem dJ6_bitCount_0f7a4_40 : decode cJ6_bitCount_0f7a4 40 = .ok (.istore_n 0, 1) := by decide +kernel
theorem dJ6_bitCount_0f7a4_41 : decode cJ6_bitCount_0f7a4 41 = .ok (.iload_n 0, 1) := by decide +kernel
theorem dJ6_bitCount_0f7a4_42 : decode cJ6_bitCount_0f7a4 42 = .ok (.iload_n 0, 1) := by decide +kernel
theorem dJ6_bitCount_0f7a4_43 : decode cJ6_bitCount_0f7a4 43 = .ok (.bipush 16, 2) := by decide +kernel
theorem dJ6_bitCount_0f7a4_45 : decode cJ6_bitCount_0f7a4 45 = .ok (.iushr, 1) := by decide +kernel
theorem dJ6_bitCount_0f7a4_46 : decode cJ6_bitCount_0f7a4 46 = .ok (.iadd, 1) := by decide +kernel
theorem dJ6_bitCount_0f7a4_47 : decode cJ6_bitCount_0f7a4 47 = .ok (.istore_n 0, 1) := by decide +kernel
theorem dJ6_bitCount_0f7a4_48 : decode cJ6_bitCount_0f7a4 48 = .ok (.iload_n 0, 1) := by decide +kernel
theorem dJ6_bitCount_0f7a4_49 : decode cJ6_bitCount_0f7a4 49 = .ok (.bipush 63, 2) := by decide +kernel
theorem dJ6_bitCount_0f7a4_51 : decode cJ6_bitCount_0f7a4 51 = .ok (.iand, 1) := by decide +kernel
theorem dJ6_bitCount_0f7a4_52 : decode cJ6_bitCount_0f7a4 52 = .ok (.ireturn, 1) := by decide +kernel
theorem dJ9_max_7cf53_0 : decode cJ9_max_7cf53 0 = .ok (.iload_n 0, 1) := by decide +kernel
theorem dJ9_max_7cf53_1 : decode cJ9_max_7cf53 1 = .ok (.iload_n 1, 1) := by decide +kernel
theorem dJ9_max_7cf53_2 : decode cJ9_max_7cf53 2 = .ok (.if_icmp .lt 7, 3) := by decide +kernel
theorem dJ9_max_7cf53_5 : decode cJ9_max_7cf53 5 = .ok (.iload_n 0, 1) := by decide +kernel
theorem dJ9_max_7cf53_6 : decode cJ9_max_7cf53 6 = .ok (.goto 4, 3) := by decide +kernel
theorem dJ9_max_7cf53_9 : decode cJ9_max_7cf53 9 = .ok (.iload_n 1, 1) := by decide +kernel
theorem dJ9_max_7cf53_10 : decode cJ9_max_7cf53 10 = .ok (.ireturn, 1) := by decide +kernel
theorem dJ9_min_7cf53_0 : decode cJ9_min_7cf53 0 = .ok (.iload_n 0, 1) := by decide +kernel
theorem dJ9_min_7cf53_1 : decode cJ9_min_7cf53 1 = .ok (.iload_n 1, 1) := by decide +kernel
theorem dJ9_min_7cf53_2 : decode cJ9_min_7cf53 2 = .ok (.if_icmp .gt 7, 3) := by decide +kernel
theorem dJ9_min_7cf53_5 : decode cJ9_min_7cf53 5 = .ok (.iload_n 0, 1) := by decide +kernel
theorem dJ9_min_7cf53_6 : decode cJ9_min_7cf53 6 = .ok (.goto 4, 3) := by decide +kernel
theorem dJ9_min_7cf53_9 : decode cJ9_min_7cf53 9 = .ok (.iload_n 1, 1) := by decide +kernel
theorem dJ9_min_7cf53_10 : decode cJ9_min_7cf53 10 = .ok (.ireturn, 1) := by decide +kernel
