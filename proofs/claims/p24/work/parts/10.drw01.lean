theorem dX11_reads_0 : decode cX11_reads 0 = .ok (.aload_n 0, 1) := by decide +kernel
theorem dX11_reads_1 : decode cX11_reads 1 = .ok (.getfield 548, 3) := by decide +kernel
theorem dX11_reads_4 : decode cX11_reads 4 = .ok (.istore 6, 2) := by decide +kernel
theorem dX11_reads_6 : decode cX11_reads 6 = .ok (.iload_n 3, 1) := by decide +kernel
theorem dX11_reads_7 : decode cX11_reads 7 = .ok (.bipush 31, 2) := by decide +kernel
theorem dX11_reads_9 : decode cX11_reads 9 = .ok (.if_icmp .lt 12, 3) := by decide +kernel
theorem dX11_reads_12 : decode cX11_reads 12 = .ok (.aload_n 0, 1) := by decide +kernel
theorem dX11_reads_13 : decode cX11_reads 13 = .ok (.bipush 16, 2) := by decide +kernel
theorem dX11_reads_15 : decode cX11_reads 15 = .ok (.iload 6, 2) := by decide +kernel
theorem dX11_reads_17 : decode cX11_reads 17 = .ok (.invokevirtual 554, 3) := by decide +kernel
theorem dX11_reads_20 : decode cX11_reads 20 = .ok (.ireturn, 1) := by decide +kernel
theorem dX11_reads_21 : decode cX11_reads 21 = .ok (.aload_n 0, 1) := by decide +kernel
theorem dX11_reads_22 : decode cX11_reads 22 = .ok (.getfield 13, 3) := by decide +kernel
theorem dX11_reads_25 : decode cX11_reads 25 = .ok (.iload_n 1, 1) := by decide +kernel
theorem dX11_reads_26 : decode cX11_reads 26 = .ok (.iaload, 1) := by decide +kernel
theorem dX11_reads_27 : decode cX11_reads 27 = .ok (.bipush 8, 2) := by decide +kernel
theorem dX11_reads_29 : decode cX11_reads 29 = .ok (.if_icmp .ne 104, 3) := by decide +kernel
theorem dX11_reads_32 : decode cX11_reads 32 = .ok (.aload_n 0, 1) := by decide +kernel
theorem dX11_reads_33 : decode cX11_reads 33 = .ok (.iload 6, 2) := by decide +kernel
theorem dX11_reads_35 : decode cX11_reads 35 = .ok (.lconst 0, 1) := by decide +kernel
theorem dX11_reads_36 : decode cX11_reads 36 = .ok (.aload_n 0, 1) := by decide +kernel
theorem dX11_reads_37 : decode cX11_reads 37 = .ok (.getfield 20, 3) := by decide +kernel
theorem dX11_reads_40 : decode cX11_reads 40 = .ok (.iload_n 1, 1) := by decide +kernel
theorem dX11_reads_41 : decode cX11_reads 41 = .ok (.iaload, 1) := by decide +kernel
theorem dX11_reads_42 : decode cX11_reads 42 = .ok (.i2l, 1) := by decide +kernel
theorem dX11_reads_43 : decode cX11_reads 43 = .ok (.lconst 1, 1) := by decide +kernel
theorem dX11_reads_44 : decode cX11_reads 44 = .ok (.lsub, 1) := by decide +kernel
theorem dX11_reads_45 : decode cX11_reads 45 = .ok (.invokevirtual 571, 3) := by decide +kernel
theorem dX11_reads_48 : decode cX11_reads 48 = .ok (.ifCond .ne 5, 3) := by decide +kernel
theorem dX11_reads_51 : decode cX11_reads 51 = .ok (.iconst 0, 1) := by decide +kernel
theorem dX11_reads_52 : decode cX11_reads 52 = .ok (.ireturn, 1) := by decide +kernel
theorem dX11_reads_53 : decode cX11_reads 53 = .ok (.aload_n 0, 1) := by decide +kernel
theorem dX11_reads_54 : decode cX11_reads 54 = .ok (.getfield 563, 3) := by decide +kernel
theorem dX11_reads_57 : decode cX11_reads 57 = .ok (.l2i, 1) := by decide +kernel
theorem dX11_reads_58 : decode cX11_reads 58 = .ok (.istore 7, 2) := by decide +kernel
theorem dX11_reads_60 : decode cX11_reads 60 = .ok (.aload_n 0, 1) := by decide +kernel
theorem dX11_reads_61 : decode cX11_reads 61 = .ok (.getfield 23, 3) := by decide +kernel
theorem dX11_reads_64 : decode cX11_reads 64 = .ok (.iconst 4, 1) := by decide +kernel
theorem dX11_reads_65 : decode cX11_reads 65 = .ok (.iload_n 1, 1) := by decide +kernel
theorem dX11_reads_66 : decode cX11_reads 66 = .ok (.imul, 1) := by decide +kernel
theorem dX11_reads_67 : decode cX11_reads 67 = .ok (.iload 7, 2) := by decide +kernel
theorem dX11_reads_69 : decode cX11_reads 69 = .ok (.iadd, 1) := by decide +kernel
theorem dX11_reads_70 : decode cX11_reads 70 = .ok (.iaload, 1) := by decide +kernel
theorem dX11_reads_71 : decode cX11_reads 71 = .ok (.istore 8, 2) := by decide +kernel
theorem dX11_reads_73 : decode cX11_reads 73 = .ok (.iload_n 2, 1) := by decide +kernel
theorem dX11_reads_74 : decode cX11_reads 74 = .ok (.ifCond .lt 22, 3) := by decide +kernel
theorem dX11_reads_77 : decode cX11_reads 77 = .ok (.aload_n 0, 1) := by decide +kernel
theorem dX11_reads_78 : decode cX11_reads 78 = .ok (.iload 8, 2) := by decide +kernel
theorem dX11_reads_80 : decode cX11_reads 80 = .ok (.iload_n 2, 1) := by decide +kernel
theorem dX11_reads_81 : decode cX11_reads 81 = .ok (.invokevirtual 498, 3) := by decide +kernel
theorem dX11_reads_84 : decode cX11_reads 84 = .ok (.ifCond .ne 12, 3) := by decide +kernel
theorem dX11_reads_87 : decode cX11_reads 87 = .ok (.aload_n 0, 1) := by decide +kernel
theorem dX11_reads_88 : decode cX11_reads 88 = .ok (.bipush 13, 2) := by decide +kernel
theorem dX11_reads_90 : decode cX11_reads 90 = .ok (.iload 6, 2) := by decide +kernel
theorem dX11_reads_92 : decode cX11_reads 92 = .ok (.invokevirtual 554, 3) := by decide +kernel
theorem dX11_reads_95 : decode cX11_reads 95 = .ok (.ireturn, 1) := by decide +kernel
theorem dX11_reads_96 : decode cX11_reads 96 = .ok (.aload_n 0, 1) := by decide +kernel
theorem dX11_reads_97 : decode cX11_reads 97 = .ok (.sipush 200, 3) := by decide +kernel
theorem dX11_reads_100 : decode cX11_reads 100 = .ok (.iload 7, 2) := by decide +kernel
theorem dX11_reads_102 : decode cX11_reads 102 = .ok (.iadd, 1) := by decide +kernel
theorem dX11_reads_103 : decode cX11_reads 103 = .ok (.invokevirtual 519, 3) := by decide +kernel
theorem dX11_reads_106 : decode cX11_reads 106 = .ok (.aload_n 0, 1) := by decide +kernel
theorem dX11_reads_107 : decode cX11_reads 107 = .ok (.iload 8, 2) := by decide +kernel
theorem dX11_reads_109 : decode cX11_reads 109 = .ok (.iload_n 2, 1) := by decide +kernel
theorem dX11_reads_110 : decode cX11_reads 110 = .ok (.iload_n 3, 1) := by decide +kernel
theorem dX11_reads_111 : decode cX11_reads 111 = .ok (.iload 4, 2) := by decide +kernel
theorem dX11_reads_113 : decode cX11_reads 113 = .ok (.iload 5, 2) := by decide +kernel
theorem dX11_reads_115 : decode cX11_reads 115 = .ok (.invokevirtual 581, 3) := by decide +kernel
theorem dX11_reads_118 : decode cX11_reads 118 = .ok (.istore 9, 2) := by decide +kernel
theorem dX11_reads_120 : decode cX11_reads 120 = .ok (.aload_n 0, 1) := by decide +kernel
theorem dX11_reads_121 : decode cX11_reads 121 = .ok (.dup, 1) := by decide +kernel
theorem dX11_reads_122 : decode cX11_reads 122 = .ok (.getfield 516, 3) := by decide +kernel
theorem dX11_reads_125 : decode cX11_reads 125 = .ok (.iconst 1, 1) := by decide +kernel
theorem dX11_reads_126 : decode cX11_reads 126 = .ok (.isub, 1) := by decide +kernel
theorem dX11_reads_127 : decode cX11_reads 127 = .ok (.putfield 516, 3) := by decide +kernel
theorem dX11_reads_130 : decode cX11_reads 130 = .ok (.iload 9, 2) := by decide +kernel
theorem dX11_reads_132 : decode cX11_reads 132 = .ok (.ireturn, 1) := by decide +kernel
theorem dX11_reads_133 : decode cX11_reads 133 = .ok (.iload_n 2, 1) := by decide +kernel
theorem dX11_reads_134 : decode cX11_reads 134 = .ok (.ifCond .lt 23, 3) := by decide +kernel
theorem dX11_reads_137 : decode cX11_reads 137 = .ok (.aload_n 0, 1) := by decide +kernel
theorem dX11_reads_138 : decode cX11_reads 138 = .ok (.getfield 13, 3) := by decide +kernel
theorem dX11_reads_141 : decode cX11_reads 141 = .ok (.iload_n 2, 1) := by decide +kernel
theorem dX11_reads_142 : decode cX11_reads 142 = .ok (.iaload, 1) := by decide +kernel
theorem dX11_reads_143 : decode cX11_reads 143 = .ok (.bipush 8, 2) := by decide +kernel
theorem dX11_reads_145 : decode cX11_reads 145 = .ok (.if_icmp .ne 12, 3) := by decide +kernel
theorem dX11_reads_148 : decode cX11_reads 148 = .ok (.aload_n 0, 1) := by decide +kernel
theorem dX11_reads_149 : decode cX11_reads 149 = .ok (.iload_n 1, 1) := by decide +kernel
theorem dX11_reads_150 : decode cX11_reads 150 = .ok (.iload_n 2, 1) := by decide +kernel
theorem dX11_reads_151 : decode cX11_reads 151 = .ok (.invokevirtual 501, 3) := by decide +kernel
theorem dX11_reads_154 : decode cX11_reads 154 = .ok (.goto 4, 3) := by decide +kernel
theorem dX11_reads_157 : decode cX11_reads 157 = .ok (.iconst (-1), 1) := by decide +kernel
theorem dX11_reads_158 : decode cX11_reads 158 = .ok (.istore 7, 2) := by decide +kernel
theorem dX11_reads_160 : decode cX11_reads 160 = .ok (.iload 7, 2) := by decide +kernel
theorem dX11_reads_162 : decode cX11_reads 162 = .ok (.ifCond .ge 7, 3) := by decide +kernel
theorem dX11_reads_165 : decode cX11_reads 165 = .ok (.iload_n 2, 1) := by decide +kernel
theorem dX11_reads_166 : decode cX11_reads 166 = .ok (.goto 14, 3) := by decide +kernel
theorem dX11_reads_169 : decode cX11_reads 169 = .ok (.aload_n 0, 1) := by decide +kernel
theorem dX11_reads_170 : decode cX11_reads 170 = .ok (.getfield 23, 3) := by decide +kernel
theorem dX11_reads_173 : decode cX11_reads 173 = .ok (.iconst 4, 1) := by decide +kernel
theorem dX11_reads_174 : decode cX11_reads 174 = .ok (.iload_n 2, 1) := by decide +kernel
theorem dX11_reads_175 : decode cX11_reads 175 = .ok (.imul, 1) := by decide +kernel
theorem dX11_reads_176 : decode cX11_reads 176 = .ok (.iload 7, 2) := by decide +kernel
theorem dX11_reads_178 : decode cX11_reads 178 = .ok (.iadd, 1) := by decide +kernel
theorem dX11_reads_179 : decode cX11_reads 179 = .ok (.iaload, 1) := by decide +kernel
theorem dX11_reads_180 : decode cX11_reads 180 = .ok (.istore 8, 2) := by decide +kernel
theorem dX11_reads_182 : decode cX11_reads 182 = .ok (.iconst (-1), 1) := by decide +kernel
theorem dX11_reads_183 : decode cX11_reads 183 = .ok (.istore 9, 2) := by decide +kernel
theorem dX11_reads_185 : decode cX11_reads 185 = .ok (.iload 8, 2) := by decide +kernel
theorem dX11_reads_187 : decode cX11_reads 187 = .ok (.ifCond .lt 40, 3) := by decide +kernel
theorem dX11_reads_190 : decode cX11_reads 190 = .ok (.aload_n 0, 1) := by decide +kernel
theorem dX11_reads_191 : decode cX11_reads 191 = .ok (.getfield 413, 3) := by decide +kernel
theorem dX11_reads_194 : decode cX11_reads 194 = .ok (.sipush 400, 3) := by decide +kernel
theorem dX11_reads_197 : decode cX11_reads 197 = .ok (.if_icmp .ne 11, 3) := by decide +kernel
theorem dX11_reads_200 : decode cX11_reads 200 = .ok (.aload_n 0, 1) := by decide +kernel
theorem dX11_reads_201 : decode cX11_reads 201 = .ok (.bipush 15, 2) := by decide +kernel
theorem dX11_reads_203 : decode cX11_reads 203 = .ok (.iconst (-1), 1) := by decide +kernel
theorem dX11_reads_204 : decode cX11_reads 204 = .ok (.invokevirtual 554, 3) := by decide +kernel
theorem dX11_reads_207 : decode cX11_reads 207 = .ok (.ireturn, 1) := by decide +kernel
theorem dX11_reads_208 : decode cX11_reads 208 = .ok (.aload_n 0, 1) := by decide +kernel
theorem dX11_reads_209 : decode cX11_reads 209 = .ok (.aload_n 0, 1) := by decide +kernel
theorem dX11_reads_210 : decode cX11_reads 210 = .ok (.getfield 13, 3) := by decide +kernel
theorem dX11_reads_213 : decode cX11_reads 213 = .ok (.iload 8, 2) := by decide +kernel
theorem dX11_reads_215 : decode cX11_reads 215 = .ok (.iaload, 1) := by decide +kernel
theorem dX11_reads_216 : decode cX11_reads 216 = .ok (.iload 4, 2) := by decide +kernel
theorem dX11_reads_218 : decode cX11_reads 218 = .ok (.iload 5, 2) := by decide +kernel
theorem dX11_reads_220 : decode cX11_reads 220 = .ok (.iload 7, 2) := by decide +kernel
theorem dX11_reads_222 : decode cX11_reads 222 = .ok (.invokevirtual 420, 3) := by decide +kernel
theorem dX11_reads_225 : decode cX11_reads 225 = .ok (.istore 9, 2) := by decide +kernel
theorem dX11_reads_227 : decode cX11_reads 227 = .ok (.aload_n 0, 1) := by decide +kernel
theorem dX11_reads_228 : decode cX11_reads 228 = .ok (.getfield 13, 3) := by decide +kernel
theorem dX11_reads_231 : decode cX11_reads 231 = .ok (.iload_n 1, 1) := by decide +kernel
theorem dX11_reads_232 : decode cX11_reads 232 = .ok (.iaload, 1) := by decide +kernel
theorem dX11_reads_233 : decode cX11_reads 233 = .ok (.lookupswitch 49 #[(6, 27), (7, 38)], 27) := by decide +kernel
theorem dX11_reads_260 : decode cX11_reads 260 = .ok (.aload_n 0, 1) := by decide +kernel
theorem dX11_reads_261 : decode cX11_reads 261 = .ok (.iload_n 1, 1) := by decide +kernel
theorem dX11_reads_262 : decode cX11_reads 262 = .ok (.iload 8, 2) := by decide +kernel
theorem dX11_reads_264 : decode cX11_reads 264 = .ok (.iload_n 3, 1) := by decide +kernel
theorem dX11_reads_265 : decode cX11_reads 265 = .ok (.iload 9, 2) := by decide +kernel
theorem dX11_reads_267 : decode cX11_reads 267 = .ok (.invokevirtual 584, 3) := by decide +kernel
theorem dX11_reads_270 : decode cX11_reads 270 = .ok (.ireturn, 1) := by decide +kernel
theorem dX11_reads_271 : decode cX11_reads 271 = .ok (.aload_n 0, 1) := by decide +kernel
theorem dX11_reads_272 : decode cX11_reads 272 = .ok (.iload_n 1, 1) := by decide +kernel
theorem dX11_reads_273 : decode cX11_reads 273 = .ok (.iload 8, 2) := by decide +kernel
theorem dX11_reads_275 : decode cX11_reads 275 = .ok (.iload_n 3, 1) := by decide +kernel
theorem dX11_reads_276 : decode cX11_reads 276 = .ok (.iload 9, 2) := by decide +kernel
theorem dX11_reads_278 : decode cX11_reads 278 = .ok (.invokevirtual 587, 3) := by decide +kernel
theorem dX11_reads_281 : decode cX11_reads 281 = .ok (.ireturn, 1) := by decide +kernel
theorem dX11_reads_282 : decode cX11_reads 282 = .ok (.aload_n 0, 1) := by decide +kernel
theorem dX11_reads_283 : decode cX11_reads 283 = .ok (.iload_n 1, 1) := by decide +kernel
theorem dX11_reads_284 : decode cX11_reads 284 = .ok (.iload 8, 2) := by decide +kernel
theorem dX11_reads_286 : decode cX11_reads 286 = .ok (.iload 9, 2) := by decide +kernel
theorem dX11_reads_288 : decode cX11_reads 288 = .ok (.invokevirtual 590, 3) := by decide +kernel
theorem dX11_reads_291 : decode cX11_reads 291 = .ok (.ireturn, 1) := by decide +kernel
theorem dX11_readsItems_0 : decode cX11_readsItems 0 = .ok (.aload_n 0, 1) := by decide +kernel
theorem dX11_readsItems_1 : decode cX11_readsItems 1 = .ok (.aload_n 0, 1) := by decide +kernel
theorem dX11_readsItems_2 : decode cX11_readsItems 2 = .ok (.getfield 548, 3) := by decide +kernel
theorem dX11_readsItems_5 : decode cX11_readsItems 5 = .ok (.lconst 0, 1) := by decide +kernel
theorem dX11_readsItems_6 : decode cX11_readsItems 6 = .ok (.ldc2_w 607, 3) := by decide +kernel
theorem dX11_readsItems_9 : decode cX11_readsItems 9 = .ok (.invokevirtual 571, 3) := by decide +kernel
theorem dX11_readsItems_12 : decode cX11_readsItems 12 = .ok (.ifCond .ne 5, 3) := by decide +kernel
theorem dX11_readsItems_15 : decode cX11_readsItems 15 = .ok (.iconst 0, 1) := by decide +kernel
theorem dX11_readsItems_16 : decode cX11_readsItems 16 = .ok (.ireturn, 1) := by decide +kernel
theorem dX11_readsItems_17 : decode cX11_readsItems 17 = .ok (.aload_n 0, 1) := by decide +kernel
theorem dX11_readsItems_18 : decode cX11_readsItems 18 = .ok (.getfield 563, 3) := by decide +kernel
theorem dX11_readsItems_21 : decode cX11_readsItems 21 = .ok (.l2i, 1) := by decide +kernel
theorem dX11_readsItems_22 : decode cX11_readsItems 22 = .ok (.istore 5, 2) := by decide +kernel
theorem dX11_readsItems_24 : decode cX11_readsItems 24 = .ok (.iconst 0, 1) := by decide +kernel
theorem dX11_readsItems_25 : decode cX11_readsItems 25 = .ok (.istore 6, 2) := by decide +kernel
theorem dX11_readsItems_27 : decode cX11_readsItems 27 = .ok (.iload 6, 2) := by decide +kernel
theorem dX11_readsItems_29 : decode cX11_readsItems 29 = .ok (.iload 5, 2) := by decide +kernel
theorem dX11_readsItems_31 : decode cX11_readsItems 31 = .ok (.if_icmp .ge 64, 3) := by decide +kernel
theorem dX11_readsItems_34 : decode cX11_readsItems 34 = .ok (.aload_n 0, 1) := by decide +kernel
theorem dX11_readsItems_35 : decode cX11_readsItems 35 = .ok (.bipush 100, 2) := by decide +kernel
theorem dX11_readsItems_37 : decode cX11_readsItems 37 = .ok (.iload 6, 2) := by decide +kernel
theorem dX11_readsItems_39 : decode cX11_readsItems 39 = .ok (.iadd, 1) := by decide +kernel
theorem dX11_readsItems_40 : decode cX11_readsItems 40 = .ok (.invokevirtual 519, 3) := by decide +kernel
theorem dX11_readsItems_43 : decode cX11_readsItems 43 = .ok (.aload_n 0, 1) := by decide +kernel
theorem dX11_readsItems_44 : decode cX11_readsItems 44 = .ok (.aload_n 0, 1) := by decide +kernel
theorem dX11_readsItems_45 : decode cX11_readsItems 45 = .ok (.getfield 17, 3) := by decide +kernel
theorem dX11_readsItems_48 : decode cX11_readsItems 48 = .ok (.iload_n 1, 1) := by decide +kernel
theorem dX11_readsItems_49 : decode cX11_readsItems 49 = .ok (.iaload, 1) := by decide +kernel
theorem dX11_readsItems_50 : decode cX11_readsItems 50 = .ok (.iload_n 2, 1) := by decide +kernel
theorem dX11_readsItems_51 : decode cX11_readsItems 51 = .ok (.ifCond .ge 7, 3) := by decide +kernel
theorem dX11_readsItems_54 : decode cX11_readsItems 54 = .ok (.iconst (-1), 1) := by decide +kernel
theorem dX11_readsItems_55 : decode cX11_readsItems 55 = .ok (.goto 9, 3) := by decide +kernel
theorem dX11_readsItems_58 : decode cX11_readsItems 58 = .ok (.aload_n 0, 1) := by decide +kernel
theorem dX11_readsItems_59 : decode cX11_readsItems 59 = .ok (.getfield 17, 3) := by decide +kernel
theorem dX11_readsItems_62 : decode cX11_readsItems 62 = .ok (.iload_n 2, 1) := by decide +kernel
theorem dX11_readsItems_63 : decode cX11_readsItems 63 = .ok (.iaload, 1) := by decide +kernel
theorem dX11_readsItems_64 : decode cX11_readsItems 64 = .ok (.iload_n 3, 1) := by decide +kernel
theorem dX11_readsItems_65 : decode cX11_readsItems 65 = .ok (.iconst 1, 1) := by decide +kernel
theorem dX11_readsItems_66 : decode cX11_readsItems 66 = .ok (.iadd, 1) := by decide +kernel
theorem dX11_readsItems_67 : decode cX11_readsItems 67 = .ok (.iload 4, 2) := by decide +kernel
theorem dX11_readsItems_69 : decode cX11_readsItems 69 = .ok (.iload 6, 2) := by decide +kernel
theorem dX11_readsItems_71 : decode cX11_readsItems 71 = .ok (.invokevirtual 581, 3) := by decide +kernel
theorem dX11_readsItems_74 : decode cX11_readsItems 74 = .ok (.ifCond .ne 5, 3) := by decide +kernel
theorem dX11_readsItems_77 : decode cX11_readsItems 77 = .ok (.iconst 0, 1) := by decide +kernel
theorem dX11_readsItems_78 : decode cX11_readsItems 78 = .ok (.ireturn, 1) := by decide +kernel
theorem dX11_readsItems_79 : decode cX11_readsItems 79 = .ok (.aload_n 0, 1) := by decide +kernel
theorem dX11_readsItems_80 : decode cX11_readsItems 80 = .ok (.dup, 1) := by decide +kernel
theorem dX11_readsItems_81 : decode cX11_readsItems 81 = .ok (.getfield 516, 3) := by decide +kernel
theorem dX11_readsItems_84 : decode cX11_readsItems 84 = .ok (.iconst 1, 1) := by decide +kernel
theorem dX11_readsItems_85 : decode cX11_readsItems 85 = .ok (.isub, 1) := by decide +kernel
theorem dX11_readsItems_86 : decode cX11_readsItems 86 = .ok (.putfield 516, 3) := by decide +kernel
theorem dX11_readsItems_89 : decode cX11_readsItems 89 = .ok (.iinc 6 1, 3) := by decide +kernel
theorem dX11_readsItems_92 : decode cX11_readsItems 92 = .ok (.goto (-65), 3) := by decide +kernel
theorem dX11_readsItems_95 : decode cX11_readsItems 95 = .ok (.iconst 1, 1) := by decide +kernel
theorem dX11_readsItems_96 : decode cX11_readsItems 96 = .ok (.ireturn, 1) := by decide +kernel
theorem dX11_readsLeaf_0 : decode cX11_readsLeaf 0 = .ok (.aload_n 0, 1) := by decide +kernel
theorem dX11_readsLeaf_1 : decode cX11_readsLeaf 1 = .ok (.getfield 548, 3) := by decide +kernel
theorem dX11_readsLeaf_4 : decode cX11_readsLeaf 4 = .ok (.istore 4, 2) := by decide +kernel
theorem dX11_readsLeaf_6 : decode cX11_readsLeaf 6 = .ok (.iconst 1, 1) := by decide +kernel
theorem dX11_readsLeaf_7 : decode cX11_readsLeaf 7 = .ok (.istore 5, 2) := by decide +kernel
theorem dX11_readsLeaf_9 : decode cX11_readsLeaf 9 = .ok (.aload_n 0, 1) := by decide +kernel
theorem dX11_readsLeaf_10 : decode cX11_readsLeaf 10 = .ok (.getfield 13, 3) := by decide +kernel
theorem dX11_readsLeaf_13 : decode cX11_readsLeaf 13 = .ok (.iload_n 1, 1) := by decide +kernel
theorem dX11_readsLeaf_14 : decode cX11_readsLeaf 14 = .ok (.iaload, 1) := by decide +kernel
theorem dX11_readsLeaf_15 : decode cX11_readsLeaf 15 = .ok (.istore 6, 2) := by decide +kernel
theorem dX11_readsLeaf_17 : decode cX11_readsLeaf 17 = .ok (.aload_n 0, 1) := by decide +kernel
theorem dX11_readsLeaf_18 : decode cX11_readsLeaf 18 = .ok (.lconst 0, 1) := by decide +kernel
theorem dX11_readsLeaf_19 : decode cX11_readsLeaf 19 = .ok (.putfield 563, 3) := by decide +kernel
theorem dX11_readsLeaf_22 : decode cX11_readsLeaf 22 = .ok (.iload 6, 2) := by decide +kernel
theorem dX11_readsLeaf_24 : decode cX11_readsLeaf 24 = .ok (.iconst 1, 1) := by decide +kernel
theorem dX11_readsLeaf_25 : decode cX11_readsLeaf 25 = .ok (.if_icmp .ne 14, 3) := by decide +kernel
theorem dX11_readsLeaf_28 : decode cX11_readsLeaf 28 = .ok (.aload_n 0, 1) := by decide +kernel
theorem dX11_readsLeaf_29 : decode cX11_readsLeaf 29 = .ok (.iload 4, 2) := by decide +kernel
theorem dX11_readsLeaf_31 : decode cX11_readsLeaf 31 = .ok (.invokevirtual 594, 3) := by decide +kernel
theorem dX11_readsLeaf_34 : decode cX11_readsLeaf 34 = .ok (.istore 5, 2) := by decide +kernel
theorem dX11_readsLeaf_36 : decode cX11_readsLeaf 36 = .ok (.goto 72, 3) := by decide +kernel
theorem dX11_readsLeaf_39 : decode cX11_readsLeaf 39 = .ok (.iload 6, 2) := by decide +kernel
theorem dX11_readsLeaf_41 : decode cX11_readsLeaf 41 = .ok (.iconst 2, 1) := by decide +kernel
theorem dX11_readsLeaf_42 : decode cX11_readsLeaf 42 = .ok (.if_icmp .ne 20, 3) := by decide +kernel
theorem dX11_readsLeaf_45 : decode cX11_readsLeaf 45 = .ok (.aload_n 0, 1) := by decide +kernel
theorem dX11_readsLeaf_46 : decode cX11_readsLeaf 46 = .ok (.iload 4, 2) := by decide +kernel
theorem dX11_readsLeaf_48 : decode cX11_readsLeaf 48 = .ok (.ldc2_w 328, 3) := by decide +kernel
theorem dX11_readsLeaf_51 : decode cX11_readsLeaf 51 = .ok (.ldc2_w 330, 3) := by decide +kernel
theorem dX11_readsLeaf_54 : decode cX11_readsLeaf 54 = .ok (.invokevirtual 571, 3) := by decide +kernel
theorem dX11_readsLeaf_57 : decode cX11_readsLeaf 57 = .ok (.istore 5, 2) := by decide +kernel
theorem dX11_readsLeaf_59 : decode cX11_readsLeaf 59 = .ok (.goto 49, 3) := by decide +kernel
theorem dX11_readsLeaf_62 : decode cX11_readsLeaf 62 = .ok (.iload 6, 2) := by decide +kernel
theorem dX11_readsLeaf_64 : decode cX11_readsLeaf 64 = .ok (.iconst 3, 1) := by decide +kernel
theorem dX11_readsLeaf_65 : decode cX11_readsLeaf 65 = .ok (.if_icmp .ne 14, 3) := by decide +kernel
theorem dX11_readsLeaf_68 : decode cX11_readsLeaf 68 = .ok (.aload_n 0, 1) := by decide +kernel
theorem dX11_readsLeaf_69 : decode cX11_readsLeaf 69 = .ok (.iload 4, 2) := by decide +kernel
theorem dX11_readsLeaf_71 : decode cX11_readsLeaf 71 = .ok (.invokevirtual 566, 3) := by decide +kernel
theorem dX11_readsLeaf_74 : decode cX11_readsLeaf 74 = .ok (.istore 5, 2) := by decide +kernel
theorem dX11_readsLeaf_76 : decode cX11_readsLeaf 76 = .ok (.goto 32, 3) := by decide +kernel
theorem dX11_readsLeaf_79 : decode cX11_readsLeaf 79 = .ok (.iload 6, 2) := by decide +kernel
theorem dX11_readsLeaf_81 : decode cX11_readsLeaf 81 = .ok (.iconst 4, 1) := by decide +kernel
theorem dX11_readsLeaf_82 : decode cX11_readsLeaf 82 = .ok (.if_icmp .ne 12, 3) := by decide +kernel
theorem dX11_readsLeaf_85 : decode cX11_readsLeaf 85 = .ok (.aload_n 0, 1) := by decide +kernel
theorem dX11_readsLeaf_86 : decode cX11_readsLeaf 86 = .ok (.invokevirtual 597, 3) := by decide +kernel
theorem dX11_readsLeaf_89 : decode cX11_readsLeaf 89 = .ok (.istore 5, 2) := by decide +kernel
theorem dX11_readsLeaf_91 : decode cX11_readsLeaf 91 = .ok (.goto 17, 3) := by decide +kernel
theorem dX11_readsLeaf_94 : decode cX11_readsLeaf 94 = .ok (.iload 6, 2) := by decide +kernel
theorem dX11_readsLeaf_96 : decode cX11_readsLeaf 96 = .ok (.iconst 5, 1) := by decide +kernel
theorem dX11_readsLeaf_97 : decode cX11_readsLeaf 97 = .ok (.if_icmp .ne 11, 3) := by decide +kernel
theorem dX11_readsLeaf_100 : decode cX11_readsLeaf 100 = .ok (.aload_n 0, 1) := by decide +kernel
theorem dX11_readsLeaf_101 : decode cX11_readsLeaf 101 = .ok (.iload 4, 2) := by decide +kernel
theorem dX11_readsLeaf_103 : decode cX11_readsLeaf 103 = .ok (.invokevirtual 600, 3) := by decide +kernel
theorem dX11_readsLeaf_106 : decode cX11_readsLeaf 106 = .ok (.istore 5, 2) := by decide +kernel
theorem dX11_readsLeaf_108 : decode cX11_readsLeaf 108 = .ok (.iload 5, 2) := by decide +kernel
theorem dX11_readsLeaf_110 : decode cX11_readsLeaf 110 = .ok (.ifCond .eq 120, 3) := by decide +kernel
theorem dX11_readsLeaf_113 : decode cX11_readsLeaf 113 = .ok (.iload_n 3, 1) := by decide +kernel
theorem dX11_readsLeaf_114 : decode cX11_readsLeaf 114 = .ok (.ifCond .lt 116, 3) := by decide +kernel
theorem dX11_readsLeaf_117 : decode cX11_readsLeaf 117 = .ok (.aload_n 0, 1) := by decide +kernel
theorem dX11_readsLeaf_118 : decode cX11_readsLeaf 118 = .ok (.getfield 13, 3) := by decide +kernel
theorem dX11_readsLeaf_121 : decode cX11_readsLeaf 121 = .ok (.iload_n 2, 1) := by decide +kernel
theorem dX11_readsLeaf_122 : decode cX11_readsLeaf 122 = .ok (.iaload, 1) := by decide +kernel
theorem dX11_readsLeaf_123 : decode cX11_readsLeaf 123 = .ok (.iconst 4, 1) := by decide +kernel
theorem dX11_readsLeaf_124 : decode cX11_readsLeaf 124 = .ok (.if_icmp .ne 7, 3) := by decide +kernel
theorem dX11_readsLeaf_127 : decode cX11_readsLeaf 127 = .ok (.iconst 1, 1) := by decide +kernel
theorem dX11_readsLeaf_128 : decode cX11_readsLeaf 128 = .ok (.goto 4, 3) := by decide +kernel
theorem dX11_readsLeaf_131 : decode cX11_readsLeaf 131 = .ok (.iconst 0, 1) := by decide +kernel
theorem dX11_readsLeaf_132 : decode cX11_readsLeaf 132 = .ok (.istore 7, 2) := by decide +kernel
theorem dX11_readsLeaf_134 : decode cX11_readsLeaf 134 = .ok (.iload 6, 2) := by decide +kernel
theorem dX11_readsLeaf_136 : decode cX11_readsLeaf 136 = .ok (.iconst 4, 1) := by decide +kernel
theorem dX11_readsLeaf_137 : decode cX11_readsLeaf 137 = .ok (.if_icmp .ne 13, 3) := by decide +kernel
theorem dX11_readsLeaf_140 : decode cX11_readsLeaf 140 = .ok (.aload_n 0, 1) := by decide +kernel
theorem dX11_readsLeaf_141 : decode cX11_readsLeaf 141 = .ok (.getfield 563, 3) := by decide +kernel
theorem dX11_readsLeaf_144 : decode cX11_readsLeaf 144 = .ok (.invokestatic 603, 3) := by decide +kernel
theorem dX11_readsLeaf_147 : decode cX11_readsLeaf 147 = .ok (.goto 8, 3) := by decide +kernel
theorem dX11_readsLeaf_150 : decode cX11_readsLeaf 150 = .ok (.aload_n 0, 1) := by decide +kernel
theorem dX11_readsLeaf_151 : decode cX11_readsLeaf 151 = .ok (.getfield 563, 3) := by decide +kernel
theorem dX11_readsLeaf_154 : decode cX11_readsLeaf 154 = .ok (.l2d, 1) := by decide +kernel
theorem dX11_readsLeaf_155 : decode cX11_readsLeaf 155 = .ok (.dstore 8, 2) := by decide +kernel
theorem dX11_readsLeaf_157 : decode cX11_readsLeaf 157 = .ok (.aload_n 0, 1) := by decide +kernel
theorem dX11_readsLeaf_158 : decode cX11_readsLeaf 158 = .ok (.getfield 73, 3) := by decide +kernel
theorem dX11_readsLeaf_161 : decode cX11_readsLeaf 161 = .ok (.iload_n 3, 1) := by decide +kernel
theorem dX11_readsLeaf_162 : decode cX11_readsLeaf 162 = .ok (.iload 6, 2) := by decide +kernel
theorem dX11_readsLeaf_164 : decode cX11_readsLeaf 164 = .ok (.iconst 5, 1) := by decide +kernel
theorem dX11_readsLeaf_165 : decode cX11_readsLeaf 165 = .ok (.if_icmp .ne 7, 3) := by decide +kernel
theorem dX11_readsLeaf_168 : decode cX11_readsLeaf 168 = .ok (.lconst 0, 1) := by decide +kernel
theorem dX11_readsLeaf_169 : decode cX11_readsLeaf 169 = .ok (.goto 20, 3) := by decide +kernel
theorem dX11_readsLeaf_172 : decode cX11_readsLeaf 172 = .ok (.iload 7, 2) := by decide +kernel
theorem dX11_readsLeaf_174 : decode cX11_readsLeaf 174 = .ok (.ifCond .eq 11, 3) := by decide +kernel
theorem dX11_readsLeaf_177 : decode cX11_readsLeaf 177 = .ok (.dload 8, 2) := by decide +kernel
theorem dX11_readsLeaf_179 : decode cX11_readsLeaf 179 = .ok (.invokestatic 332, 3) := by decide +kernel
theorem dX11_readsLeaf_182 : decode cX11_readsLeaf 182 = .ok (.goto 7, 3) := by decide +kernel
theorem dX11_readsLeaf_185 : decode cX11_readsLeaf 185 = .ok (.aload_n 0, 1) := by decide +kernel
theorem dX11_readsLeaf_186 : decode cX11_readsLeaf 186 = .ok (.getfield 563, 3) := by decide +kernel
theorem dX11_readsLeaf_189 : decode cX11_readsLeaf 189 = .ok (.lastore, 1) := by decide +kernel
theorem dX11_readsLeaf_190 : decode cX11_readsLeaf 190 = .ok (.aload_n 0, 1) := by decide +kernel
theorem dX11_readsLeaf_191 : decode cX11_readsLeaf 191 = .ok (.getfield 76, 3) := by decide +kernel
theorem dX11_readsLeaf_194 : decode cX11_readsLeaf 194 = .ok (.iload_n 3, 1) := by decide +kernel
theorem dX11_readsLeaf_195 : decode cX11_readsLeaf 195 = .ok (.iload 6, 2) := by decide +kernel
theorem dX11_readsLeaf_197 : decode cX11_readsLeaf 197 = .ok (.iconst 5, 1) := by decide +kernel
theorem dX11_readsLeaf_198 : decode cX11_readsLeaf 198 = .ok (.if_icmp .ne 10, 3) := by decide +kernel
theorem dX11_readsLeaf_201 : decode cX11_readsLeaf 201 = .ok (.aload_n 0, 1) := by decide +kernel
theorem dX11_readsLeaf_202 : decode cX11_readsLeaf 202 = .ok (.getfield 575, 3) := by decide +kernel
theorem dX11_readsLeaf_205 : decode cX11_readsLeaf 205 = .ok (.goto 4, 3) := by decide +kernel
theorem dX11_readsLeaf_208 : decode cX11_readsLeaf 208 = .ok (.lconst 0, 1) := by decide +kernel
theorem dX11_readsLeaf_209 : decode cX11_readsLeaf 209 = .ok (.lastore, 1) := by decide +kernel
theorem dX11_readsLeaf_210 : decode cX11_readsLeaf 210 = .ok (.aload_n 0, 1) := by decide +kernel
theorem dX11_readsLeaf_211 : decode cX11_readsLeaf 211 = .ok (.getfield 79, 3) := by decide +kernel
theorem dX11_readsLeaf_214 : decode cX11_readsLeaf 214 = .ok (.iload_n 3, 1) := by decide +kernel
theorem dX11_readsLeaf_215 : decode cX11_readsLeaf 215 = .ok (.iload 6, 2) := by decide +kernel
theorem dX11_readsLeaf_217 : decode cX11_readsLeaf 217 = .ok (.iconst 5, 1) := by decide +kernel
theorem dX11_readsLeaf_218 : decode cX11_readsLeaf 218 = .ok (.if_icmp .ne 10, 3) := by decide +kernel
theorem dX11_readsLeaf_221 : decode cX11_readsLeaf 221 = .ok (.aload_n 0, 1) := by decide +kernel
theorem dX11_readsLeaf_222 : decode cX11_readsLeaf 222 = .ok (.getfield 578, 3) := by decide +kernel
theorem dX11_readsLeaf_225 : decode cX11_readsLeaf 225 = .ok (.goto 4, 3) := by decide +kernel
theorem dX11_readsLeaf_228 : decode cX11_readsLeaf 228 = .ok (.iconst 0, 1) := by decide +kernel
theorem dX11_readsLeaf_229 : decode cX11_readsLeaf 229 = .ok (.iastore, 1) := by decide +kernel
theorem dX11_readsLeaf_230 : decode cX11_readsLeaf 230 = .ok (.iload 5, 2) := by decide +kernel
theorem dX11_readsLeaf_232 : decode cX11_readsLeaf 232 = .ok (.ireturn, 1) := by decide +kernel
theorem dX11_readsRecord_0 : decode cX11_readsRecord 0 = .ok (.bipush 6, 2) := by decide +kernel
theorem dX11_readsRecord_2 : decode cX11_readsRecord 2 = .ok (.aload_n 0, 1) := by decide +kernel
theorem dX11_readsRecord_3 : decode cX11_readsRecord 3 = .ok (.getfield 492, 3) := by decide +kernel
theorem dX11_readsRecord_6 : decode cX11_readsRecord 6 = .ok (.imul, 1) := by decide +kernel
theorem dX11_readsRecord_7 : decode cX11_readsRecord 7 = .ok (.aload_n 0, 1) := by decide +kernel
theorem dX11_readsRecord_8 : decode cX11_readsRecord 8 = .ok (.getfield 17, 3) := by decide +kernel
theorem dX11_readsRecord_11 : decode cX11_readsRecord 11 = .ok (.iload_n 1, 1) := by decide +kernel
theorem dX11_readsRecord_12 : decode cX11_readsRecord 12 = .ok (.iaload, 1) := by decide +kernel
theorem dX11_readsRecord_13 : decode cX11_readsRecord 13 = .ok (.iadd, 1) := by decide +kernel
theorem dX11_readsRecord_14 : decode cX11_readsRecord 14 = .ok (.istore 5, 2) := by decide +kernel
theorem dX11_readsRecord_16 : decode cX11_readsRecord 16 = .ok (.iload_n 2, 1) := by decide +kernel
theorem dX11_readsRecord_17 : decode cX11_readsRecord 17 = .ok (.ifCond .ge 7, 3) := by decide +kernel
theorem dX11_readsRecord_20 : decode cX11_readsRecord 20 = .ok (.iconst 0, 1) := by decide +kernel
theorem dX11_readsRecord_21 : decode cX11_readsRecord 21 = .ok (.goto 17, 3) := by decide +kernel
theorem dX11_readsRecord_24 : decode cX11_readsRecord 24 = .ok (.bipush 6, 2) := by decide +kernel
theorem dX11_readsRecord_26 : decode cX11_readsRecord 26 = .ok (.aload_n 0, 1) := by decide +kernel
theorem dX11_readsRecord_27 : decode cX11_readsRecord 27 = .ok (.getfield 495, 3) := by decide +kernel
theorem dX11_readsRecord_30 : decode cX11_readsRecord 30 = .ok (.imul, 1) := by decide +kernel
theorem dX11_readsRecord_31 : decode cX11_readsRecord 31 = .ok (.aload_n 0, 1) := by decide +kernel
theorem dX11_readsRecord_32 : decode cX11_readsRecord 32 = .ok (.getfield 17, 3) := by decide +kernel
theorem dX11_readsRecord_35 : decode cX11_readsRecord 35 = .ok (.iload_n 2, 1) := by decide +kernel
theorem dX11_readsRecord_36 : decode cX11_readsRecord 36 = .ok (.iaload, 1) := by decide +kernel
theorem dX11_readsRecord_37 : decode cX11_readsRecord 37 = .ok (.iadd, 1) := by decide +kernel
theorem dX11_readsRecord_38 : decode cX11_readsRecord 38 = .ok (.istore 6, 2) := by decide +kernel
theorem dX11_readsRecord_40 : decode cX11_readsRecord 40 = .ok (.iconst 0, 1) := by decide +kernel
theorem dX11_readsRecord_41 : decode cX11_readsRecord 41 = .ok (.istore 7, 2) := by decide +kernel
theorem dX11_readsRecord_43 : decode cX11_readsRecord 43 = .ok (.iload 7, 2) := by decide +kernel
theorem dX11_readsRecord_45 : decode cX11_readsRecord 45 = .ok (.aload_n 0, 1) := by decide +kernel
theorem dX11_readsRecord_46 : decode cX11_readsRecord 46 = .ok (.getfield 42, 3) := by decide +kernel
theorem dX11_readsRecord_49 : decode cX11_readsRecord 49 = .ok (.iload 5, 2) := by decide +kernel
theorem dX11_readsRecord_51 : decode cX11_readsRecord 51 = .ok (.iaload, 1) := by decide +kernel
theorem dX11_readsRecord_52 : decode cX11_readsRecord 52 = .ok (.if_icmp .ge 162, 3) := by decide +kernel
theorem dX11_readsRecord_55 : decode cX11_readsRecord 55 = .ok (.bipush 8, 2) := by decide +kernel
theorem dX11_readsRecord_57 : decode cX11_readsRecord 57 = .ok (.iload 5, 2) := by decide +kernel
theorem dX11_readsRecord_59 : decode cX11_readsRecord 59 = .ok (.imul, 1) := by decide +kernel
theorem dX11_readsRecord_60 : decode cX11_readsRecord 60 = .ok (.iload 7, 2) := by decide +kernel
theorem dX11_readsRecord_62 : decode cX11_readsRecord 62 = .ok (.iadd, 1) := by decide +kernel
theorem dX11_readsRecord_63 : decode cX11_readsRecord 63 = .ok (.istore 8, 2) := by decide +kernel
theorem dX11_readsRecord_65 : decode cX11_readsRecord 65 = .ok (.aload_n 0, 1) := by decide +kernel
theorem dX11_readsRecord_66 : decode cX11_readsRecord 66 = .ok (.getfield 548, 3) := by decide +kernel
theorem dX11_readsRecord_69 : decode cX11_readsRecord 69 = .ok (.istore 9, 2) := by decide +kernel
theorem dX11_readsRecord_71 : decode cX11_readsRecord 71 = .ok (.iconst 0, 1) := by decide +kernel
theorem dX11_readsRecord_72 : decode cX11_readsRecord 72 = .ok (.istore 10, 2) := by decide +kernel
theorem dX11_readsRecord_74 : decode cX11_readsRecord 74 = .ok (.aload_n 0, 1) := by decide +kernel
theorem dX11_readsRecord_75 : decode cX11_readsRecord 75 = .ok (.iload 7, 2) := by decide +kernel
theorem dX11_readsRecord_77 : decode cX11_readsRecord 77 = .ok (.invokevirtual 519, 3) := by decide +kernel
theorem dX11_readsRecord_80 : decode cX11_readsRecord 80 = .ok (.iconst 0, 1) := by decide +kernel
theorem dX11_readsRecord_81 : decode cX11_readsRecord 81 = .ok (.istore 11, 2) := by decide +kernel
theorem dX11_readsRecord_83 : decode cX11_readsRecord 83 = .ok (.iload_n 2, 1) := by decide +kernel
theorem dX11_readsRecord_84 : decode cX11_readsRecord 84 = .ok (.ifCond .lt 87, 3) := by decide +kernel
theorem dX11_readsRecord_87 : decode cX11_readsRecord 87 = .ok (.iload 11, 2) := by decide +kernel
theorem dX11_readsRecord_89 : decode cX11_readsRecord 89 = .ok (.aload_n 0, 1) := by decide +kernel
theorem dX11_readsRecord_90 : decode cX11_readsRecord 90 = .ok (.getfield 42, 3) := by decide +kernel
theorem dX11_readsRecord_93 : decode cX11_readsRecord 93 = .ok (.iload 6, 2) := by decide +kernel
theorem dX11_readsRecord_95 : decode cX11_readsRecord 95 = .ok (.iaload, 1) := by decide +kernel
theorem dX11_readsRecord_96 : decode cX11_readsRecord 96 = .ok (.if_icmp .ge 75, 3) := by decide +kernel
theorem dX11_readsRecord_99 : decode cX11_readsRecord 99 = .ok (.bipush 8, 2) := by decide +kernel
theorem dX11_readsRecord_101 : decode cX11_readsRecord 101 = .ok (.iload 6, 2) := by decide +kernel
theorem dX11_readsRecord_103 : decode cX11_readsRecord 103 = .ok (.imul, 1) := by decide +kernel
theorem dX11_readsRecord_104 : decode cX11_readsRecord 104 = .ok (.iload 11, 2) := by decide +kernel
theorem dX11_readsRecord_106 : decode cX11_readsRecord 106 = .ok (.iadd, 1) := by decide +kernel
theorem dX11_readsRecord_107 : decode cX11_readsRecord 107 = .ok (.istore 12, 2) := by decide +kernel
theorem dX11_readsRecord_109 : decode cX11_readsRecord 109 = .ok (.aload_n 0, 1) := by decide +kernel
theorem dX11_readsRecord_110 : decode cX11_readsRecord 110 = .ok (.aload_n 0, 1) := by decide +kernel
theorem dX11_readsRecord_111 : decode cX11_readsRecord 111 = .ok (.getfield 17, 3) := by decide +kernel
theorem dX11_readsRecord_114 : decode cX11_readsRecord 114 = .ok (.iload_n 1, 1) := by decide +kernel
theorem dX11_readsRecord_115 : decode cX11_readsRecord 115 = .ok (.iaload, 1) := by decide +kernel
theorem dX11_readsRecord_116 : decode cX11_readsRecord 116 = .ok (.iload 12, 2) := by decide +kernel
theorem dX11_readsRecord_118 : decode cX11_readsRecord 118 = .ok (.invokevirtual 507, 3) := by decide +kernel
theorem dX11_readsRecord_121 : decode cX11_readsRecord 121 = .ok (.iload 8, 2) := by decide +kernel
theorem dX11_readsRecord_123 : decode cX11_readsRecord 123 = .ok (.if_icmp .ne 42, 3) := by decide +kernel
theorem dX11_readsRecord_126 : decode cX11_readsRecord 126 = .ok (.aload_n 0, 1) := by decide +kernel
theorem dX11_readsRecord_127 : decode cX11_readsRecord 127 = .ok (.iload 9, 2) := by decide +kernel
theorem dX11_readsRecord_129 : decode cX11_readsRecord 129 = .ok (.putfield 548, 3) := by decide +kernel
theorem dX11_readsRecord_132 : decode cX11_readsRecord 132 = .ok (.iinc 10 1, 3) := by decide +kernel
theorem dX11_readsRecord_135 : decode cX11_readsRecord 135 = .ok (.aload_n 0, 1) := by decide +kernel
theorem dX11_readsRecord_136 : decode cX11_readsRecord 136 = .ok (.aload_n 0, 1) := by decide +kernel
theorem dX11_readsRecord_137 : decode cX11_readsRecord 137 = .ok (.getfield 54, 3) := by decide +kernel
theorem dX11_readsRecord_140 : decode cX11_readsRecord 140 = .ok (.iload 8, 2) := by decide +kernel
theorem dX11_readsRecord_142 : decode cX11_readsRecord 142 = .ok (.iaload, 1) := by decide +kernel
theorem dX11_readsRecord_143 : decode cX11_readsRecord 143 = .ok (.aload_n 0, 1) := by decide +kernel
theorem dX11_readsRecord_144 : decode cX11_readsRecord 144 = .ok (.getfield 54, 3) := by decide +kernel
theorem dX11_readsRecord_147 : decode cX11_readsRecord 147 = .ok (.iload 12, 2) := by decide +kernel
theorem dX11_readsRecord_149 : decode cX11_readsRecord 149 = .ok (.iaload, 1) := by decide +kernel
theorem dX11_readsRecord_150 : decode cX11_readsRecord 150 = .ok (.iload_n 3, 1) := by decide +kernel
theorem dX11_readsRecord_151 : decode cX11_readsRecord 151 = .ok (.iconst 1, 1) := by decide +kernel
theorem dX11_readsRecord_152 : decode cX11_readsRecord 152 = .ok (.iadd, 1) := by decide +kernel
theorem dX11_readsRecord_153 : decode cX11_readsRecord 153 = .ok (.iload 4, 2) := by decide +kernel
theorem dX11_readsRecord_155 : decode cX11_readsRecord 155 = .ok (.iload 11, 2) := by decide +kernel
theorem dX11_readsRecord_157 : decode cX11_readsRecord 157 = .ok (.invokevirtual 581, 3) := by decide +kernel
theorem dX11_readsRecord_160 : decode cX11_readsRecord 160 = .ok (.ifCond .ne 5, 3) := by decide +kernel
theorem dX11_readsRecord_163 : decode cX11_readsRecord 163 = .ok (.iconst 0, 1) := by decide +kernel
theorem dX11_readsRecord_164 : decode cX11_readsRecord 164 = .ok (.ireturn, 1) := by decide +kernel
theorem dX11_readsRecord_165 : decode cX11_readsRecord 165 = .ok (.iinc 11 1, 3) := by decide +kernel
theorem dX11_readsRecord_168 : decode cX11_readsRecord 168 = .ok (.goto (-85), 3) := by decide +kernel
theorem dX11_readsRecord_171 : decode cX11_readsRecord 171 = .ok (.iload 10, 2) := by decide +kernel
theorem dX11_readsRecord_173 : decode cX11_readsRecord 173 = .ok (.ifCond .ne 25, 3) := by decide +kernel
theorem dX11_readsRecord_176 : decode cX11_readsRecord 176 = .ok (.aload_n 0, 1) := by decide +kernel
theorem dX11_readsRecord_177 : decode cX11_readsRecord 177 = .ok (.aload_n 0, 1) := by decide +kernel
theorem dX11_readsRecord_178 : decode cX11_readsRecord 178 = .ok (.getfield 54, 3) := by decide +kernel
theorem dX11_readsRecord_181 : decode cX11_readsRecord 181 = .ok (.iload 8, 2) := by decide +kernel
theorem dX11_readsRecord_183 : decode cX11_readsRecord 183 = .ok (.iaload, 1) := by decide +kernel
theorem dX11_readsRecord_184 : decode cX11_readsRecord 184 = .ok (.iconst (-1), 1) := by decide +kernel
theorem dX11_readsRecord_185 : decode cX11_readsRecord 185 = .ok (.iload_n 3, 1) := by decide +kernel
theorem dX11_readsRecord_186 : decode cX11_readsRecord 186 = .ok (.iconst 1, 1) := by decide +kernel
theorem dX11_readsRecord_187 : decode cX11_readsRecord 187 = .ok (.iadd, 1) := by decide +kernel
theorem dX11_readsRecord_188 : decode cX11_readsRecord 188 = .ok (.iconst (-1), 1) := by decide +kernel
theorem dX11_readsRecord_189 : decode cX11_readsRecord 189 = .ok (.iconst 0, 1) := by decide +kernel
theorem dX11_readsRecord_190 : decode cX11_readsRecord 190 = .ok (.invokevirtual 581, 3) := by decide +kernel
theorem dX11_readsRecord_193 : decode cX11_readsRecord 193 = .ok (.ifCond .ne 5, 3) := by decide +kernel
theorem dX11_readsRecord_196 : decode cX11_readsRecord 196 = .ok (.iconst 0, 1) := by decide +kernel
theorem dX11_readsRecord_197 : decode cX11_readsRecord 197 = .ok (.ireturn, 1) := by decide +kernel
theorem dX11_readsRecord_198 : decode cX11_readsRecord 198 = .ok (.aload_n 0, 1) := by decide +kernel
theorem dX11_readsRecord_199 : decode cX11_readsRecord 199 = .ok (.dup, 1) := by decide +kernel
theorem dX11_readsRecord_200 : decode cX11_readsRecord 200 = .ok (.getfield 516, 3) := by decide +kernel
theorem dX11_readsRecord_203 : decode cX11_readsRecord 203 = .ok (.iconst 1, 1) := by decide +kernel
theorem dX11_readsRecord_204 : decode cX11_readsRecord 204 = .ok (.isub, 1) := by decide +kernel
theorem dX11_readsRecord_205 : decode cX11_readsRecord 205 = .ok (.putfield 516, 3) := by decide +kernel
theorem dX11_readsRecord_208 : decode cX11_readsRecord 208 = .ok (.iinc 7 1, 3) := by decide +kernel
theorem dX11_readsRecord_211 : decode cX11_readsRecord 211 = .ok (.goto (-168), 3) := by decide +kernel
theorem dX11_readsRecord_214 : decode cX11_readsRecord 214 = .ok (.iconst 0, 1) := by decide +kernel
theorem dX11_readsRecord_215 : decode cX11_readsRecord 215 = .ok (.istore 7, 2) := by decide +kernel
theorem dX11_readsRecord_217 : decode cX11_readsRecord 217 = .ok (.iload_n 2, 1) := by decide +kernel
theorem dX11_readsRecord_218 : decode cX11_readsRecord 218 = .ok (.ifCond .lt 74, 3) := by decide +kernel
theorem dX11_readsRecord_221 : decode cX11_readsRecord 221 = .ok (.iload 7, 2) := by decide +kernel
theorem dX11_readsRecord_223 : decode cX11_readsRecord 223 = .ok (.aload_n 0, 1) := by decide +kernel
theorem dX11_readsRecord_224 : decode cX11_readsRecord 224 = .ok (.getfield 42, 3) := by decide +kernel
theorem dX11_readsRecord_227 : decode cX11_readsRecord 227 = .ok (.iload 6, 2) := by decide +kernel
theorem dX11_readsRecord_229 : decode cX11_readsRecord 229 = .ok (.iaload, 1) := by decide +kernel
theorem dX11_readsRecord_230 : decode cX11_readsRecord 230 = .ok (.if_icmp .ge 62, 3) := by decide +kernel
theorem dX11_readsRecord_233 : decode cX11_readsRecord 233 = .ok (.bipush 8, 2) := by decide +kernel
theorem dX11_readsRecord_235 : decode cX11_readsRecord 235 = .ok (.iload 6, 2) := by decide +kernel
theorem dX11_readsRecord_237 : decode cX11_readsRecord 237 = .ok (.imul, 1) := by decide +kernel
theorem dX11_readsRecord_238 : decode cX11_readsRecord 238 = .ok (.iload 7, 2) := by decide +kernel
theorem dX11_readsRecord_240 : decode cX11_readsRecord 240 = .ok (.iadd, 1) := by decide +kernel
theorem dX11_readsRecord_241 : decode cX11_readsRecord 241 = .ok (.istore 8, 2) := by decide +kernel
theorem dX11_readsRecord_243 : decode cX11_readsRecord 243 = .ok (.aload_n 0, 1) := by decide +kernel
theorem dX11_readsRecord_244 : decode cX11_readsRecord 244 = .ok (.aload_n 0, 1) := by decide +kernel
theorem dX11_readsRecord_245 : decode cX11_readsRecord 245 = .ok (.getfield 17, 3) := by decide +kernel
theorem dX11_readsRecord_248 : decode cX11_readsRecord 248 = .ok (.iload_n 1, 1) := by decide +kernel
theorem dX11_readsRecord_249 : decode cX11_readsRecord 249 = .ok (.iaload, 1) := by decide +kernel
theorem dX11_readsRecord_250 : decode cX11_readsRecord 250 = .ok (.iload 8, 2) := by decide +kernel
theorem dX11_readsRecord_252 : decode cX11_readsRecord 252 = .ok (.invokevirtual 507, 3) := by decide +kernel
theorem dX11_readsRecord_255 : decode cX11_readsRecord 255 = .ok (.ifCond .ge 31, 3) := by decide +kernel
theorem dX11_readsRecord_258 : decode cX11_readsRecord 258 = .ok (.aload_n 0, 1) := by decide +kernel
theorem dX11_readsRecord_259 : decode cX11_readsRecord 259 = .ok (.getfield 413, 3) := by decide +kernel
theorem dX11_readsRecord_262 : decode cX11_readsRecord 262 = .ok (.sipush 400, 3) := by decide +kernel
theorem dX11_readsRecord_265 : decode cX11_readsRecord 265 = .ok (.if_icmp .ne 11, 3) := by decide +kernel
theorem dX11_readsRecord_268 : decode cX11_readsRecord 268 = .ok (.aload_n 0, 1) := by decide +kernel
theorem dX11_readsRecord_269 : decode cX11_readsRecord 269 = .ok (.bipush 15, 2) := by decide +kernel
theorem dX11_readsRecord_271 : decode cX11_readsRecord 271 = .ok (.iconst (-1), 1) := by decide +kernel
theorem dX11_readsRecord_272 : decode cX11_readsRecord 272 = .ok (.invokevirtual 554, 3) := by decide +kernel
theorem dX11_readsRecord_275 : decode cX11_readsRecord 275 = .ok (.ireturn, 1) := by decide +kernel
theorem dX11_readsRecord_276 : decode cX11_readsRecord 276 = .ok (.aload_n 0, 1) := by decide +kernel
theorem dX11_readsRecord_277 : decode cX11_readsRecord 277 = .ok (.iload 8, 2) := by decide +kernel
theorem dX11_readsRecord_279 : decode cX11_readsRecord 279 = .ok (.iload 4, 2) := by decide +kernel
theorem dX11_readsRecord_281 : decode cX11_readsRecord 281 = .ok (.iload 7, 2) := by decide +kernel
theorem dX11_readsRecord_283 : decode cX11_readsRecord 283 = .ok (.invokevirtual 444, 3) := by decide +kernel
theorem dX11_readsRecord_286 : decode cX11_readsRecord 286 = .ok (.iinc 7 1, 3) := by decide +kernel
theorem dX11_readsRecord_289 : decode cX11_readsRecord 289 = .ok (.goto (-72), 3) := by decide +kernel
theorem dX11_readsRecord_292 : decode cX11_readsRecord 292 = .ok (.iconst 1, 1) := by decide +kernel
theorem dX11_readsRecord_293 : decode cX11_readsRecord 293 = .ok (.ireturn, 1) := by decide +kernel
def f_X11_readsLeaf_229 (x5 : Int32) (y0 : Int32) (y1 : Int32) (σ : ST) : Option (Int32 × ST) := if 0 ≤ y1.toInt ∧ y1.toInt < 4096 then (if x5 = 0 ∨ x5 = 1 then some (x5, (stI σ 23 y1.toNatClampNeg y0)) else none) else none
def f_X11_readsLeaf_209 (x3 : Int32) (x5 : Int32) (x6 : Int32) (y0 : Int64) (y1 : Int32) (σ : ST) : Option (Int32 × ST) := if 0 ≤ y1.toInt ∧ y1.toInt < 4096 then (if x6 = 5 then (f_X11_readsLeaf_229  x5 ((stL σ 22 y1.toNatClampNeg y0).1 0 72) x3 (stL σ 22 y1.toNatClampNeg y0)) else (f_X11_readsLeaf_229  x5 0 x3 (stL σ 22 y1.toNatClampNeg y0))) else none
def f_X11_readsLeaf_189 (x3 : Int32) (x5 : Int32) (x6 : Int32) (y0 : Int64) (y1 : Int32) (σ : ST) : Option (Int32 × ST) := if 0 ≤ y1.toInt ∧ y1.toInt < 4096 then (if x6 = 5 then (f_X11_readsLeaf_209  x3 x5 x6 ((stL σ 21 y1.toNatClampNeg y0).2.1 0 71) x3 (stL σ 21 y1.toNatClampNeg y0)) else (f_X11_readsLeaf_209  x3 x5 x6 0 x3 (stL σ 21 y1.toNatClampNeg y0))) else none
def f_X11_readsLeaf_155 (x3 : Int32) (x5 : Int32) (x6 : Int32) (x7 : Int32) (y0 : UInt64) (σ : ST) : Option (Int32 × ST) := if x6 = 5 then (f_X11_readsLeaf_189  x3 x5 x6 0 x3 σ) else (if x7 = 0 then (f_X11_readsLeaf_189  x3 x5 x6 (σ.2.1 0 70) x3 σ) else ((f_Jxe99ae_doubleToLongBits_ccdee  y0 σ).bind fun q1 => f_X11_readsLeaf_189  x3 x5 x6 q1.1 x3 q1.2))
def f_X11_readsLeaf_132 (x3 : Int32) (x5 : Int32) (x6 : Int32) (y0 : Int32) (σ : ST) : Option (Int32 × ST) := if x6 = 4 then (f_X11_readsLeaf_155  x3 x5 x6 y0 ((σ.2.1 0 70).toUInt64) σ) else (f_X11_readsLeaf_155  x3 x5 x6 y0 (FP.l2d (σ.2.1 0 70)) σ)
def f_X11_readsLeaf_108 (x2 : Int32) (x3 : Int32) (x5 : Int32) (x6 : Int32) (σ : ST) : Option (Int32 × ST) := if x5 = 0 then (if x5 = 0 ∨ x5 = 1 then some (x5, σ) else none) else (if x3 < 0 then (if x5 = 0 ∨ x5 = 1 then some (x5, σ) else none) else (if 0 ≤ x2.toInt ∧ x2.toInt < 800 then (if (σ.1 2 x2.toNatClampNeg) = 4 then (f_X11_readsLeaf_132  x3 x5 x6 1 σ) else (f_X11_readsLeaf_132  x3 x5 x6 0 σ)) else none))
def f_X11_readsLeaf (p0 : Int32) (p1 : Int32) (p2 : Int32) (σ : ST) : Option (Int32 × ST) := if 0 ≤ p0.toInt ∧ p0.toInt < 800 then (if (σ.1 2 p0.toNatClampNeg) = 1 then ((f_X11_readsFlag  (σ.1 0 64) (stL σ 0 70 0)).bind fun q10 => f_X11_readsLeaf_108  p1 p2 q10.1 (σ.1 2 p0.toNatClampNeg) q10.2) else (if (σ.1 2 p0.toNatClampNeg) = 2 then ((f_X11_readsInt  (σ.1 0 64) (-2147483648) 2147483647 (stL σ 0 70 0)).bind fun q8 => f_X11_readsLeaf_108  p1 p2 q8.1 (σ.1 2 p0.toNatClampNeg) q8.2) else (if (σ.1 2 p0.toNatClampNeg) = 3 then ((f_X11_readsNumber  (σ.1 0 64) (stL σ 0 70 0)).bind fun q6 => f_X11_readsLeaf_108  p1 p2 q6.1 (σ.1 2 p0.toNatClampNeg) q6.2) else (if (σ.1 2 p0.toNatClampNeg) = 4 then ((f_X11_readsReal   (stL σ 0 70 0)).bind fun q4 => f_X11_readsLeaf_108  p1 p2 q4.1 (σ.1 2 p0.toNatClampNeg) q4.2) else (if (σ.1 2 p0.toNatClampNeg) = 5 then ((f_X11_readsText  (σ.1 0 64) (stL σ 0 70 0)).bind fun q2 => f_X11_readsLeaf_108  p1 p2 q2.1 (σ.1 2 p0.toNatClampNeg) q2.2) else (f_X11_readsLeaf_108  p1 p2 1 (σ.1 2 p0.toNatClampNeg) (stL σ 0 70 0))))))) else none
theorem dtl_eq {x y : UInt64} {σ : ST} (hx : isNaN64 x = true) (hy : isNaN64 y = true) : f_Jxe99ae_doubleToLongBits_ccdee x σ = f_Jxe99ae_doubleToLongBits_ccdee y σ := by
  unfold f_Jxe99ae_doubleToLongBits_ccdee f_Jxe99ae_isNaN_b9ae7
  rw [fl_cmp hx, fl_cmp hy]
  rfl
theorem told_eq {b : Int64} {r : UInt64} {x3 x5 x6 x7 : Int32} {σ : ST} {q : Int32 × ST} (hal : r = b.toUInt64 ∨ vn_snl2d b = true ∧ r = b.toUInt64 ||| 0x0008000000000000) (h : f_X11_readsLeaf_155 x3 x5 x6 x7 b.toUInt64 σ = some q) : f_X11_readsLeaf_155 x3 x5 x6 x7 r σ = some q := by
  rcases hal with rfl | ⟨hs, rfl⟩
  · exact h
  · have h1 : isNaN64 b.toUInt64 = true := by
      unfold vn_snl2d at hs
      exact (Bool.and_eq_true_iff.mp hs).1
    rw [← h]
    unfold f_X11_readsLeaf_155
    rw [dtl_eq h1 (isNaN64_or_left h1)]

set_option maxRecDepth 100000 in
set_option maxHeartbeats 4000000 in
theorem b_X11_readsLeaf_229 {p : Program} {l : Launch} {e : Env} {s : State} {m : MethodId} {args : Array Value} {below : List Frame} {meth : Method} {c : Code} {dC : Nat → ClassId} {dI : Nat → Nat → Nat} {a : Nat → Nat} {k : Nat → ClassId} {A : Nat → Prop} {q : Int32 × ST} (hC : CxB p s m args meth c dC dI k A cX11_readsLeaf RX11 (some .boolean) 10)   {x5 : Int32} {y0 : Int32} {y1 : Int32} {σ : ST} (h : f_X11_readsLeaf_229  x5 y0 y1 σ = some q) : GdB p l e ({ frames := 5, cells := 0, slots := 0, locals := 118 } : Room) s m args below meth c (MQD csD below (qBi dC dI a k A q) args s 0 0 A) dC dI a k A 10 229 σ [(5, .int x5)] [.int y0, .int y1, .ref (a 23)] := by
  have hC0 := hC
  obtain ⟨hx, hb, hr, hml, hown, hts, hlocks, hA, hN, hK⟩ := hC0
  have hts0 := hts
  have hN0 := hN
  have hK0 := hK
  intro d0 hd0
  replace hts := dr_words hts0 d0
  replace hN : nN (s.setDrawn d0) := nN.same (u := s) (U := s.setDrawn d0) rfl hN0
  replace hK : va_K (dC, dI) vwCl (tB k) (s.setDrawn d0) := hK0
  intro H locs ls hP hD hS hl
  have hD0 : ∀ σ1 : ST, va_D A (wB a k σ1) := fun σ1 => wB_D hD
  unfold f_X11_readsLeaf_229 at h
  obtain ⟨hg1, h⟩ := ig h
  refine va_iast hx hb hK hP hD hS 23 22 gB_23 yB_23 (vp_in_iff.mpr hg1) dX11_readsLeaf_229 (fun H locs hP hD hS => ?_)
  replace hP := uB_23 hP
  replace hD := hD0 ((stI σ 23 y1.toNatClampNeg y0))
  refine lv_iload hx hb dX11_readsLeaf_230 (lv_at hl 0 rfl) ?_
  refine W.endD hd0 ?_
  obtain ⟨hg, h⟩ := ig h
  obtain rfl := Option.some.inj h
  exact W.zret hx hb hr (zn hg) (fun t ht hW => ⟨⟨_, (), rfl, rfl, ⟨by rw [ht]; exact hP, va_K.moved hW.alike hK, hD⟩⟩, hS.F ht⟩) hS.2.2 dX11_readsLeaf_232

set_option maxRecDepth 100000 in
set_option maxHeartbeats 4000000 in
theorem b_X11_readsLeaf_209 {p : Program} {l : Launch} {e : Env} {s : State} {m : MethodId} {args : Array Value} {below : List Frame} {meth : Method} {c : Code} {dC : Nat → ClassId} {dI : Nat → Nat → Nat} {a : Nat → Nat} {k : Nat → ClassId} {A : Nat → Prop} {q : Int32 × ST} (hC : CxB p s m args meth c dC dI k A cX11_readsLeaf RX11 (some .boolean) 10)   {x3 : Int32} {x5 : Int32} {x6 : Int32} {y0 : Int64} {y1 : Int32} {σ : ST} (h : f_X11_readsLeaf_209  x3 x5 x6 y0 y1 σ = some q) : GdB p l e ({ frames := 5, cells := 0, slots := 0, locals := 118 } : Room) s m args below meth c (MQD csD below (qBi dC dI a k A q) args s 0 0 A) dC dI a k A 10 209 σ [(0, .ref (a 0)), (3, .int x3), (5, .int x5), (6, .int x6)] [.long y0, .int y1, .ref (a 22)] := by
  have hC0 := hC
  obtain ⟨hx, hb, hr, hml, hown, hts, hlocks, hA, hN, hK⟩ := hC0
  have hts0 := hts
  have hN0 := hN
  have hK0 := hK
  intro d0 hd0
  replace hts := dr_words hts0 d0
  replace hN : nN (s.setDrawn d0) := nN.same (u := s) (U := s.setDrawn d0) rfl hN0
  replace hK : va_K (dC, dI) vwCl (tB k) (s.setDrawn d0) := hK0
  intro H locs ls hP hD hS hl
  have hD0 : ∀ σ1 : ST, va_D A (wB a k σ1) := fun σ1 => wB_D hD
  unfold f_X11_readsLeaf_209 at h
  obtain ⟨hg1, h⟩ := ig h
  refine va_last hx hb hK hP hD hS 22 21 gB_22 yB_22 (vp_in_iff.mpr hg1) dX11_readsLeaf_209 (fun H locs hP hD hS => ?_)
  replace hP := uB_22 hP
  replace hD := hD0 ((stL σ 22 y1.toNatClampNeg y0))
  refine lv_aload_n hx hb dX11_readsLeaf_210 rfl (lv_at hl 0 rfl) ?_
  refine va_get (D := (dC, dI)) (ci := 11) (C := RX11) (T := TX11) (N := 95) hx hb hts inlX11 hown hK hP 0 gB_0 rfl 38 (by decide) (hts (.fieldLink RX11 79 "ShapeReaderModel" "nodeHas" "[I") mw_27_19) (fun _ h9 => h9) rfl dX11_readsLeaf_211 ?_
  refine lv_iload_n hx hb dX11_readsLeaf_214 rfl (lv_at hl 1 rfl) ?_
  refine lv_iload hx hb dX11_readsLeaf_215 (lv_at hl 3 rfl) ?_
  refine lv_iconst (v := 5) hx hb dX11_readsLeaf_217 (by decide) ?_
  refine lv_icmp_ne (tgt := 228) hx hb dX11_readsLeaf_218 (by decide) (fun hc => ?_) (fun hc => ?_)
  · replace h := iq hc h
    refine lv_iconst (v := 0) hx hb dX11_readsLeaf_228 (by decide) ?_
    exact b_X11_readsLeaf_229 hC h _ hd0 _ _ _ hP hD hS (lv_sub hl [2] rfl)
  · replace h := ip hc h
    refine lv_aload_n hx hb dX11_readsLeaf_221 rfl (lv_at hl 0 rfl) ?_
    refine va_get (D := (dC, dI)) (ci := 11) (C := RX11) (T := TX11) (N := 95) hx hb hts inlX11 hown hK hP 0 gB_0 rfl 72 (by decide) (hts (.fieldLink RX11 578 "ShapeReaderModel" "textMany" "I") mw_38_1) (fun _ h9 => h9) rfl dX11_readsLeaf_222 ?_
    refine lv_goto (tgt := 229) hx hb dX11_readsLeaf_225 (by decide) ?_
    exact b_X11_readsLeaf_229 hC h _ hd0 _ _ _ hP hD hS (lv_sub hl [2] rfl)

set_option maxRecDepth 100000 in
set_option maxHeartbeats 4000000 in
theorem b_X11_readsLeaf_189 {p : Program} {l : Launch} {e : Env} {s : State} {m : MethodId} {args : Array Value} {below : List Frame} {meth : Method} {c : Code} {dC : Nat → ClassId} {dI : Nat → Nat → Nat} {a : Nat → Nat} {k : Nat → ClassId} {A : Nat → Prop} {q : Int32 × ST} (hC : CxB p s m args meth c dC dI k A cX11_readsLeaf RX11 (some .boolean) 10)   {x3 : Int32} {x5 : Int32} {x6 : Int32} {y0 : Int64} {y1 : Int32} {σ : ST} (h : f_X11_readsLeaf_189  x3 x5 x6 y0 y1 σ = some q) : GdB p l e ({ frames := 5, cells := 0, slots := 0, locals := 118 } : Room) s m args below meth c (MQD csD below (qBi dC dI a k A q) args s 0 0 A) dC dI a k A 10 189 σ [(0, .ref (a 0)), (3, .int x3), (5, .int x5), (6, .int x6)] [.long y0, .int y1, .ref (a 21)] := by
  have hC0 := hC
  obtain ⟨hx, hb, hr, hml, hown, hts, hlocks, hA, hN, hK⟩ := hC0
  have hts0 := hts
  have hN0 := hN
  have hK0 := hK
  intro d0 hd0
  replace hts := dr_words hts0 d0
  replace hN : nN (s.setDrawn d0) := nN.same (u := s) (U := s.setDrawn d0) rfl hN0
  replace hK : va_K (dC, dI) vwCl (tB k) (s.setDrawn d0) := hK0
  intro H locs ls hP hD hS hl
  have hD0 : ∀ σ1 : ST, va_D A (wB a k σ1) := fun σ1 => wB_D hD
  unfold f_X11_readsLeaf_189 at h
  obtain ⟨hg1, h⟩ := ig h
  refine va_last hx hb hK hP hD hS 21 20 gB_21 yB_21 (vp_in_iff.mpr hg1) dX11_readsLeaf_189 (fun H locs hP hD hS => ?_)
  replace hP := uB_21 hP
  replace hD := hD0 ((stL σ 21 y1.toNatClampNeg y0))
  refine lv_aload_n hx hb dX11_readsLeaf_190 rfl (lv_at hl 0 rfl) ?_
  refine va_get (D := (dC, dI)) (ci := 11) (C := RX11) (T := TX11) (N := 95) hx hb hts inlX11 hown hK hP 0 gB_0 rfl 37 (by decide) (hts (.fieldLink RX11 76 "ShapeReaderModel" "nodeText" "[J") mw_27_18) (fun _ h9 => h9) rfl dX11_readsLeaf_191 ?_
  refine lv_iload_n hx hb dX11_readsLeaf_194 rfl (lv_at hl 1 rfl) ?_
  refine lv_iload hx hb dX11_readsLeaf_195 (lv_at hl 3 rfl) ?_
  refine lv_iconst (v := 5) hx hb dX11_readsLeaf_197 (by decide) ?_
  refine lv_icmp_ne (tgt := 208) hx hb dX11_readsLeaf_198 (by decide) (fun hc => ?_) (fun hc => ?_)
  · replace h := iq hc h
    refine lv_lconst (v := 0) hx hb dX11_readsLeaf_208 (by decide) ?_
    exact b_X11_readsLeaf_209 hC h _ hd0 _ _ _ hP hD hS (lv_sub hl [0, 1, 2, 3] rfl)
  · replace h := ip hc h
    refine lv_aload_n hx hb dX11_readsLeaf_201 rfl (lv_at hl 0 rfl) ?_
    refine va_get (D := (dC, dI)) (ci := 11) (C := RX11) (T := TX11) (N := 95) hx hb hts inlX11 hown hK hP 0 gB_0 rfl 71 (by decide) (hts (.fieldLink RX11 575 "ShapeReaderModel" "textRead" "J") mw_38_0) (fun _ h9 => h9) rfl dX11_readsLeaf_202 ?_
    refine lv_goto (tgt := 209) hx hb dX11_readsLeaf_205 (by decide) ?_
    exact b_X11_readsLeaf_209 hC h _ hd0 _ _ _ hP hD hS (lv_sub hl [0, 1, 2, 3] rfl)

set_option maxRecDepth 100000 in
set_option maxHeartbeats 4000000 in
theorem b_X11_readsLeaf_155 {p : Program} {l : Launch} {e : Env} {s : State} {m : MethodId} {args : Array Value} {below : List Frame} {meth : Method} {c : Code} {dC : Nat → ClassId} {dI : Nat → Nat → Nat} {a : Nat → Nat} {k : Nat → ClassId} {A : Nat → Prop} {q : Int32 × ST} (hC : CxB p s m args meth c dC dI k A cX11_readsLeaf RX11 (some .boolean) 10)   {x3 : Int32} {x5 : Int32} {x6 : Int32} {x7 : Int32} {y0 : UInt64} {σ : ST} (h : f_X11_readsLeaf_155  x3 x5 x6 x7 y0 σ = some q) : GdB p l e ({ frames := 5, cells := 0, slots := 0, locals := 118 } : Room) s m args below meth c (MQD csD below (qBi dC dI a k A q) args s 0 0 A) dC dI a k A 10 155 σ [(0, .ref (a 0)), (3, .int x3), (5, .int x5), (6, .int x6), (7, .int x7)] [.double y0] := by
  have hC0 := hC
  obtain ⟨hx, hb, hr, hml, hown, hts, hlocks, hA, hN, hK⟩ := hC0
  have hts0 := hts
  have hN0 := hN
  have hK0 := hK
  intro d0 hd0
  replace hts := dr_words hts0 d0
  replace hN : nN (s.setDrawn d0) := nN.same (u := s) (U := s.setDrawn d0) rfl hN0
  replace hK : va_K (dC, dI) vwCl (tB k) (s.setDrawn d0) := hK0
  intro H locs ls hP hD hS hl
  have hD0 : ∀ σ1 : ST, va_D A (wB a k σ1) := fun σ1 => wB_D hD
  unfold f_X11_readsLeaf_155 at h
  refine lv_dstore (lv' := [(8, .double y0), (0, .ref (a 0)), (3, .int x3), (5, .int x5), (6, .int x6), (7, .int x7)]) hx hb dX11_readsLeaf_155 hl (by decide) rfl (fun ls hl => ?_)
  refine lv_aload_n hx hb dX11_readsLeaf_157 rfl (lv_at hl 1 rfl) ?_
  refine va_get (D := (dC, dI)) (ci := 11) (C := RX11) (T := TX11) (N := 95) hx hb hts inlX11 hown hK hP 0 gB_0 rfl 36 (by decide) (hts (.fieldLink RX11 73 "ShapeReaderModel" "nodeBits" "[J") mw_27_17) (fun _ h9 => h9) rfl dX11_readsLeaf_158 ?_
  refine lv_iload_n hx hb dX11_readsLeaf_161 rfl (lv_at hl 2 rfl) ?_
  refine lv_iload hx hb dX11_readsLeaf_162 (lv_at hl 4 rfl) ?_
  refine lv_iconst (v := 5) hx hb dX11_readsLeaf_164 (by decide) ?_
  refine lv_icmp_ne (tgt := 172) hx hb dX11_readsLeaf_165 (by decide) (fun hc => ?_) (fun hc => ?_)
  · replace h := iq hc h
    refine lv_iload hx hb dX11_readsLeaf_172 (lv_at hl 5 rfl) ?_
    refine lv_if_eq (tgt := 185) hx hb dX11_readsLeaf_174 (by decide) (fun hc => ?_) (fun hc => ?_)
    · replace h := ip hc h
      refine lv_aload_n hx hb dX11_readsLeaf_185 rfl (lv_at hl 1 rfl) ?_
      refine va_get (D := (dC, dI)) (ci := 11) (C := RX11) (T := TX11) (N := 95) hx hb hts inlX11 hown hK hP 0 gB_0 rfl 70 (by decide) (hts (.fieldLink RX11 563 "ShapeReaderModel" "numberRead" "J") mw_37_22) (fun _ h9 => h9) rfl dX11_readsLeaf_186 ?_
      exact b_X11_readsLeaf_189 hC h _ hd0 _ _ _ hP hD hS (lv_sub hl [1, 2, 3, 4] rfl)
    · replace h := iq hc h
      refine lv_dload hx hb dX11_readsLeaf_177 (lv_at hl 0 rfl) ?_
      obtain ⟨q1, hc, h⟩ := ib h
      have hF := va_frees hD hS hA
      refine va_calll (va_runS (As := [.double y0]) (rest := [.int x3, .ref (a 21)]) ⟨hx, hb, hml, hown, hts⟩ (s_Jxe99ae_doubleToLongBits_ccdee hc) (va_cwS 1 hts (gS mw_31_29 mw_32_0 mw_32_1 mw_57_20) rfl rfl rfl (by decide +kernel) ⟨(Nat.le_of_ble_eq_true rfl), (Nat.le_of_ble_eq_true rfl)⟩) (vS hK hP hD hN) rfl rfl hl.1 rfl (lv_room (Nat.le_of_ble_eq_true rfl)) dX11_readsLeaf_179 ⟨(Nat.le_of_ble_eq_true rfl), (Nat.le_of_ble_eq_true rfl)⟩) hS (fun q _ h => hF q h) hF (fun r2 u t H locs ht hvm hw hB _ _ hS => ?_)
      obtain rfl : r2 = q1.1 := hw
      replace hP : va_P (dC, dI) vwCl (wB a k q1.2) H := by rw [← ht]; exact hB.1
      replace hD := hD0 (q1.2)
      clear hB hF
      refine lv_goto (tgt := 189) hx hb dX11_readsLeaf_182 (by decide) ?_
      exact b_X11_readsLeaf_189 hC h _ hd0 _ _ _ hP hD hS (lv_sub hl [1, 2, 3, 4] rfl)
  · replace h := ip hc h
    refine lv_lconst (v := 0) hx hb dX11_readsLeaf_168 (by decide) ?_
    refine lv_goto (tgt := 189) hx hb dX11_readsLeaf_169 (by decide) ?_
    exact b_X11_readsLeaf_189 hC h _ hd0 _ _ _ hP hD hS (lv_sub hl [1, 2, 3, 4] rfl)

set_option maxRecDepth 100000 in
set_option maxHeartbeats 4000000 in
theorem b_X11_readsLeaf_132 {p : Program} {l : Launch} {e : Env} {s : State} {m : MethodId} {args : Array Value} {below : List Frame} {meth : Method} {c : Code} {dC : Nat → ClassId} {dI : Nat → Nat → Nat} {a : Nat → Nat} {k : Nat → ClassId} {A : Nat → Prop} {q : Int32 × ST} (hC : CxB p s m args meth c dC dI k A cX11_readsLeaf RX11 (some .boolean) 10)   {x3 : Int32} {x5 : Int32} {x6 : Int32} {y0 : Int32} {σ : ST} (h : f_X11_readsLeaf_132  x3 x5 x6 y0 σ = some q) : GdB p l e ({ frames := 5, cells := 0, slots := 0, locals := 118 } : Room) s m args below meth c (MQD csD below (qBi dC dI a k A q) args s 0 0 A) dC dI a k A 10 132 σ [(0, .ref (a 0)), (3, .int x3), (5, .int x5), (6, .int x6)] [.int y0] := by
  have hC0 := hC
  obtain ⟨hx, hb, hr, hml, hown, hts, hlocks, hA, hN, hK⟩ := hC0
  have hts0 := hts
  have hN0 := hN
  have hK0 := hK
  intro d0 hd0
  replace hts := dr_words hts0 d0
  replace hN : nN (s.setDrawn d0) := nN.same (u := s) (U := s.setDrawn d0) rfl hN0
  replace hK : va_K (dC, dI) vwCl (tB k) (s.setDrawn d0) := hK0
  intro H locs ls hP hD hS hl
  have hD0 : ∀ σ1 : ST, va_D A (wB a k σ1) := fun σ1 => wB_D hD
  unfold f_X11_readsLeaf_132 at h
  refine lv_istore (lv' := [(7, .int y0), (0, .ref (a 0)), (3, .int x3), (5, .int x5), (6, .int x6)]) hx hb dX11_readsLeaf_132 hl (by decide) rfl (fun ls hl => ?_)
  refine lv_iload hx hb dX11_readsLeaf_134 (lv_at hl 4 rfl) ?_
  refine lv_iconst (v := 4) hx hb dX11_readsLeaf_136 (by decide) ?_
  refine lv_icmp_ne (tgt := 150) hx hb dX11_readsLeaf_137 (by decide) (fun hc => ?_) (fun hc => ?_)
  · replace h := iq hc h
    refine lv_aload_n hx hb dX11_readsLeaf_150 rfl (lv_at hl 1 rfl) ?_
    refine va_get (D := (dC, dI)) (ci := 11) (C := RX11) (T := TX11) (N := 95) hx hb hts inlX11 hown hK hP 0 gB_0 rfl 70 (by decide) (hts (.fieldLink RX11 563 "ShapeReaderModel" "numberRead" "J") mw_37_22) (fun _ h9 => h9) rfl dX11_readsLeaf_151 ?_
    refine lv_l2d hx hb dX11_readsLeaf_154 ?_
    exact b_X11_readsLeaf_155 hC h _ hd0 _ _ _ hP hD hS (lv_sub hl [1, 2, 3, 4, 0] rfl)
  · replace h := ip hc h
    refine lv_aload_n hx hb dX11_readsLeaf_140 rfl (lv_at hl 1 rfl) ?_
    refine va_get (D := (dC, dI)) (ci := 11) (C := RX11) (T := TX11) (N := 95) hx hb hts inlX11 hown hK hP 0 gB_0 rfl 70 (by decide) (hts (.fieldLink RX11 563 "ShapeReaderModel" "numberRead" "J") mw_37_22) (fun _ h9 => h9) rfl dX11_readsLeaf_141 ?_
    refine lv_l2d_any hd0 csD_copy hx hb (hml.trans hl.1.symm) hown (hts (.methodLink RX11 603 ⟨"java/lang/Double", "longBitsToDouble", "(J)D"⟩) mw_38_23) (hts (.native ⟨"java/lang/Double", "longBitsToDouble", "(J)D"⟩) mw_38_24) (hts (.static ⟨"java/lang/Double", "longBitsToDouble", "(J)D"⟩) mw_38_25) (hts (.initialized RJxe99ae) mw_32_1) (Nat.le_of_ble_eq_true rfl) (Nat.le_of_ble_eq_true rfl) dX11_readsLeaf_144 (fun r9 d0 hal hd0 => ?_)
    replace h := told_eq hal h
    replace hts := dr_words hts0 d0
    replace hN : nN (s.setDrawn d0) := nN.same (u := s) (U := s.setDrawn d0) rfl hN0
    replace hK : va_K (dC, dI) vwCl (tB k) (s.setDrawn d0) := hK0
    refine lv_goto (tgt := 155) hx hb dX11_readsLeaf_147 (by decide) ?_
    exact b_X11_readsLeaf_155 hC h _ hd0 _ _ _ hP hD hS (lv_sub hl [1, 2, 3, 4, 0] rfl)

set_option maxRecDepth 100000 in
set_option maxHeartbeats 4000000 in
theorem b_X11_readsLeaf_108 {p : Program} {l : Launch} {e : Env} {s : State} {m : MethodId} {args : Array Value} {below : List Frame} {meth : Method} {c : Code} {dC : Nat → ClassId} {dI : Nat → Nat → Nat} {a : Nat → Nat} {k : Nat → ClassId} {A : Nat → Prop} {q : Int32 × ST} (hC : CxB p s m args meth c dC dI k A cX11_readsLeaf RX11 (some .boolean) 10)   {x2 : Int32} {x3 : Int32} {x5 : Int32} {x6 : Int32} {σ : ST} (h : f_X11_readsLeaf_108  x2 x3 x5 x6 σ = some q) : GdB p l e ({ frames := 5, cells := 0, slots := 0, locals := 118 } : Room) s m args below meth c (MQD csD below (qBi dC dI a k A q) args s 0 0 A) dC dI a k A 10 108 σ [(0, .ref (a 0)), (2, .int x2), (3, .int x3), (5, .int x5), (6, .int x6)] [] := by
  have hC0 := hC
  obtain ⟨hx, hb, hr, hml, hown, hts, hlocks, hA, hN, hK⟩ := hC0
  have hts0 := hts
  have hN0 := hN
  have hK0 := hK
  intro d0 hd0
  replace hts := dr_words hts0 d0
  replace hN : nN (s.setDrawn d0) := nN.same (u := s) (U := s.setDrawn d0) rfl hN0
  replace hK : va_K (dC, dI) vwCl (tB k) (s.setDrawn d0) := hK0
  intro H locs ls hP hD hS hl
  have hD0 : ∀ σ1 : ST, va_D A (wB a k σ1) := fun σ1 => wB_D hD
  unfold f_X11_readsLeaf_108 at h
  refine lv_iload hx hb dX11_readsLeaf_108 (lv_at hl 3 rfl) ?_
  refine lv_if_eq (tgt := 230) hx hb dX11_readsLeaf_110 (by decide) (fun hc => ?_) (fun hc => ?_)
  · replace h := ip hc h
    refine lv_iload hx hb dX11_readsLeaf_230 (lv_at hl 3 rfl) ?_
    refine W.endD hd0 ?_
    obtain ⟨hg, h⟩ := ig h
    obtain rfl := Option.some.inj h
    exact W.zret hx hb hr (zn hg) (fun t ht hW => ⟨⟨_, (), rfl, rfl, ⟨by rw [ht]; exact hP, va_K.moved hW.alike hK, hD⟩⟩, hS.F ht⟩) hS.2.2 dX11_readsLeaf_232
  · replace h := iq hc h
    refine lv_iload_n hx hb dX11_readsLeaf_113 rfl (lv_at hl 2 rfl) ?_
    refine lv_if_lt (tgt := 230) hx hb dX11_readsLeaf_114 (by decide) (fun hc => ?_) (fun hc => ?_)
    · replace h := ip hc h
      refine lv_iload hx hb dX11_readsLeaf_230 (lv_at hl 3 rfl) ?_
      refine W.endD hd0 ?_
      obtain ⟨hg, h⟩ := ig h
      obtain rfl := Option.some.inj h
      exact W.zret hx hb hr (zn hg) (fun t ht hW => ⟨⟨_, (), rfl, rfl, ⟨by rw [ht]; exact hP, va_K.moved hW.alike hK, hD⟩⟩, hS.F ht⟩) hS.2.2 dX11_readsLeaf_232
    · replace h := iq hc h
      refine lv_aload_n hx hb dX11_readsLeaf_117 rfl (lv_at hl 0 rfl) ?_
      refine va_get (D := (dC, dI)) (ci := 11) (C := RX11) (T := TX11) (N := 95) hx hb hts inlX11 hown hK hP 0 gB_0 rfl 14 (by decide) (hts (.fieldLink RX11 13 "ShapeReaderModel" "typeSort" "[I") mw_26_28) (fun _ h9 => h9) rfl dX11_readsLeaf_118 ?_
      refine lv_iload_n hx hb dX11_readsLeaf_121 rfl (lv_at hl 1 rfl) ?_
      obtain ⟨hg1, h⟩ := ig h
      refine va_iald hx hb hK hP 2 1 gB_2 yB_2 (vp_in_iff.mpr hg1) dX11_readsLeaf_122 ?_
      refine lv_iconst (v := 4) hx hb dX11_readsLeaf_123 (by decide) ?_
      refine lv_icmp_ne (tgt := 131) hx hb dX11_readsLeaf_124 (by decide) (fun hc => ?_) (fun hc => ?_)
      · replace h := iq hc h
        refine lv_iconst (v := 0) hx hb dX11_readsLeaf_131 (by decide) ?_
        exact b_X11_readsLeaf_132 hC h _ hd0 _ _ _ hP hD hS (lv_sub hl [0, 2, 3, 4] rfl)
      · replace h := ip hc h
        refine lv_iconst (v := 1) hx hb dX11_readsLeaf_127 (by decide) ?_
        refine lv_goto (tgt := 132) hx hb dX11_readsLeaf_128 (by decide) ?_
        exact b_X11_readsLeaf_132 hC h _ hd0 _ _ _ hP hD hS (lv_sub hl [0, 2, 3, 4] rfl)

set_option maxRecDepth 100000 in
set_option maxHeartbeats 4000000 in
theorem b_X11_readsLeaf_e {p : Program} {l : Launch} {e : Env} {s : State} {m : MethodId} {args : Array Value} {below : List Frame} {meth : Method} {c : Code} {dC : Nat → ClassId} {dI : Nat → Nat → Nat} {a : Nat → Nat} {k : Nat → ClassId} {A : Nat → Prop} {q : Int32 × ST} (hC : CxB p s m args meth c dC dI k A cX11_readsLeaf RX11 (some .boolean) 10)   {p0 : Int32} {p1 : Int32} {p2 : Int32} {σ : ST} (h : f_X11_readsLeaf  p0 p1 p2 σ = some q) : GdB p l e ({ frames := 5, cells := 0, slots := 0, locals := 118 } : Room) s m args below meth c (MQD csD below (qBi dC dI a k A q) args s 0 0 A) dC dI a k A 10 0 σ (lv_args 0 [.ref (a 0), .int p0, .int p1, .int p2]) [] := by
  have hC0 := hC
  obtain ⟨hx, hb, hr, hml, hown, hts, hlocks, hA, hN, hK⟩ := hC0
  have hts0 := hts
  have hN0 := hN
  have hK0 := hK
  intro d0 hd0
  replace hts := dr_words hts0 d0
  replace hN : nN (s.setDrawn d0) := nN.same (u := s) (U := s.setDrawn d0) rfl hN0
  replace hK : va_K (dC, dI) vwCl (tB k) (s.setDrawn d0) := hK0
  intro H locs ls hP hD hS hl
  have hD0 : ∀ σ1 : ST, va_D A (wB a k σ1) := fun σ1 => wB_D hD
  replace hl : lv_has ls 10 [(0, .ref (a 0)), (1, .int p0), (2, .int p1), (3, .int p2)] := hl
  unfold f_X11_readsLeaf at h
  refine lv_aload_n hx hb dX11_readsLeaf_0 rfl (lv_at hl 0 rfl) ?_
  refine va_get (D := (dC, dI)) (ci := 11) (C := RX11) (T := TX11) (N := 95) hx hb hts inlX11 hown hK hP 0 gB_0 rfl 64 (by decide) (hts (.fieldLink RX11 548 "ShapeReaderModel" "pos" "I") mw_37_13) (fun _ h9 => h9) rfl dX11_readsLeaf_1 ?_
  refine lv_istore (lv' := [(4, .int (σ.1 0 64)), (0, .ref (a 0)), (1, .int p0), (2, .int p1), (3, .int p2)]) hx hb dX11_readsLeaf_4 hl (by decide) rfl (fun ls hl => ?_)
  refine lv_iconst (v := 1) hx hb dX11_readsLeaf_6 (by decide) ?_
  refine lv_istore (lv' := [(5, .int 1), (4, .int (σ.1 0 64)), (0, .ref (a 0)), (1, .int p0), (2, .int p1), (3, .int p2)]) hx hb dX11_readsLeaf_7 hl (by decide) rfl (fun ls hl => ?_)
  refine lv_aload_n hx hb dX11_readsLeaf_9 rfl (lv_at hl 2 rfl) ?_
  refine va_get (D := (dC, dI)) (ci := 11) (C := RX11) (T := TX11) (N := 95) hx hb hts inlX11 hown hK hP 0 gB_0 rfl 14 (by decide) (hts (.fieldLink RX11 13 "ShapeReaderModel" "typeSort" "[I") mw_26_28) (fun _ h9 => h9) rfl dX11_readsLeaf_10 ?_
  refine lv_iload_n hx hb dX11_readsLeaf_13 rfl (lv_at hl 3 rfl) ?_
  obtain ⟨hg1, h⟩ := ig h
  refine va_iald hx hb hK hP 2 1 gB_2 yB_2 (vp_in_iff.mpr hg1) dX11_readsLeaf_14 ?_
  refine lv_istore (lv' := [(6, .int (σ.1 2 p0.toNatClampNeg)), (5, .int 1), (4, .int (σ.1 0 64)), (0, .ref (a 0)), (1, .int p0), (2, .int p1), (3, .int p2)]) hx hb dX11_readsLeaf_15 hl (by decide) rfl (fun ls hl => ?_)
  refine lv_aload_n hx hb dX11_readsLeaf_17 rfl (lv_at hl 3 rfl) ?_
  refine lv_lconst (v := 0) hx hb dX11_readsLeaf_18 (by decide) ?_
  refine va_put (D := (dC, dI)) (ci := 11) (ty := .long) (C := RX11) (T := TX11) (N := 95) hx hb hts inlX11 tyX11 tyX11_ok nmX11 hown hK hP hD hS 0 gB_0 rfl 70 (by decide) (hts (.fieldLink RX11 563 "ShapeReaderModel" "numberRead" "J") mw_37_22) (fun _ h9 => h9) rfl (by decide +kernel) rfl rfl (Nat.le_of_ble_eq_true rfl) dX11_readsLeaf_19 (fun H locs hP hD hS => ?_)
  replace hP := uB_0_70 hP
  replace hD := hD0 ((stL σ 0 70 0))
  refine lv_iload hx hb dX11_readsLeaf_22 (lv_at hl 0 rfl) ?_
  refine lv_iconst (v := 1) hx hb dX11_readsLeaf_24 (by decide) ?_
  refine lv_icmp_ne (tgt := 39) hx hb dX11_readsLeaf_25 (by decide) (fun hc => ?_) (fun hc => ?_)
  · replace h := iq hc h
    refine lv_iload hx hb dX11_readsLeaf_39 (lv_at hl 0 rfl) ?_
    refine lv_iconst (v := 2) hx hb dX11_readsLeaf_41 (by decide) ?_
    refine lv_icmp_ne (tgt := 62) hx hb dX11_readsLeaf_42 (by decide) (fun hc => ?_) (fun hc => ?_)
    · replace h := iq hc h
      refine lv_iload hx hb dX11_readsLeaf_62 (lv_at hl 0 rfl) ?_
      refine lv_iconst (v := 3) hx hb dX11_readsLeaf_64 (by decide) ?_
      refine lv_icmp_ne (tgt := 79) hx hb dX11_readsLeaf_65 (by decide) (fun hc => ?_) (fun hc => ?_)
      · replace h := iq hc h
        refine lv_iload hx hb dX11_readsLeaf_79 (lv_at hl 0 rfl) ?_
        refine lv_iconst (v := 4) hx hb dX11_readsLeaf_81 (by decide) ?_
        refine lv_icmp_ne (tgt := 94) hx hb dX11_readsLeaf_82 (by decide) (fun hc => ?_) (fun hc => ?_)
        · replace h := iq hc h
          refine lv_iload hx hb dX11_readsLeaf_94 (lv_at hl 0 rfl) ?_
          refine lv_iconst (v := 5) hx hb dX11_readsLeaf_96 (by decide) ?_
          refine lv_icmp_ne (tgt := 108) hx hb dX11_readsLeaf_97 (by decide) (fun hc => ?_) (fun hc => ?_)
          · replace h := iq hc h
            exact b_X11_readsLeaf_108 hC h _ hd0 _ _ _ hP hD hS (lv_sub hl [3, 5, 6, 1, 0] rfl)
          · replace h := ip hc h
            refine lv_aload_n hx hb dX11_readsLeaf_100 rfl (lv_at hl 3 rfl) ?_
            refine lv_iload hx hb dX11_readsLeaf_101 (lv_at hl 2 rfl) ?_
            obtain ⟨q2, hc, h⟩ := ib h
            have hF := va_frees hD hS hA
            refine va_calli (va_runV (As := [.int (σ.1 0 64)]) (rest := []) ⟨hx, hb, hml, hown, hts⟩ (s_X11_readsText hc) (cwV 1 hts (gV mw_38_20 mw_38_21 mw_38_22 mw_0_15 mw_56_27) rfl rfl rfl (by decide +kernel) ⟨(Nat.le_of_ble_eq_true rfl), (Nat.le_of_ble_eq_true rfl)⟩) (vV (ci := 11) (q0 := 0) hK hP hD hN rfl gB_0) rfl rfl hl.1 rfl (lv_room (Nat.le_of_ble_eq_true rfl)) dX11_readsLeaf_103 ⟨(Nat.le_of_ble_eq_true rfl), (Nat.le_of_ble_eq_true rfl)⟩) hS (fun q _ h => hF q h) hF (fun r3 u t H locs ht hvm hw hB _ _ hS => ?_)
            obtain rfl : r3 = q2.1 := hw
            replace hP : va_P (dC, dI) vwCl (wB a k q2.2) H := by rw [← ht]; exact hB.1
            replace hD := hD0 (q2.2)
            clear hB hF
            refine lv_istore (lv' := [(5, .int q2.1), (6, .int (σ.1 2 p0.toNatClampNeg)), (4, .int (σ.1 0 64)), (0, .ref (a 0)), (1, .int p0), (2, .int p1), (3, .int p2)]) hx hb dX11_readsLeaf_106 hl (by decide) rfl (fun ls hl => ?_)
            exact b_X11_readsLeaf_108 hC h _ hd0 _ _ _ hP hD hS (lv_sub hl [3, 5, 6, 0, 1] rfl)
        · replace h := ip hc h
          refine lv_aload_n hx hb dX11_readsLeaf_85 rfl (lv_at hl 3 rfl) ?_
          obtain ⟨q4, hc, h⟩ := ib h
          have hF := va_frees hD hS hA
          refine va_calli (va_runV (As := []) (rest := []) ⟨hx, hb, hml, hown, hts⟩ (s_X11_readsReal hc) (cwV 0 hts (gV mw_38_17 mw_38_18 mw_38_19 mw_0_15 mw_56_26) rfl rfl rfl (by decide +kernel) ⟨(Nat.le_of_ble_eq_true rfl), (Nat.le_of_ble_eq_true rfl)⟩) (vV (ci := 11) (q0 := 0) hK hP hD hN rfl gB_0) rfl rfl hl.1 rfl (lv_room (Nat.le_of_ble_eq_true rfl)) dX11_readsLeaf_86 ⟨(Nat.le_of_ble_eq_true rfl), (Nat.le_of_ble_eq_true rfl)⟩) hS (fun q _ h => hF q h) hF (fun r5 u t H locs ht hvm hw hB _ _ hS => ?_)
          obtain rfl : r5 = q4.1 := hw
          replace hP : va_P (dC, dI) vwCl (wB a k q4.2) H := by rw [← ht]; exact hB.1
          replace hD := hD0 (q4.2)
          clear hB hF
          refine lv_istore (lv' := [(5, .int q4.1), (6, .int (σ.1 2 p0.toNatClampNeg)), (4, .int (σ.1 0 64)), (0, .ref (a 0)), (1, .int p0), (2, .int p1), (3, .int p2)]) hx hb dX11_readsLeaf_89 hl (by decide) rfl (fun ls hl => ?_)
          refine lv_goto (tgt := 108) hx hb dX11_readsLeaf_91 (by decide) ?_
          exact b_X11_readsLeaf_108 hC h _ hd0 _ _ _ hP hD hS (lv_sub hl [3, 5, 6, 0, 1] rfl)
      · replace h := ip hc h
        refine lv_aload_n hx hb dX11_readsLeaf_68 rfl (lv_at hl 3 rfl) ?_
        refine lv_iload hx hb dX11_readsLeaf_69 (lv_at hl 2 rfl) ?_
        obtain ⟨q6, hc, h⟩ := ib h
        have hF := va_frees hD hS hA
        refine va_calli (va_runV (As := [.int (σ.1 0 64)]) (rest := []) ⟨hx, hb, hml, hown, hts⟩ (s_X11_readsNumber hc) (cwV 1 hts (gV mw_37_23 mw_37_24 mw_37_25 mw_0_15 mw_56_24) rfl rfl rfl (by decide +kernel) ⟨(Nat.le_of_ble_eq_true rfl), (Nat.le_of_ble_eq_true rfl)⟩) (vV (ci := 11) (q0 := 0) hK hP hD hN rfl gB_0) rfl rfl hl.1 rfl (lv_room (Nat.le_of_ble_eq_true rfl)) dX11_readsLeaf_71 ⟨(Nat.le_of_ble_eq_true rfl), (Nat.le_of_ble_eq_true rfl)⟩) hS (fun q _ h => hF q h) hF (fun r7 u t H locs ht hvm hw hB _ _ hS => ?_)
        obtain rfl : r7 = q6.1 := hw
        replace hP : va_P (dC, dI) vwCl (wB a k q6.2) H := by rw [← ht]; exact hB.1
        replace hD := hD0 (q6.2)
        clear hB hF
        refine lv_istore (lv' := [(5, .int q6.1), (6, .int (σ.1 2 p0.toNatClampNeg)), (4, .int (σ.1 0 64)), (0, .ref (a 0)), (1, .int p0), (2, .int p1), (3, .int p2)]) hx hb dX11_readsLeaf_74 hl (by decide) rfl (fun ls hl => ?_)
        refine lv_goto (tgt := 108) hx hb dX11_readsLeaf_76 (by decide) ?_
        exact b_X11_readsLeaf_108 hC h _ hd0 _ _ _ hP hD hS (lv_sub hl [3, 5, 6, 0, 1] rfl)
    · replace h := ip hc h
      refine lv_aload_n hx hb dX11_readsLeaf_45 rfl (lv_at hl 3 rfl) ?_
      refine lv_iload hx hb dX11_readsLeaf_46 (lv_at hl 2 rfl) ?_
      refine lv_ldc2 (v := (-2147483648)) hx hb hown (hts (.constantLong RX11 328 (-2147483648)) mw_31_27) dX11_readsLeaf_48 ?_
      refine lv_ldc2 (v := 2147483647) hx hb hown (hts (.constantLong RX11 330 (2147483647)) mw_31_28) dX11_readsLeaf_51 ?_
      obtain ⟨q8, hc, h⟩ := ib h
      have hF := va_frees hD hS hA
      refine va_calli (va_runV (As := [.int (σ.1 0 64), .long (-2147483648), .long 2147483647]) (rest := []) ⟨hx, hb, hml, hown, hts⟩ (s_X11_readsInt hc) (cwV 3 hts (gV mw_37_27 mw_37_28 mw_37_29 mw_0_15 mw_56_25) rfl rfl rfl (by decide +kernel) ⟨(Nat.le_of_ble_eq_true rfl), (Nat.le_of_ble_eq_true rfl)⟩) (vV (ci := 11) (q0 := 0) hK hP hD hN rfl gB_0) rfl rfl hl.1 rfl (lv_room (Nat.le_of_ble_eq_true rfl)) dX11_readsLeaf_54 ⟨(Nat.le_of_ble_eq_true rfl), (Nat.le_of_ble_eq_true rfl)⟩) hS (fun q _ h => hF q h) hF (fun r9 u t H locs ht hvm hw hB _ _ hS => ?_)
      obtain rfl : r9 = q8.1 := hw
      replace hP : va_P (dC, dI) vwCl (wB a k q8.2) H := by rw [← ht]; exact hB.1
      replace hD := hD0 (q8.2)
      clear hB hF
      refine lv_istore (lv' := [(5, .int q8.1), (6, .int (σ.1 2 p0.toNatClampNeg)), (4, .int (σ.1 0 64)), (0, .ref (a 0)), (1, .int p0), (2, .int p1), (3, .int p2)]) hx hb dX11_readsLeaf_57 hl (by decide) rfl (fun ls hl => ?_)
      refine lv_goto (tgt := 108) hx hb dX11_readsLeaf_59 (by decide) ?_
      exact b_X11_readsLeaf_108 hC h _ hd0 _ _ _ hP hD hS (lv_sub hl [3, 5, 6, 0, 1] rfl)
  · replace h := ip hc h
    refine lv_aload_n hx hb dX11_readsLeaf_28 rfl (lv_at hl 3 rfl) ?_
    refine lv_iload hx hb dX11_readsLeaf_29 (lv_at hl 2 rfl) ?_
    obtain ⟨q10, hc, h⟩ := ib h
    have hF := va_frees hD hS hA
    refine va_calli (va_runV (As := [.int (σ.1 0 64)]) (rest := []) ⟨hx, hb, hml, hown, hts⟩ (s_X11_readsFlag hc) (cwV 1 hts (gV mw_38_14 mw_38_15 mw_38_16 mw_0_15 mw_56_28) rfl rfl rfl (by decide +kernel) ⟨(Nat.le_of_ble_eq_true rfl), (Nat.le_of_ble_eq_true rfl)⟩) (vV (ci := 11) (q0 := 0) hK hP hD hN rfl gB_0) rfl rfl hl.1 rfl (lv_room (Nat.le_of_ble_eq_true rfl)) dX11_readsLeaf_31 ⟨(Nat.le_of_ble_eq_true rfl), (Nat.le_of_ble_eq_true rfl)⟩) hS (fun q _ h => hF q h) hF (fun r11 u t H locs ht hvm hw hB _ _ hS => ?_)
    obtain rfl : r11 = q10.1 := hw
    replace hP : va_P (dC, dI) vwCl (wB a k q10.2) H := by rw [← ht]; exact hB.1
    replace hD := hD0 (q10.2)
    clear hB hF
    refine lv_istore (lv' := [(5, .int q10.1), (6, .int (σ.1 2 p0.toNatClampNeg)), (4, .int (σ.1 0 64)), (0, .ref (a 0)), (1, .int p0), (2, .int p1), (3, .int p2)]) hx hb dX11_readsLeaf_34 hl (by decide) rfl (fun ls hl => ?_)
    refine lv_goto (tgt := 108) hx hb dX11_readsLeaf_36 (by decide) ?_
    exact b_X11_readsLeaf_108 hC h _ hd0 _ _ _ hP hD hS (lv_sub hl [3, 5, 6, 0, 1] rfl)

theorem s_X11_readsLeaf {l : Launch} {dC : Nat → ClassId} {dI : Nat → Nat → Nat} {a : Nat → Nat} {k : Nat → ClassId} {sz : Nat} {p0 : Int32} {p1 : Int32} {p2 : Int32} {σ : ST} {q : Int32 × ST} (h : f_X11_readsLeaf  p0 p1 p2 σ = some q) : MetD csD l yX11_readsLeaf (.code yX11_readsLeaf cX11_readsLeaf 10 (some .boolean) :: pw) ({ frames := 5, cells := 0, slots := 0, locals := 118 } : Room) (va_Pc [.ref (a 0), .int p0, .int p1, .int p2] (vPre dC dI (wB a k σ) (tB k) sz)) (qBi dC dI a k (va_A (wB a k σ) sz) q) 0 0 (va_A (wB a k σ) sz) := medB (fun A => qBi dC dI a k A q) (by decide) (Nat.le_of_ble_eq_true rfl) (fun _ _ _ _ _ _ _ _ hC => b_X11_readsLeaf_e hC h)
