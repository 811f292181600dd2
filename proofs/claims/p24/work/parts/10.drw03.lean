theorem dX11_alike_0 : decode cX11_alike 0 = .ok (.aload_n 0, 1) := by decide +kernel
theorem dX11_alike_1 : decode cX11_alike 1 = .ok (.iconst 0, 1) := by decide +kernel
theorem dX11_alike_2 : decode cX11_alike 2 = .ok (.putfield 178, 3) := by decide +kernel
theorem dX11_alike_5 : decode cX11_alike 5 = .ok (.aload_n 0, 1) := by decide +kernel
theorem dX11_alike_6 : decode cX11_alike 6 = .ok (.iload_n 1, 1) := by decide +kernel
theorem dX11_alike_7 : decode cX11_alike 7 = .ok (.invokevirtual 486, 3) := by decide +kernel
theorem dX11_alike_10 : decode cX11_alike 10 = .ok (.ifCond .eq 19, 3) := by decide +kernel
theorem dX11_alike_13 : decode cX11_alike 13 = .ok (.aload_n 0, 1) := by decide +kernel
theorem dX11_alike_14 : decode cX11_alike 14 = .ok (.iload_n 2, 1) := by decide +kernel
theorem dX11_alike_15 : decode cX11_alike 15 = .ok (.invokevirtual 486, 3) := by decide +kernel
theorem dX11_alike_18 : decode cX11_alike 18 = .ok (.ifCond .eq 11, 3) := by decide +kernel
theorem dX11_alike_21 : decode cX11_alike 21 = .ok (.aload_n 0, 1) := by decide +kernel
theorem dX11_alike_22 : decode cX11_alike 22 = .ok (.iload_n 3, 1) := by decide +kernel
theorem dX11_alike_23 : decode cX11_alike 23 = .ok (.invokevirtual 407, 3) := by decide +kernel
theorem dX11_alike_26 : decode cX11_alike 26 = .ok (.ifCond .ne 5, 3) := by decide +kernel
theorem dX11_alike_29 : decode cX11_alike 29 = .ok (.iconst (-1), 1) := by decide +kernel
theorem dX11_alike_30 : decode cX11_alike 30 = .ok (.ireturn, 1) := by decide +kernel
theorem dX11_alike_31 : decode cX11_alike 31 = .ok (.aload_n 0, 1) := by decide +kernel
theorem dX11_alike_32 : decode cX11_alike 32 = .ok (.iload_n 1, 1) := by decide +kernel
theorem dX11_alike_33 : decode cX11_alike 33 = .ok (.iload_n 3, 1) := by decide +kernel
theorem dX11_alike_34 : decode cX11_alike 34 = .ok (.invokevirtual 615, 3) := by decide +kernel
theorem dX11_alike_37 : decode cX11_alike 37 = .ok (.istore 4, 2) := by decide +kernel
theorem dX11_alike_39 : decode cX11_alike 39 = .ok (.iload 4, 2) := by decide +kernel
theorem dX11_alike_41 : decode cX11_alike 41 = .ok (.ifCond .ge 6, 3) := by decide +kernel
theorem dX11_alike_44 : decode cX11_alike 44 = .ok (.iload 4, 2) := by decide +kernel
theorem dX11_alike_46 : decode cX11_alike 46 = .ok (.ireturn, 1) := by decide +kernel
theorem dX11_alike_47 : decode cX11_alike 47 = .ok (.aload_n 0, 1) := by decide +kernel
theorem dX11_alike_48 : decode cX11_alike 48 = .ok (.iconst 0, 1) := by decide +kernel
theorem dX11_alike_49 : decode cX11_alike 49 = .ok (.putfield 629, 3) := by decide +kernel
theorem dX11_alike_52 : decode cX11_alike 52 = .ok (.aload_n 0, 1) := by decide +kernel
theorem dX11_alike_53 : decode cX11_alike 53 = .ok (.iconst 0, 1) := by decide +kernel
theorem dX11_alike_54 : decode cX11_alike 54 = .ok (.invokevirtual 632, 3) := by decide +kernel
theorem dX11_alike_57 : decode cX11_alike 57 = .ok (.aload_n 0, 1) := by decide +kernel
theorem dX11_alike_58 : decode cX11_alike 58 = .ok (.getfield 629, 3) := by decide +kernel
theorem dX11_alike_61 : decode cX11_alike 61 = .ok (.istore 5, 2) := by decide +kernel
theorem dX11_alike_63 : decode cX11_alike 63 = .ok (.iconst 0, 1) := by decide +kernel
theorem dX11_alike_64 : decode cX11_alike 64 = .ok (.istore 6, 2) := by decide +kernel
theorem dX11_alike_66 : decode cX11_alike 66 = .ok (.iload 6, 2) := by decide +kernel
theorem dX11_alike_68 : decode cX11_alike 68 = .ok (.iconst 4, 1) := by decide +kernel
theorem dX11_alike_69 : decode cX11_alike 69 = .ok (.iload 5, 2) := by decide +kernel
theorem dX11_alike_71 : decode cX11_alike 71 = .ok (.imul, 1) := by decide +kernel
theorem dX11_alike_72 : decode cX11_alike 72 = .ok (.if_icmp .ge 23, 3) := by decide +kernel
theorem dX11_alike_75 : decode cX11_alike 75 = .ok (.aload_n 0, 1) := by decide +kernel
theorem dX11_alike_76 : decode cX11_alike 76 = .ok (.getfield 169, 3) := by decide +kernel
theorem dX11_alike_79 : decode cX11_alike 79 = .ok (.iload 6, 2) := by decide +kernel
theorem dX11_alike_81 : decode cX11_alike 81 = .ok (.aload_n 0, 1) := by decide +kernel
theorem dX11_alike_82 : decode cX11_alike 82 = .ok (.getfield 163, 3) := by decide +kernel
theorem dX11_alike_85 : decode cX11_alike 85 = .ok (.iload 6, 2) := by decide +kernel
theorem dX11_alike_87 : decode cX11_alike 87 = .ok (.iaload, 1) := by decide +kernel
theorem dX11_alike_88 : decode cX11_alike 88 = .ok (.iastore, 1) := by decide +kernel
theorem dX11_alike_89 : decode cX11_alike 89 = .ok (.iinc 6 1, 3) := by decide +kernel
theorem dX11_alike_92 : decode cX11_alike 92 = .ok (.goto (-26), 3) := by decide +kernel
theorem dX11_alike_95 : decode cX11_alike 95 = .ok (.iconst 0, 1) := by decide +kernel
theorem dX11_alike_96 : decode cX11_alike 96 = .ok (.istore 6, 2) := by decide +kernel
theorem dX11_alike_98 : decode cX11_alike 98 = .ok (.iload 6, 2) := by decide +kernel
theorem dX11_alike_100 : decode cX11_alike 100 = .ok (.iconst 2, 1) := by decide +kernel
theorem dX11_alike_101 : decode cX11_alike 101 = .ok (.iload 5, 2) := by decide +kernel
theorem dX11_alike_103 : decode cX11_alike 103 = .ok (.imul, 1) := by decide +kernel
theorem dX11_alike_104 : decode cX11_alike 104 = .ok (.if_icmp .ge 23, 3) := by decide +kernel
theorem dX11_alike_107 : decode cX11_alike 107 = .ok (.aload_n 0, 1) := by decide +kernel
theorem dX11_alike_108 : decode cX11_alike 108 = .ok (.getfield 172, 3) := by decide +kernel
theorem dX11_alike_111 : decode cX11_alike 111 = .ok (.iload 6, 2) := by decide +kernel
theorem dX11_alike_113 : decode cX11_alike 113 = .ok (.aload_n 0, 1) := by decide +kernel
theorem dX11_alike_114 : decode cX11_alike 114 = .ok (.getfield 166, 3) := by decide +kernel
theorem dX11_alike_117 : decode cX11_alike 117 = .ok (.iload 6, 2) := by decide +kernel
theorem dX11_alike_119 : decode cX11_alike 119 = .ok (.laload, 1) := by decide +kernel
theorem dX11_alike_120 : decode cX11_alike 120 = .ok (.lastore, 1) := by decide +kernel
theorem dX11_alike_121 : decode cX11_alike 121 = .ok (.iinc 6 1, 3) := by decide +kernel
theorem dX11_alike_124 : decode cX11_alike 124 = .ok (.goto (-26), 3) := by decide +kernel
theorem dX11_alike_127 : decode cX11_alike 127 = .ok (.aload_n 0, 1) := by decide +kernel
theorem dX11_alike_128 : decode cX11_alike 128 = .ok (.iload_n 2, 1) := by decide +kernel
theorem dX11_alike_129 : decode cX11_alike 129 = .ok (.iload_n 3, 1) := by decide +kernel
theorem dX11_alike_130 : decode cX11_alike 130 = .ok (.invokevirtual 615, 3) := by decide +kernel
theorem dX11_alike_133 : decode cX11_alike 133 = .ok (.istore 4, 2) := by decide +kernel
theorem dX11_alike_135 : decode cX11_alike 135 = .ok (.iload 4, 2) := by decide +kernel
theorem dX11_alike_137 : decode cX11_alike 137 = .ok (.ifCond .ge 6, 3) := by decide +kernel
theorem dX11_alike_140 : decode cX11_alike 140 = .ok (.iload 4, 2) := by decide +kernel
theorem dX11_alike_142 : decode cX11_alike 142 = .ok (.ireturn, 1) := by decide +kernel
theorem dX11_alike_143 : decode cX11_alike 143 = .ok (.aload_n 0, 1) := by decide +kernel
theorem dX11_alike_144 : decode cX11_alike 144 = .ok (.iconst 0, 1) := by decide +kernel
theorem dX11_alike_145 : decode cX11_alike 145 = .ok (.putfield 629, 3) := by decide +kernel
theorem dX11_alike_148 : decode cX11_alike 148 = .ok (.aload_n 0, 1) := by decide +kernel
theorem dX11_alike_149 : decode cX11_alike 149 = .ok (.iconst 0, 1) := by decide +kernel
theorem dX11_alike_150 : decode cX11_alike 150 = .ok (.invokevirtual 632, 3) := by decide +kernel
theorem dX11_alike_153 : decode cX11_alike 153 = .ok (.aload_n 0, 1) := by decide +kernel
theorem dX11_alike_154 : decode cX11_alike 154 = .ok (.getfield 629, 3) := by decide +kernel
theorem dX11_alike_157 : decode cX11_alike 157 = .ok (.iload 5, 2) := by decide +kernel
theorem dX11_alike_159 : decode cX11_alike 159 = .ok (.if_icmp .ne 7, 3) := by decide +kernel
theorem dX11_alike_162 : decode cX11_alike 162 = .ok (.iconst 1, 1) := by decide +kernel
theorem dX11_alike_163 : decode cX11_alike 163 = .ok (.goto 4, 3) := by decide +kernel
theorem dX11_alike_166 : decode cX11_alike 166 = .ok (.iconst 0, 1) := by decide +kernel
theorem dX11_alike_167 : decode cX11_alike 167 = .ok (.istore 6, 2) := by decide +kernel
theorem dX11_alike_169 : decode cX11_alike 169 = .ok (.iconst 0, 1) := by decide +kernel
theorem dX11_alike_170 : decode cX11_alike 170 = .ok (.istore 7, 2) := by decide +kernel
theorem dX11_alike_172 : decode cX11_alike 172 = .ok (.iload 7, 2) := by decide +kernel
theorem dX11_alike_174 : decode cX11_alike 174 = .ok (.iconst 4, 1) := by decide +kernel
theorem dX11_alike_175 : decode cX11_alike 175 = .ok (.iload 5, 2) := by decide +kernel
theorem dX11_alike_177 : decode cX11_alike 177 = .ok (.imul, 1) := by decide +kernel
theorem dX11_alike_178 : decode cX11_alike 178 = .ok (.if_icmp .ge 60, 3) := by decide +kernel
theorem dX11_alike_181 : decode cX11_alike 181 = .ok (.iload 6, 2) := by decide +kernel
theorem dX11_alike_183 : decode cX11_alike 183 = .ok (.ifCond .eq 55, 3) := by decide +kernel
theorem dX11_alike_186 : decode cX11_alike 186 = .ok (.aload_n 0, 1) := by decide +kernel
theorem dX11_alike_187 : decode cX11_alike 187 = .ok (.getfield 169, 3) := by decide +kernel
theorem dX11_alike_190 : decode cX11_alike 190 = .ok (.iload 7, 2) := by decide +kernel
theorem dX11_alike_192 : decode cX11_alike 192 = .ok (.iaload, 1) := by decide +kernel
theorem dX11_alike_193 : decode cX11_alike 193 = .ok (.aload_n 0, 1) := by decide +kernel
theorem dX11_alike_194 : decode cX11_alike 194 = .ok (.getfield 163, 3) := by decide +kernel
theorem dX11_alike_197 : decode cX11_alike 197 = .ok (.iload 7, 2) := by decide +kernel
theorem dX11_alike_199 : decode cX11_alike 199 = .ok (.iaload, 1) := by decide +kernel
theorem dX11_alike_200 : decode cX11_alike 200 = .ok (.if_icmp .ne 29, 3) := by decide +kernel
theorem dX11_alike_203 : decode cX11_alike 203 = .ok (.aload_n 0, 1) := by decide +kernel
theorem dX11_alike_204 : decode cX11_alike 204 = .ok (.getfield 172, 3) := by decide +kernel
theorem dX11_alike_207 : decode cX11_alike 207 = .ok (.iload 7, 2) := by decide +kernel
theorem dX11_alike_209 : decode cX11_alike 209 = .ok (.iconst 2, 1) := by decide +kernel
theorem dX11_alike_210 : decode cX11_alike 210 = .ok (.idiv, 1) := by decide +kernel
theorem dX11_alike_211 : decode cX11_alike 211 = .ok (.laload, 1) := by decide +kernel
theorem dX11_alike_212 : decode cX11_alike 212 = .ok (.aload_n 0, 1) := by decide +kernel
theorem dX11_alike_213 : decode cX11_alike 213 = .ok (.getfield 166, 3) := by decide +kernel
theorem dX11_alike_216 : decode cX11_alike 216 = .ok (.iload 7, 2) := by decide +kernel
theorem dX11_alike_218 : decode cX11_alike 218 = .ok (.iconst 2, 1) := by decide +kernel
theorem dX11_alike_219 : decode cX11_alike 219 = .ok (.idiv, 1) := by decide +kernel
theorem dX11_alike_220 : decode cX11_alike 220 = .ok (.laload, 1) := by decide +kernel
theorem dX11_alike_221 : decode cX11_alike 221 = .ok (.lcmp, 1) := by decide +kernel
theorem dX11_alike_222 : decode cX11_alike 222 = .ok (.ifCond .ne 7, 3) := by decide +kernel
theorem dX11_alike_225 : decode cX11_alike 225 = .ok (.iconst 1, 1) := by decide +kernel
theorem dX11_alike_226 : decode cX11_alike 226 = .ok (.goto 4, 3) := by decide +kernel
theorem dX11_alike_229 : decode cX11_alike 229 = .ok (.iconst 0, 1) := by decide +kernel
theorem dX11_alike_230 : decode cX11_alike 230 = .ok (.istore 6, 2) := by decide +kernel
theorem dX11_alike_232 : decode cX11_alike 232 = .ok (.iinc 7 1, 3) := by decide +kernel
theorem dX11_alike_235 : decode cX11_alike 235 = .ok (.goto (-63), 3) := by decide +kernel
theorem dX11_alike_238 : decode cX11_alike 238 = .ok (.iload 6, 2) := by decide +kernel
theorem dX11_alike_240 : decode cX11_alike 240 = .ok (.ifCond .eq 7, 3) := by decide +kernel
theorem dX11_alike_243 : decode cX11_alike 243 = .ok (.iconst 1, 1) := by decide +kernel
theorem dX11_alike_244 : decode cX11_alike 244 = .ok (.goto 4, 3) := by decide +kernel
theorem dX11_alike_247 : decode cX11_alike 247 = .ok (.iconst 0, 1) := by decide +kernel
theorem dX11_alike_248 : decode cX11_alike 248 = .ok (.ireturn, 1) := by decide +kernel
theorem dX11_convert_0 : decode cX11_convert 0 = .ok (.aload_n 0, 1) := by decide +kernel
theorem dX11_convert_1 : decode cX11_convert 1 = .ok (.iconst 0, 1) := by decide +kernel
theorem dX11_convert_2 : decode cX11_convert 2 = .ok (.putfield 178, 3) := by decide +kernel
theorem dX11_convert_5 : decode cX11_convert 5 = .ok (.aload_n 0, 1) := by decide +kernel
theorem dX11_convert_6 : decode cX11_convert 6 = .ok (.iload_n 1, 1) := by decide +kernel
theorem dX11_convert_7 : decode cX11_convert 7 = .ok (.invokevirtual 486, 3) := by decide +kernel
theorem dX11_convert_10 : decode cX11_convert 10 = .ok (.ifCond .eq 23, 3) := by decide +kernel
theorem dX11_convert_13 : decode cX11_convert 13 = .ok (.aload_n 0, 1) := by decide +kernel
theorem dX11_convert_14 : decode cX11_convert 14 = .ok (.iload_n 2, 1) := by decide +kernel
theorem dX11_convert_15 : decode cX11_convert 15 = .ok (.invokevirtual 407, 3) := by decide +kernel
theorem dX11_convert_18 : decode cX11_convert 18 = .ok (.ifCond .eq 15, 3) := by decide +kernel
theorem dX11_convert_21 : decode cX11_convert 21 = .ok (.iload_n 3, 1) := by decide +kernel
theorem dX11_convert_22 : decode cX11_convert 22 = .ok (.i2l, 1) := by decide +kernel
theorem dX11_convert_23 : decode cX11_convert 23 = .ok (.lconst 0, 1) := by decide +kernel
theorem dX11_convert_24 : decode cX11_convert 24 = .ok (.ldc2_w 475, 3) := by decide +kernel
theorem dX11_convert_27 : decode cX11_convert 27 = .ok (.invokestatic 196, 3) := by decide +kernel
theorem dX11_convert_30 : decode cX11_convert 30 = .ok (.ifCond .ne 5, 3) := by decide +kernel
theorem dX11_convert_33 : decode cX11_convert 33 = .ok (.iconst (-1), 1) := by decide +kernel
theorem dX11_convert_34 : decode cX11_convert 34 = .ok (.ireturn, 1) := by decide +kernel
theorem dX11_convert_35 : decode cX11_convert 35 = .ok (.aload_n 0, 1) := by decide +kernel
theorem dX11_convert_36 : decode cX11_convert 36 = .ok (.iload_n 1, 1) := by decide +kernel
theorem dX11_convert_37 : decode cX11_convert 37 = .ok (.iload_n 2, 1) := by decide +kernel
theorem dX11_convert_38 : decode cX11_convert 38 = .ok (.invokevirtual 624, 3) := by decide +kernel
theorem dX11_convert_41 : decode cX11_convert 41 = .ok (.istore 4, 2) := by decide +kernel
theorem dX11_convert_43 : decode cX11_convert 43 = .ok (.iload 4, 2) := by decide +kernel
theorem dX11_convert_45 : decode cX11_convert 45 = .ok (.ifCond .ge 6, 3) := by decide +kernel
theorem dX11_convert_48 : decode cX11_convert 48 = .ok (.iload 4, 2) := by decide +kernel
theorem dX11_convert_50 : decode cX11_convert 50 = .ok (.ireturn, 1) := by decide +kernel
theorem dX11_convert_51 : decode cX11_convert 51 = .ok (.aload_n 0, 1) := by decide +kernel
theorem dX11_convert_52 : decode cX11_convert 52 = .ok (.iconst 0, 1) := by decide +kernel
theorem dX11_convert_53 : decode cX11_convert 53 = .ok (.invokevirtual 480, 3) := by decide +kernel
theorem dX11_convert_56 : decode cX11_convert 56 = .ok (.aload_n 0, 1) := by decide +kernel
theorem dX11_convert_57 : decode cX11_convert 57 = .ok (.getfield 451, 3) := by decide +kernel
theorem dX11_convert_60 : decode cX11_convert 60 = .ok (.ifCond .eq 6, 3) := by decide +kernel
theorem dX11_convert_63 : decode cX11_convert 63 = .ok (.bipush (-4), 2) := by decide +kernel
theorem dX11_convert_65 : decode cX11_convert 65 = .ok (.ireturn, 1) := by decide +kernel
theorem dX11_convert_66 : decode cX11_convert 66 = .ok (.aload_n 0, 1) := by decide +kernel
theorem dX11_convert_67 : decode cX11_convert 67 = .ok (.iload_n 3, 1) := by decide +kernel
theorem dX11_convert_68 : decode cX11_convert 68 = .ok (.iload_n 2, 1) := by decide +kernel
theorem dX11_convert_69 : decode cX11_convert 69 = .ok (.invokevirtual 483, 3) := by decide +kernel
theorem dX11_convert_72 : decode cX11_convert 72 = .ok (.aload_n 0, 1) := by decide +kernel
theorem dX11_convert_73 : decode cX11_convert 73 = .ok (.getfield 448, 3) := by decide +kernel
theorem dX11_convert_76 : decode cX11_convert 76 = .ok (.ireturn, 1) := by decide +kernel
theorem dX11_read_0 : decode cX11_read 0 = .ok (.aload_n 0, 1) := by decide +kernel
theorem dX11_read_1 : decode cX11_read 1 = .ok (.iconst 0, 1) := by decide +kernel
theorem dX11_read_2 : decode cX11_read 2 = .ok (.putfield 178, 3) := by decide +kernel
theorem dX11_read_5 : decode cX11_read 5 = .ok (.aload_n 0, 1) := by decide +kernel
theorem dX11_read_6 : decode cX11_read 6 = .ok (.iload_n 1, 1) := by decide +kernel
theorem dX11_read_7 : decode cX11_read 7 = .ok (.invokevirtual 486, 3) := by decide +kernel
theorem dX11_read_10 : decode cX11_read 10 = .ok (.ifCond .eq 11, 3) := by decide +kernel
theorem dX11_read_13 : decode cX11_read 13 = .ok (.aload_n 0, 1) := by decide +kernel
theorem dX11_read_14 : decode cX11_read 14 = .ok (.iload_n 2, 1) := by decide +kernel
theorem dX11_read_15 : decode cX11_read 15 = .ok (.invokevirtual 407, 3) := by decide +kernel
theorem dX11_read_18 : decode cX11_read 18 = .ok (.ifCond .ne 5, 3) := by decide +kernel
theorem dX11_read_21 : decode cX11_read 21 = .ok (.iconst (-1), 1) := by decide +kernel
theorem dX11_read_22 : decode cX11_read 22 = .ok (.ireturn, 1) := by decide +kernel
theorem dX11_read_23 : decode cX11_read 23 = .ok (.aload_n 0, 1) := by decide +kernel
theorem dX11_read_24 : decode cX11_read 24 = .ok (.iload_n 1, 1) := by decide +kernel
theorem dX11_read_25 : decode cX11_read 25 = .ok (.iload_n 2, 1) := by decide +kernel
theorem dX11_read_26 : decode cX11_read 26 = .ok (.invokevirtual 624, 3) := by decide +kernel
theorem dX11_read_29 : decode cX11_read 29 = .ok (.istore_n 3, 1) := by decide +kernel
theorem dX11_read_30 : decode cX11_read 30 = .ok (.iload_n 3, 1) := by decide +kernel
theorem dX11_read_31 : decode cX11_read 31 = .ok (.ifCond .ge 7, 3) := by decide +kernel
theorem dX11_read_34 : decode cX11_read 34 = .ok (.iload_n 3, 1) := by decide +kernel
theorem dX11_read_35 : decode cX11_read 35 = .ok (.goto 7, 3) := by decide +kernel
theorem dX11_read_38 : decode cX11_read 38 = .ok (.aload_n 0, 1) := by decide +kernel
theorem dX11_read_39 : decode cX11_read 39 = .ok (.getfield 392, 3) := by decide +kernel
theorem dX11_read_42 : decode cX11_read 42 = .ok (.ireturn, 1) := by decide +kernel
theorem dX11_readsFor_0 : decode cX11_readsFor 0 = .ok (.aload_n 0, 1) := by decide +kernel
theorem dX11_readsFor_1 : decode cX11_readsFor 1 = .ok (.bipush 10, 2) := by decide +kernel
theorem dX11_readsFor_3 : decode cX11_readsFor 3 = .ok (.aload_n 0, 1) := by decide +kernel
theorem dX11_readsFor_4 : decode cX11_readsFor 4 = .ok (.getfield 106, 3) := by decide +kernel
theorem dX11_readsFor_7 : decode cX11_readsFor 7 = .ok (.iload_n 1, 1) := by decide +kernel
theorem dX11_readsFor_8 : decode cX11_readsFor 8 = .ok (.iaload, 1) := by decide +kernel
theorem dX11_readsFor_9 : decode cX11_readsFor 9 = .ok (.imul, 1) := by decide +kernel
theorem dX11_readsFor_10 : decode cX11_readsFor 10 = .ok (.iload_n 2, 1) := by decide +kernel
theorem dX11_readsFor_11 : decode cX11_readsFor 11 = .ok (.iadd, 1) := by decide +kernel
theorem dX11_readsFor_12 : decode cX11_readsFor 12 = .ok (.invokevirtual 612, 3) := by decide +kernel
theorem dX11_readsFor_15 : decode cX11_readsFor 15 = .ok (.aload_n 0, 1) := by decide +kernel
theorem dX11_readsFor_16 : decode cX11_readsFor 16 = .ok (.iload_n 1, 1) := by decide +kernel
theorem dX11_readsFor_17 : decode cX11_readsFor 17 = .ok (.iload_n 2, 1) := by decide +kernel
theorem dX11_readsFor_18 : decode cX11_readsFor 18 = .ok (.invokevirtual 615, 3) := by decide +kernel
theorem dX11_readsFor_21 : decode cX11_readsFor 21 = .ok (.istore_n 3, 1) := by decide +kernel
theorem dX11_readsFor_22 : decode cX11_readsFor 22 = .ok (.aload_n 0, 1) := by decide +kernel
theorem dX11_readsFor_23 : decode cX11_readsFor 23 = .ok (.iconst 0, 1) := by decide +kernel
theorem dX11_readsFor_24 : decode cX11_readsFor 24 = .ok (.putfield 392, 3) := by decide +kernel
theorem dX11_readsFor_27 : decode cX11_readsFor 27 = .ok (.aload_n 0, 1) := by decide +kernel
theorem dX11_readsFor_28 : decode cX11_readsFor 28 = .ok (.aload_n 0, 1) := by decide +kernel
theorem dX11_readsFor_29 : decode cX11_readsFor 29 = .ok (.getfield 539, 3) := by decide +kernel
theorem dX11_readsFor_32 : decode cX11_readsFor 32 = .ok (.putfield 395, 3) := by decide +kernel
theorem dX11_readsFor_35 : decode cX11_readsFor 35 = .ok (.aload_n 0, 1) := by decide +kernel
theorem dX11_readsFor_36 : decode cX11_readsFor 36 = .ok (.aload_n 0, 1) := by decide +kernel
theorem dX11_readsFor_37 : decode cX11_readsFor 37 = .ok (.getfield 542, 3) := by decide +kernel
theorem dX11_readsFor_40 : decode cX11_readsFor 40 = .ok (.putfield 618, 3) := by decide +kernel
theorem dX11_readsFor_43 : decode cX11_readsFor 43 = .ok (.aload_n 0, 1) := by decide +kernel
theorem dX11_readsFor_44 : decode cX11_readsFor 44 = .ok (.aload_n 0, 1) := by decide +kernel
theorem dX11_readsFor_45 : decode cX11_readsFor 45 = .ok (.getfield 545, 3) := by decide +kernel
theorem dX11_readsFor_48 : decode cX11_readsFor 48 = .ok (.putfield 621, 3) := by decide +kernel
theorem dX11_readsFor_51 : decode cX11_readsFor 51 = .ok (.iconst 0, 1) := by decide +kernel
theorem dX11_readsFor_52 : decode cX11_readsFor 52 = .ok (.istore 4, 2) := by decide +kernel
theorem dX11_readsFor_54 : decode cX11_readsFor 54 = .ok (.iload 4, 2) := by decide +kernel
theorem dX11_readsFor_56 : decode cX11_readsFor 56 = .ok (.aload_n 0, 1) := by decide +kernel
theorem dX11_readsFor_57 : decode cX11_readsFor 57 = .ok (.getfield 545, 3) := by decide +kernel
theorem dX11_readsFor_60 : decode cX11_readsFor 60 = .ok (.if_icmp .ge 23, 3) := by decide +kernel
theorem dX11_readsFor_63 : decode cX11_readsFor 63 = .ok (.aload_n 0, 1) := by decide +kernel
theorem dX11_readsFor_64 : decode cX11_readsFor 64 = .ok (.getfield 157, 3) := by decide +kernel
theorem dX11_readsFor_67 : decode cX11_readsFor 67 = .ok (.iload 4, 2) := by decide +kernel
theorem dX11_readsFor_69 : decode cX11_readsFor 69 = .ok (.aload_n 0, 1) := by decide +kernel
theorem dX11_readsFor_70 : decode cX11_readsFor 70 = .ok (.getfield 133, 3) := by decide +kernel
theorem dX11_readsFor_73 : decode cX11_readsFor 73 = .ok (.iload 4, 2) := by decide +kernel
theorem dX11_readsFor_75 : decode cX11_readsFor 75 = .ok (.iaload, 1) := by decide +kernel
theorem dX11_readsFor_76 : decode cX11_readsFor 76 = .ok (.iastore, 1) := by decide +kernel
theorem dX11_readsFor_77 : decode cX11_readsFor 77 = .ok (.iinc 4 1, 3) := by decide +kernel
theorem dX11_readsFor_80 : decode cX11_readsFor 80 = .ok (.goto (-26), 3) := by decide +kernel
theorem dX11_readsFor_83 : decode cX11_readsFor 83 = .ok (.iload_n 3, 1) := by decide +kernel
theorem dX11_readsFor_84 : decode cX11_readsFor 84 = .ok (.ifCond .ne 9, 3) := by decide +kernel
theorem dX11_readsFor_87 : decode cX11_readsFor 87 = .ok (.aload_n 0, 1) := by decide +kernel
theorem dX11_readsFor_88 : decode cX11_readsFor 88 = .ok (.iconst 0, 1) := by decide +kernel
theorem dX11_readsFor_89 : decode cX11_readsFor 89 = .ok (.iconst (-1), 1) := by decide +kernel
theorem dX11_readsFor_90 : decode cX11_readsFor 90 = .ok (.invokevirtual 609, 3) := by decide +kernel
theorem dX11_readsFor_93 : decode cX11_readsFor 93 = .ok (.iload_n 3, 1) := by decide +kernel
theorem dX11_readsFor_94 : decode cX11_readsFor 94 = .ok (.ireturn, 1) := by decide +kernel
def f_X11_readsAll_106 (x4 : Int32) (σ : ST) : Option (Int32 × ST) := if x4 = 0 then (some ((-3), σ)) else (some (0, σ))
def f_X11_readsAll (p0 : Int32) (p1 : Int32) (σ : ST) : Option (Int32 × ST) := if 0 ≤ p0.toInt ∧ p0.toInt < 4 then ((f_X11_laysPairs  (σ.1 32 p0.toNatClampNeg) p1 σ).bind fun q2 => if ((stI q2 0 66 0).1 35 (0 : Int32).toNatClampNeg) = 0 then (some ((-2), (stI q2 0 66 0))) else ((some (stI (stI (stI (stI q2 0 66 0) 0 63 (400 * p0)) 0 64 0) 0 65 ((stI (stI (stI q2 0 66 0) 0 63 (400 * p0)) 0 64 0).1 33 p0.toNatClampNeg))).bind fun z4 => (f_X11_rootType   (stI (stI z4 0 57 0) 0 46 0)).bind fun q5 => (f_T_X11_reads  q5.1 q5.1 0 (-1) 0 q5.2).bind fun q7 => if q7.1 = 0 then (f_X11_readsAll_106  q7.1 q7.2) else (if (q7.2.1 0 65) ≤ (q7.2.1 0 64) then (f_X11_readsAll_106  q7.1 q7.2) else ((f_X11_fails  14 (q7.2.1 0 64) q7.2).bind fun q9 => f_X11_readsAll_106  q9.1 q9.2)))) else none

set_option maxRecDepth 100000 in
set_option maxHeartbeats 4000000 in
theorem b_X11_readsAll_106 {p : Program} {l : Launch} {e : Env} {s : State} {m : MethodId} {args : Array Value} {below : List Frame} {meth : Method} {c : Code} {dC : Nat → ClassId} {dI : Nat → Nat → Nat} {a : Nat → Nat} {k : Nat → ClassId} {A : Nat → Prop} {q : Int32 × ST} (hC : CxB p s m args meth c dC dI k A cX11_readsAll RX11 (some .int) 5)   {x4 : Int32} {σ : ST} (h : f_X11_readsAll_106  x4 σ = some q) : GdB p l e ({ frames := 684, cells := 0, slots := 0, locals := 19434 } : Room) s m args below meth c (MQD csD below (qBi dC dI a k A q) args s 0 0 A) dC dI a k A 5 106 σ [(4, .int x4)] [] := by
  have hC0 := hC
  obtain ⟨hx, hb, hr, hml, hown, hts, hlocks, hA, hN, hK⟩ := hC0
  have hts0 := hts
  have hN0 := hN
  have hK0 := hK
  intro d0 hd0
  replace hts := dr_words hts0 d0
  replace hN : nN (s.setDrawn d0) := nN.same (u := s) (U := s.setDrawn d0) rfl hN0
  replace hK : va_K (dC, dI) vwCl (tB k) (s.setDrawn d0) := hK0
  intro H locs ls hP hD hS hl
  have hD0 : ∀ σ1 : ST, va_D A (wB a k σ1) := fun σ1 => wB_D hD
  unfold f_X11_readsAll_106 at h
  refine lv_iload hx hb dX11_readsAll_106 (lv_at hl 0 rfl) ?_
  refine lv_if_eq (tgt := 115) hx hb dX11_readsAll_108 (by decide) (fun hc => ?_) (fun hc => ?_)
  · replace h := ip hc h
    refine lv_bipush (v := (-3)) hx hb dX11_readsAll_115 (by decide) ?_
    refine W.endD hd0 ?_
    obtain rfl := Option.some.inj h
    exact W.iret hx hb hr (fun t ht hW => ⟨⟨_, (), rfl, rfl, ⟨by rw [ht]; exact hP, va_K.moved hW.alike hK, hD⟩⟩, hS.F ht⟩) hS.2.2 dX11_readsAll_117
  · replace h := iq hc h
    refine lv_iconst (v := 0) hx hb dX11_readsAll_111 (by decide) ?_
    refine lv_goto (tgt := 117) hx hb dX11_readsAll_112 (by decide) ?_
    refine W.endD hd0 ?_
    obtain rfl := Option.some.inj h
    exact W.iret hx hb hr (fun t ht hW => ⟨⟨_, (), rfl, rfl, ⟨by rw [ht]; exact hP, va_K.moved hW.alike hK, hD⟩⟩, hS.F ht⟩) hS.2.2 dX11_readsAll_117

set_option maxRecDepth 100000 in
set_option maxHeartbeats 4000000 in
theorem b_X11_readsAll_e {p : Program} {l : Launch} {e : Env} {s : State} {m : MethodId} {args : Array Value} {below : List Frame} {meth : Method} {c : Code} {dC : Nat → ClassId} {dI : Nat → Nat → Nat} {a : Nat → Nat} {k : Nat → ClassId} {A : Nat → Prop} {q : Int32 × ST} (hC : CxB p s m args meth c dC dI k A cX11_readsAll RX11 (some .int) 5)   {p0 : Int32} {p1 : Int32} {σ : ST} (h : f_X11_readsAll  p0 p1 σ = some q) : GdB p l e ({ frames := 684, cells := 0, slots := 0, locals := 19434 } : Room) s m args below meth c (MQD csD below (qBi dC dI a k A q) args s 0 0 A) dC dI a k A 5 0 σ (lv_args 0 [.ref (a 0), .int p0, .int p1]) [] := by
  have hC0 := hC
  obtain ⟨hx, hb, hr, hml, hown, hts, hlocks, hA, hN, hK⟩ := hC0
  have hts0 := hts
  have hN0 := hN
  have hK0 := hK
  intro d0 hd0
  replace hts := dr_words hts0 d0
  replace hN : nN (s.setDrawn d0) := nN.same (u := s) (U := s.setDrawn d0) rfl hN0
  replace hK : va_K (dC, dI) vwCl (tB k) (s.setDrawn d0) := hK0
  intro H locs ls hP hD hS hl
  have hD0 : ∀ σ1 : ST, va_D A (wB a k σ1) := fun σ1 => wB_D hD
  replace hl : lv_has ls 5 [(0, .ref (a 0)), (1, .int p0), (2, .int p1)] := hl
  unfold f_X11_readsAll at h
  refine lv_aload_n hx hb dX11_readsAll_0 rfl (lv_at hl 0 rfl) ?_
  refine lv_aload_n hx hb dX11_readsAll_1 rfl (lv_at hl 0 rfl) ?_
  refine va_get (D := (dC, dI)) (ci := 11) (C := RX11) (T := TX11) (N := 95) hx hb hts inlX11 hown hK hP 0 gB_0 rfl 50 (by decide) (hts (.fieldLink RX11 106 "ShapeReaderModel" "messagePlan" "[I") mw_27_28) (fun _ h9 => h9) rfl dX11_readsAll_2 ?_
  refine lv_iload_n hx hb dX11_readsAll_5 rfl (lv_at hl 1 rfl) ?_
  obtain ⟨hg1, h⟩ := ig h
  refine va_iald hx hb hK hP 32 31 gB_32 yB_32 (vp_in_iff.mpr hg1) dX11_readsAll_6 ?_
  refine lv_iload_n hx hb dX11_readsAll_7 rfl (lv_at hl 2 rfl) ?_
  obtain ⟨q2, hc, h⟩ := ib h
  have hF := va_frees hD hS hA
  refine va_callv (va_runV (As := [.int (σ.1 32 p0.toNatClampNeg), .int p1]) (rest := []) ⟨hx, hb, hml, hown, hts⟩ (s_X11_laysPairs hc) (cwV 2 hts (gV mw_37_1 mw_37_2 mw_37_3 mw_0_15 mw_56_11) rfl rfl rfl (by decide +kernel) ⟨(Nat.le_of_ble_eq_true rfl), (Nat.le_of_ble_eq_true rfl)⟩) (vV (ci := 11) (q0 := 0) hK hP hD hN rfl gB_0) rfl rfl hl.1 rfl (lv_room (Nat.le_of_ble_eq_true rfl)) dX11_readsAll_8 ⟨(Nat.le_of_ble_eq_true rfl), (Nat.le_of_ble_eq_true rfl)⟩) hS (fun q _ h => hF q h) hF (fun u t H locs ht hvm hw hB _ _ hS => ?_)
  replace hP : va_P (dC, dI) vwCl (wB a k q2) H := by rw [← ht]; exact hB.1
  replace hD := hD0 (q2)
  clear hB hF
  refine lv_aload_n hx hb dX11_readsAll_11 rfl (lv_at hl 0 rfl) ?_
  refine lv_iconst (v := 0) hx hb dX11_readsAll_12 (by decide) ?_
  refine va_put (D := (dC, dI)) (ci := 11) (ty := .int) (C := RX11) (T := TX11) (N := 95) hx hb hts inlX11 tyX11 tyX11_ok nmX11 hown hK hP hD hS 0 gB_0 rfl 66 (by decide) (hts (.fieldLink RX11 539 "ShapeReaderModel" "failKind" "I") mw_37_10) (fun _ h9 => h9) rfl (by decide +kernel) rfl rfl (Nat.le_of_ble_eq_true rfl) dX11_readsAll_13 (fun H locs hP hD hS => ?_)
  replace hP := uB_0_66 hP
  replace hD := hD0 ((stI q2 0 66 0))
  refine lv_aload_n hx hb dX11_readsAll_16 rfl (lv_at hl 0 rfl) ?_
  refine va_get (D := (dC, dI)) (ci := 11) (C := RX11) (T := TX11) (N := 95) hx hb hts inlX11 hown hK hP 0 gB_0 rfl 55 (by decide) (hts (.fieldLink RX11 115 "ShapeReaderModel" "pair" "[Z") mw_28_1) (fun _ h9 => h9) rfl dX11_readsAll_17 ?_
  refine lv_iconst (v := 0) hx hb dX11_readsAll_20 (by decide) ?_
  refine va_zald hx hb hK hP 35 34 gB_35 yB_35 (vp_in_iff.mpr (by decide)) dX11_readsAll_21 ?_
  refine lv_if_ne (tgt := 28) hx hb dX11_readsAll_22 (by decide) (fun hc => ?_) (fun hc => ?_)
  · replace h := iq hc h
    refine lv_aload_n hx hb dX11_readsAll_28 rfl (lv_at hl 0 rfl) ?_
    refine lv_sipush (v := 400) hx hb dX11_readsAll_29 (by decide) ?_
    refine lv_iload_n hx hb dX11_readsAll_32 rfl (lv_at hl 1 rfl) ?_
    refine lv_imul hx hb dX11_readsAll_33 ?_
    refine va_put (D := (dC, dI)) (ci := 11) (ty := .int) (C := RX11) (T := TX11) (N := 95) hx hb hts inlX11 tyX11 tyX11_ok nmX11 hown hK hP hD hS 0 gB_0 rfl 63 (by decide) (hts (.fieldLink RX11 557 "ShapeReaderModel" "from" "I") mw_37_18) (fun _ h9 => h9) rfl (by decide +kernel) rfl rfl (Nat.le_of_ble_eq_true rfl) dX11_readsAll_34 (fun H locs hP hD hS => ?_)
    replace hP := uB_0_63 hP
    replace hD := hD0 ((stI (stI q2 0 66 0) 0 63 (400 * p0)))
    refine lv_aload_n hx hb dX11_readsAll_37 rfl (lv_at hl 0 rfl) ?_
    refine lv_iconst (v := 0) hx hb dX11_readsAll_38 (by decide) ?_
    refine va_put (D := (dC, dI)) (ci := 11) (ty := .int) (C := RX11) (T := TX11) (N := 95) hx hb hts inlX11 tyX11 tyX11_ok nmX11 hown hK hP hD hS 0 gB_0 rfl 64 (by decide) (hts (.fieldLink RX11 548 "ShapeReaderModel" "pos" "I") mw_37_13) (fun _ h9 => h9) rfl (by decide +kernel) rfl rfl (Nat.le_of_ble_eq_true rfl) dX11_readsAll_39 (fun H locs hP hD hS => ?_)
    replace hP := uB_0_64 hP
    replace hD := hD0 ((stI (stI (stI q2 0 66 0) 0 63 (400 * p0)) 0 64 0))
    refine lv_aload_n hx hb dX11_readsAll_42 rfl (lv_at hl 0 rfl) ?_
    refine lv_aload_n hx hb dX11_readsAll_43 rfl (lv_at hl 0 rfl) ?_
    refine va_get (D := (dC, dI)) (ci := 11) (C := RX11) (T := TX11) (N := 95) hx hb hts inlX11 hown hK hP 0 gB_0 rfl 51 (by decide) (hts (.fieldLink RX11 109 "ShapeReaderModel" "messageMany" "[I") mw_27_29) (fun _ h9 => h9) rfl dX11_readsAll_44 ?_
    refine lv_iload_n hx hb dX11_readsAll_47 rfl (lv_at hl 1 rfl) ?_
    refine va_iald hx hb hK hP 33 32 gB_33 yB_33 (vp_in_iff.mpr hg1) dX11_readsAll_48 ?_
    refine va_put (D := (dC, dI)) (ci := 11) (ty := .int) (C := RX11) (T := TX11) (N := 95) hx hb hts inlX11 tyX11 tyX11_ok nmX11 hown hK hP hD hS 0 gB_0 rfl 65 (by decide) (hts (.fieldLink RX11 551 "ShapeReaderModel" "till" "I") mw_37_14) (fun _ h9 => h9) rfl (by decide +kernel) rfl rfl (Nat.le_of_ble_eq_true rfl) dX11_readsAll_49 (fun H locs hP hD hS => ?_)
    replace hP := uB_0_65 hP
    replace hD := hD0 ((stI (stI (stI (stI q2 0 66 0) 0 63 (400 * p0)) 0 64 0) 0 65 ((stI (stI (stI q2 0 66 0) 0 63 (400 * p0)) 0 64 0).1 33 p0.toNatClampNeg)))
    obtain ⟨z4, hs, h⟩ := ib h
    replace hs := Option.some.inj hs
    replace hP : va_P (dC, dI) vwCl (wB a k z4) H := by rw [← hs]; exact hP
    replace hD := hD0 z4
    clear hs
    refine lv_aload_n hx hb dX11_readsAll_52 rfl (lv_at hl 0 rfl) ?_
    refine lv_iconst (v := 0) hx hb dX11_readsAll_53 (by decide) ?_
    refine va_put (D := (dC, dI)) (ci := 11) (ty := .int) (C := RX11) (T := TX11) (N := 95) hx hb hts inlX11 tyX11 tyX11_ok nmX11 hown hK hP hD hS 0 gB_0 rfl 57 (by decide) (hts (.fieldLink RX11 516 "ShapeReaderModel" "steps" "I") mw_36_18) (fun _ h9 => h9) rfl (by decide +kernel) rfl rfl (Nat.le_of_ble_eq_true rfl) dX11_readsAll_54 (fun H locs hP hD hS => ?_)
    replace hP := uB_0_57 hP
    replace hD := hD0 ((stI z4 0 57 0))
    refine lv_aload_n hx hb dX11_readsAll_57 rfl (lv_at hl 0 rfl) ?_
    refine lv_iconst (v := 0) hx hb dX11_readsAll_58 (by decide) ?_
    refine va_put (D := (dC, dI)) (ci := 11) (ty := .int) (C := RX11) (T := TX11) (N := 95) hx hb hts inlX11 tyX11 tyX11_ok nmX11 hown hK hP hD hS 0 gB_0 rfl 46 (by decide) (hts (.fieldLink RX11 413 "ShapeReaderModel" "trees" "I") mw_33_28) (fun _ h9 => h9) rfl (by decide +kernel) rfl rfl (Nat.le_of_ble_eq_true rfl) dX11_readsAll_59 (fun H locs hP hD hS => ?_)
    replace hP := uB_0_46 hP
    replace hD := hD0 ((stI (stI z4 0 57 0) 0 46 0))
    refine lv_aload_n hx hb dX11_readsAll_62 rfl (lv_at hl 0 rfl) ?_
    obtain ⟨q5, hc, h⟩ := ib h
    have hF := va_frees hD hS hA
    refine va_calli (va_runV (As := []) (rest := []) ⟨hx, hb, hml, hown, hts⟩ (s_X11_rootType hc) (cwV 0 hts (gV mw_35_15 mw_35_16 mw_35_17 mw_0_15 mw_55_29) rfl rfl rfl (by decide +kernel) ⟨(Nat.le_of_ble_eq_true rfl), (Nat.le_of_ble_eq_true rfl)⟩) (vV (ci := 11) (q0 := 0) hK hP hD hN rfl gB_0) rfl rfl hl.1 rfl (lv_room (Nat.le_of_ble_eq_true rfl)) dX11_readsAll_63 ⟨(Nat.le_of_ble_eq_true rfl), (Nat.le_of_ble_eq_true rfl)⟩) hS (fun q _ h => hF q h) hF (fun r6 u t H locs ht hvm hw hB _ _ hS => ?_)
    obtain rfl : r6 = q5.1 := hw
    replace hP : va_P (dC, dI) vwCl (wB a k q5.2) H := by rw [← ht]; exact hB.1
    replace hD := hD0 (q5.2)
    clear hB hF
    refine lv_istore_n (lv' := [(3, .int q5.1), (0, .ref (a 0)), (1, .int p0), (2, .int p1)]) hx hb dX11_readsAll_66 rfl hl (by decide) rfl (fun ls hl => ?_)
    refine lv_aload_n hx hb dX11_readsAll_67 rfl (lv_at hl 1 rfl) ?_
    refine lv_iload_n hx hb dX11_readsAll_68 rfl (lv_at hl 0 rfl) ?_
    refine lv_iload_n hx hb dX11_readsAll_69 rfl (lv_at hl 0 rfl) ?_
    refine lv_iconst (v := 0) hx hb dX11_readsAll_70 (by decide) ?_
    refine lv_iconst (v := (-1)) hx hb dX11_readsAll_71 (by decide) ?_
    refine lv_iconst (v := 0) hx hb dX11_readsAll_72 (by decide) ?_
    obtain ⟨q7, hc, h⟩ := ib h
    have hF := va_frees hD hS hA
    refine va_calliD hd0 (va_runV_D (As := [.int q5.1, .int q5.1, .int 0, .int (-1), .int 0]) (rest := []) ⟨hx, hb, hml, hown, hts⟩ (s_X11_reads hc) (cwV 5 hts (gV mw_38_2 mw_38_3 mw_38_4 mw_0_15 mw_56_29) rfl rfl rfl (by decide +kernel) ⟨(Nat.le_of_ble_eq_true rfl), (Nat.le_of_ble_eq_true rfl)⟩) (vV (ci := 11) (q0 := 0) hK hP hD hN rfl gB_0) rfl rfl hl.1 rfl (lv_room (Nat.le_of_ble_eq_true rfl)) dX11_readsAll_73 ⟨(Nat.le_of_ble_eq_true rfl), (Nat.le_of_ble_eq_true rfl)⟩) hS (fun q _ h => hF q h) hF (fun r8 u t H locs ht hvm hw hB _ _ hS d0 hd0 => ?_)
    replace hts := dr_words hts0 d0
    replace hN : nN (s.setDrawn d0) := nN.same (u := s) (U := s.setDrawn d0) rfl hN0
    replace hK : va_K (dC, dI) vwCl (tB k) (s.setDrawn d0) := hK0
    obtain rfl : r8 = q7.1 := hw
    replace hP : va_P (dC, dI) vwCl (wB a k q7.2) H := by rw [← ht]; exact hB.1
    replace hD := hD0 (q7.2)
    clear hB hF
    refine lv_istore (lv' := [(4, .int q7.1), (3, .int q5.1), (0, .ref (a 0)), (1, .int p0), (2, .int p1)]) hx hb dX11_readsAll_76 hl (by decide) rfl (fun ls hl => ?_)
    refine lv_iload hx hb dX11_readsAll_78 (lv_at hl 0 rfl) ?_
    refine lv_if_eq (tgt := 106) hx hb dX11_readsAll_80 (by decide) (fun hc => ?_) (fun hc => ?_)
    · replace h := ip hc h
      exact b_X11_readsAll_106 hC h _ hd0 _ _ _ hP hD hS (lv_sub hl [0] rfl)
    · replace h := iq hc h
      refine lv_aload_n hx hb dX11_readsAll_83 rfl (lv_at hl 2 rfl) ?_
      refine va_get (D := (dC, dI)) (ci := 11) (C := RX11) (T := TX11) (N := 95) hx hb hts inlX11 hown hK hP 0 gB_0 rfl 64 (by decide) (hts (.fieldLink RX11 548 "ShapeReaderModel" "pos" "I") mw_37_13) (fun _ h9 => h9) rfl dX11_readsAll_84 ?_
      refine lv_aload_n hx hb dX11_readsAll_87 rfl (lv_at hl 2 rfl) ?_
      refine va_get (D := (dC, dI)) (ci := 11) (C := RX11) (T := TX11) (N := 95) hx hb hts inlX11 hown hK hP 0 gB_0 rfl 65 (by decide) (hts (.fieldLink RX11 551 "ShapeReaderModel" "till" "I") mw_37_14) (fun _ h9 => h9) rfl dX11_readsAll_88 ?_
      refine lv_icmp_ge (tgt := 106) hx hb dX11_readsAll_91 (by decide) (fun hc => ?_) (fun hc => ?_)
      · replace h := ip hc h
        exact b_X11_readsAll_106 hC h _ hd0 _ _ _ hP hD hS (lv_sub hl [0] rfl)
      · replace h := iq hc h
        refine lv_aload_n hx hb dX11_readsAll_94 rfl (lv_at hl 2 rfl) ?_
        refine lv_bipush (v := 14) hx hb dX11_readsAll_95 (by decide) ?_
        refine lv_aload_n hx hb dX11_readsAll_97 rfl (lv_at hl 2 rfl) ?_
        refine va_get (D := (dC, dI)) (ci := 11) (C := RX11) (T := TX11) (N := 95) hx hb hts inlX11 hown hK hP 0 gB_0 rfl 64 (by decide) (hts (.fieldLink RX11 548 "ShapeReaderModel" "pos" "I") mw_37_13) (fun _ h9 => h9) rfl dX11_readsAll_98 ?_
        obtain ⟨q9, hc, h⟩ := ib h
        have hF := va_frees hD hS hA
        refine va_calli (va_runV (As := [.int 14, .int (q7.2.1 0 64)]) (rest := []) ⟨hx, hb, hml, hown, hts⟩ (s_X11_fails hc) (cwV 2 hts (gV mw_37_15 mw_37_16 mw_37_17 mw_0_15 mw_56_22) rfl rfl rfl (by decide +kernel) ⟨(Nat.le_of_ble_eq_true rfl), (Nat.le_of_ble_eq_true rfl)⟩) (vV (ci := 11) (q0 := 0) hK hP hD hN rfl gB_0) rfl rfl hl.1 rfl (lv_room (Nat.le_of_ble_eq_true rfl)) dX11_readsAll_101 ⟨(Nat.le_of_ble_eq_true rfl), (Nat.le_of_ble_eq_true rfl)⟩) hS (fun q _ h => hF q h) hF (fun r10 u t H locs ht hvm hw hB _ _ hS => ?_)
        obtain rfl : r10 = q9.1 := hw
        replace hP : va_P (dC, dI) vwCl (wB a k q9.2) H := by rw [← ht]; exact hB.1
        replace hD := hD0 (q9.2)
        clear hB hF
        refine lv_istore (lv' := [(4, .int q9.1), (3, .int q5.1), (0, .ref (a 0)), (1, .int p0), (2, .int p1)]) hx hb dX11_readsAll_104 hl (by decide) rfl (fun ls hl => ?_)
        exact b_X11_readsAll_106 hC h _ hd0 _ _ _ hP hD hS (lv_sub hl [0] rfl)
  · replace h := ip hc h
    refine lv_bipush (v := (-2)) hx hb dX11_readsAll_25 (by decide) ?_
    refine W.endD hd0 ?_
    obtain rfl := Option.some.inj h
    exact W.iret hx hb hr (fun t ht hW => ⟨⟨_, (), rfl, rfl, ⟨by rw [ht]; exact hP, va_K.moved hW.alike hK, hD⟩⟩, hS.F ht⟩) hS.2.2 dX11_readsAll_27

theorem s_X11_readsAll {l : Launch} {dC : Nat → ClassId} {dI : Nat → Nat → Nat} {a : Nat → Nat} {k : Nat → ClassId} {sz : Nat} {p0 : Int32} {p1 : Int32} {σ : ST} {q : Int32 × ST} (h : f_X11_readsAll  p0 p1 σ = some q) : MetD csD l yX11_readsAll (.code yX11_readsAll cX11_readsAll 5 (some .int) :: pw) ({ frames := 684, cells := 0, slots := 0, locals := 19434 } : Room) (va_Pc [.ref (a 0), .int p0, .int p1] (vPre dC dI (wB a k σ) (tB k) sz)) (qBi dC dI a k (va_A (wB a k σ) sz) q) 0 0 (va_A (wB a k σ) sz) := medB (fun A => qBi dC dI a k A q) (by decide) (Nat.le_of_ble_eq_true rfl) (fun _ _ _ _ _ _ _ _ hC => b_X11_readsAll_e hC h)

def f_X11_alike_230 (k172 : Int32 → Int32 → Int32 → ST → Option (Int32 × ST)) (x5 : Int32) (x7 : Int32) (y0 : Int32) (σ : ST) : Option (Int32 × ST) := k172 x5 y0 (x7 + 1) σ
def f_X11_alike_229 (k172 : Int32 → Int32 → Int32 → ST → Option (Int32 × ST)) (x5 : Int32) (x7 : Int32) (σ : ST) : Option (Int32 × ST) := f_X11_alike_230 k172 x5 x7 0 σ
def f_X11_alike_238 (x6 : Int32) (σ : ST) : Option (Int32 × ST) := if x6 = 0 then (some (0, σ)) else (some (1, σ))
def f_X11_alike_172  : Nat → Int32 → Int32 → Int32 → ST → Option (Int32 × ST)
  | 0, _, _, _, _ => none
  | n + 1, x5, x6, x7, σ => if (4 * x5) ≤ x7 then (f_X11_alike_238  x6 σ) else (if x6 = 0 then (f_X11_alike_238  x6 σ) else (if 0 ≤ x7.toInt ∧ x7.toInt < 1600 then (if (σ.1 53 x7.toNatClampNeg) = (σ.1 51 x7.toNatClampNeg) then (if 0 ≤ (x7 / 2).toInt ∧ (x7 / 2).toInt < 800 then (if (lg_cmp (σ.2.1 54 (x7 / 2).toNatClampNeg) (σ.2.1 52 (x7 / 2).toNatClampNeg)) = 0 then (f_X11_alike_230 (f_X11_alike_172  n) x5 x7 1 σ) else (f_X11_alike_229 (f_X11_alike_172  n) x5 x7 σ)) else none) else (f_X11_alike_229 (f_X11_alike_172  n) x5 x7 σ)) else none))
def f_X11_alike_167 (x5 : Int32) (y0 : Int32) (σ : ST) : Option (Int32 × ST) := f_X11_alike_172  FU x5 y0 0 σ
def f_X11_alike_98  : Nat → Int32 → Int32 → Int32 → Int32 → ST → Option (Int32 × ST)
  | 0, _, _, _, _, _ => none
  | n + 1, x2, x3, x5, x6, σ => if (2 * x5) ≤ x6 then ((f_X11_readsAll  x2 x3 σ).bind fun q1 => if 0 ≤ q1.1 then ((f_T_X11_orders  0 (stI q1.2 0 88 0)).bind fun q3 => if (q3.1 0 88) = x5 then (f_X11_alike_167  x5 1 q3) else (f_X11_alike_167  x5 0 q3)) else (some (q1.1, q1.2))) else (if 0 ≤ x6.toInt ∧ x6.toInt < 800 then (f_X11_alike_98  n x2 x3 x5 (x6 + 1) (stL σ 54 x6.toNatClampNeg (σ.2.1 52 x6.toNatClampNeg))) else none)
def f_X11_alike_66  : Nat → Int32 → Int32 → Int32 → Int32 → ST → Option (Int32 × ST)
  | 0, _, _, _, _, _ => none
  | n + 1, x2, x3, x5, x6, σ => if (4 * x5) ≤ x6 then (f_X11_alike_98  FU x2 x3 x5 0 σ) else (if 0 ≤ x6.toInt ∧ x6.toInt < 1600 then (f_X11_alike_66  n x2 x3 x5 (x6 + 1) (stI σ 53 x6.toNatClampNeg (σ.1 51 x6.toNatClampNeg))) else none)
def f_X11_alike (p0 : Int32) (p1 : Int32) (p2 : Int32) (σ : ST) : Option (Int32 × ST) := (f_X11_isMessage  p0 (stI σ 0 0 0)).bind fun q1 => if q1.1 = 0 then (some ((-1), q1.2)) else ((f_X11_isMessage  p1 q1.2).bind fun q3 => if q3.1 = 0 then (some ((-1), q3.2)) else ((f_X11_isPlanAt  p2 q3.2).bind fun q5 => if q5.1 = 0 then (some ((-1), q5.2)) else ((f_X11_readsAll  p0 p2 q5.2).bind fun q7 => if 0 ≤ q7.1 then ((f_T_X11_orders  0 (stI q7.2 0 88 0)).bind fun q9 => f_X11_alike_66  FU p1 p2 (q9.1 0 88) 0 q9) else (some (q7.1, q7.2)))))

set_option maxRecDepth 100000 in
set_option maxHeartbeats 4000000 in
theorem b_X11_alike_230 {p : Program} {l : Launch} {e : Env} {s : State} {m : MethodId} {args : Array Value} {below : List Frame} {meth : Method} {c : Code} {dC : Nat → ClassId} {dI : Nat → Nat → Nat} {a : Nat → Nat} {k : Nat → ClassId} {A : Nat → Prop} {q : Int32 × ST} (hC : CxB p s m args meth c dC dI k A cX11_alike RX11 (some .int) 8)  {k172 : Int32 → Int32 → Int32 → ST → Option (Int32 × ST)} (hk172 : ∀ (x5 : Int32) (x6 : Int32) (x7 : Int32) (σ : ST), k172 x5 x6 x7 σ = some q → GdB p l e ({ frames := 685, cells := 0, slots := 0, locals := 19458 } : Room) s m args below meth c (MQD csD below (qBi dC dI a k A q) args s 0 0 A) dC dI a k A 8 172 σ [(0, .ref (a 0)), (5, .int x5), (6, .int x6), (7, .int x7)] []) {x5 : Int32} {x7 : Int32} {y0 : Int32} {σ : ST} (h : f_X11_alike_230 k172 x5 x7 y0 σ = some q) : GdB p l e ({ frames := 685, cells := 0, slots := 0, locals := 19458 } : Room) s m args below meth c (MQD csD below (qBi dC dI a k A q) args s 0 0 A) dC dI a k A 8 230 σ [(0, .ref (a 0)), (5, .int x5), (7, .int x7)] [.int y0] := by
  have hC0 := hC
  obtain ⟨hx, hb, hr, hml, hown, hts, hlocks, hA, hN, hK⟩ := hC0
  have hts0 := hts
  have hN0 := hN
  have hK0 := hK
  intro d0 hd0
  replace hts := dr_words hts0 d0
  replace hN : nN (s.setDrawn d0) := nN.same (u := s) (U := s.setDrawn d0) rfl hN0
  replace hK : va_K (dC, dI) vwCl (tB k) (s.setDrawn d0) := hK0
  intro H locs ls hP hD hS hl
  have hD0 : ∀ σ1 : ST, va_D A (wB a k σ1) := fun σ1 => wB_D hD
  unfold f_X11_alike_230 at h
  refine lv_istore (lv' := [(6, .int y0), (0, .ref (a 0)), (5, .int x5), (7, .int x7)]) hx hb dX11_alike_230 hl (by decide) rfl (fun ls hl => ?_)
  refine lv_iinc (v := (x7 + 1)) (lv' := [(7, .int (x7 + 1)), (6, .int y0), (0, .ref (a 0)), (5, .int x5)]) hx hb dX11_alike_232 hl (k := 3) rfl rfl (by decide) rfl (fun ls hl => ?_)
  refine lv_goto (tgt := 172) hx hb dX11_alike_235 (by decide) ?_
  exact hk172 _ _ _ _ h _ hd0 _ _ _ hP hD hS (lv_sub hl [2, 3, 1, 0] rfl)

set_option maxRecDepth 100000 in
set_option maxHeartbeats 4000000 in
theorem b_X11_alike_229 {p : Program} {l : Launch} {e : Env} {s : State} {m : MethodId} {args : Array Value} {below : List Frame} {meth : Method} {c : Code} {dC : Nat → ClassId} {dI : Nat → Nat → Nat} {a : Nat → Nat} {k : Nat → ClassId} {A : Nat → Prop} {q : Int32 × ST} (hC : CxB p s m args meth c dC dI k A cX11_alike RX11 (some .int) 8)  {k172 : Int32 → Int32 → Int32 → ST → Option (Int32 × ST)} (hk172 : ∀ (x5 : Int32) (x6 : Int32) (x7 : Int32) (σ : ST), k172 x5 x6 x7 σ = some q → GdB p l e ({ frames := 685, cells := 0, slots := 0, locals := 19458 } : Room) s m args below meth c (MQD csD below (qBi dC dI a k A q) args s 0 0 A) dC dI a k A 8 172 σ [(0, .ref (a 0)), (5, .int x5), (6, .int x6), (7, .int x7)] []) {x5 : Int32} {x7 : Int32} {σ : ST} (h : f_X11_alike_229 k172 x5 x7 σ = some q) : GdB p l e ({ frames := 685, cells := 0, slots := 0, locals := 19458 } : Room) s m args below meth c (MQD csD below (qBi dC dI a k A q) args s 0 0 A) dC dI a k A 8 229 σ [(0, .ref (a 0)), (5, .int x5), (7, .int x7)] [] := by
  have hC0 := hC
  obtain ⟨hx, hb, hr, hml, hown, hts, hlocks, hA, hN, hK⟩ := hC0
  have hts0 := hts
  have hN0 := hN
  have hK0 := hK
  intro d0 hd0
  replace hts := dr_words hts0 d0
  replace hN : nN (s.setDrawn d0) := nN.same (u := s) (U := s.setDrawn d0) rfl hN0
  replace hK : va_K (dC, dI) vwCl (tB k) (s.setDrawn d0) := hK0
  intro H locs ls hP hD hS hl
  have hD0 : ∀ σ1 : ST, va_D A (wB a k σ1) := fun σ1 => wB_D hD
  unfold f_X11_alike_229 at h
  refine lv_iconst (v := 0) hx hb dX11_alike_229 (by decide) ?_
  exact b_X11_alike_230 hC hk172 h _ hd0 _ _ _ hP hD hS (lv_sub hl [0, 1, 2] rfl)

set_option maxRecDepth 100000 in
set_option maxHeartbeats 4000000 in
theorem b_X11_alike_238 {p : Program} {l : Launch} {e : Env} {s : State} {m : MethodId} {args : Array Value} {below : List Frame} {meth : Method} {c : Code} {dC : Nat → ClassId} {dI : Nat → Nat → Nat} {a : Nat → Nat} {k : Nat → ClassId} {A : Nat → Prop} {q : Int32 × ST} (hC : CxB p s m args meth c dC dI k A cX11_alike RX11 (some .int) 8)   {x6 : Int32} {σ : ST} (h : f_X11_alike_238  x6 σ = some q) : GdB p l e ({ frames := 685, cells := 0, slots := 0, locals := 19458 } : Room) s m args below meth c (MQD csD below (qBi dC dI a k A q) args s 0 0 A) dC dI a k A 8 238 σ [(6, .int x6)] [] := by
  have hC0 := hC
  obtain ⟨hx, hb, hr, hml, hown, hts, hlocks, hA, hN, hK⟩ := hC0
  have hts0 := hts
  have hN0 := hN
  have hK0 := hK
  intro d0 hd0
  replace hts := dr_words hts0 d0
  replace hN : nN (s.setDrawn d0) := nN.same (u := s) (U := s.setDrawn d0) rfl hN0
  replace hK : va_K (dC, dI) vwCl (tB k) (s.setDrawn d0) := hK0
  intro H locs ls hP hD hS hl
  have hD0 : ∀ σ1 : ST, va_D A (wB a k σ1) := fun σ1 => wB_D hD
  unfold f_X11_alike_238 at h
  refine lv_iload hx hb dX11_alike_238 (lv_at hl 0 rfl) ?_
  refine lv_if_eq (tgt := 247) hx hb dX11_alike_240 (by decide) (fun hc => ?_) (fun hc => ?_)
  · replace h := ip hc h
    refine lv_iconst (v := 0) hx hb dX11_alike_247 (by decide) ?_
    refine W.endD hd0 ?_
    obtain rfl := Option.some.inj h
    exact W.iret hx hb hr (fun t ht hW => ⟨⟨_, (), rfl, rfl, ⟨by rw [ht]; exact hP, va_K.moved hW.alike hK, hD⟩⟩, hS.F ht⟩) hS.2.2 dX11_alike_248
  · replace h := iq hc h
    refine lv_iconst (v := 1) hx hb dX11_alike_243 (by decide) ?_
    refine lv_goto (tgt := 248) hx hb dX11_alike_244 (by decide) ?_
    refine W.endD hd0 ?_
    obtain rfl := Option.some.inj h
    exact W.iret hx hb hr (fun t ht hW => ⟨⟨_, (), rfl, rfl, ⟨by rw [ht]; exact hP, va_K.moved hW.alike hK, hD⟩⟩, hS.F ht⟩) hS.2.2 dX11_alike_248

set_option maxRecDepth 100000 in
set_option maxHeartbeats 4000000 in
theorem b_X11_alike_172 {p : Program} {l : Launch} {e : Env} {s : State} {m : MethodId} {args : Array Value} {below : List Frame} {meth : Method} {c : Code} {dC : Nat → ClassId} {dI : Nat → Nat → Nat} {a : Nat → Nat} {k : Nat → ClassId} {A : Nat → Prop} {q : Int32 × ST} (hC : CxB p s m args meth c dC dI k A cX11_alike RX11 (some .int) 8)   : ∀ (n : Nat) (x5 : Int32) (x6 : Int32) (x7 : Int32) (σ : ST), f_X11_alike_172  n x5 x6 x7 σ = some q → GdB p l e ({ frames := 685, cells := 0, slots := 0, locals := 19458 } : Room) s m args below meth c (MQD csD below (qBi dC dI a k A q) args s 0 0 A) dC dI a k A 8 172 σ [(0, .ref (a 0)), (5, .int x5), (6, .int x6), (7, .int x7)] [] := by
  intro n
  induction n with
  | zero =>
    intro x5 x6 x7 σ h
    rw [f_X11_alike_172] at h
    cases h
  | succ n ih =>
    intro x5 x6 x7 σ h
    have hC0 := hC
    obtain ⟨hx, hb, hr, hml, hown, hts, hlocks, hA, hN, hK⟩ := hC0
    have hts0 := hts
    have hN0 := hN
    have hK0 := hK
    intro d0 hd0
    replace hts := dr_words hts0 d0
    replace hN : nN (s.setDrawn d0) := nN.same (u := s) (U := s.setDrawn d0) rfl hN0
    replace hK : va_K (dC, dI) vwCl (tB k) (s.setDrawn d0) := hK0
    intro H locs ls hP hD hS hl
    have hD0 : ∀ σ1 : ST, va_D A (wB a k σ1) := fun σ1 => wB_D hD
    rw [f_X11_alike_172] at h
    refine lv_iload hx hb dX11_alike_172 (lv_at hl 3 rfl) ?_
    refine lv_iconst (v := 4) hx hb dX11_alike_174 (by decide) ?_
    refine lv_iload hx hb dX11_alike_175 (lv_at hl 1 rfl) ?_
    refine lv_imul hx hb dX11_alike_177 ?_
    refine lv_icmp_ge (tgt := 238) hx hb dX11_alike_178 (by decide) (fun hc => ?_) (fun hc => ?_)
    · replace h := ip hc h
      exact b_X11_alike_238 hC h _ hd0 _ _ _ hP hD hS (lv_sub hl [2] rfl)
    · replace h := iq hc h
      refine lv_iload hx hb dX11_alike_181 (lv_at hl 2 rfl) ?_
      refine lv_if_eq (tgt := 238) hx hb dX11_alike_183 (by decide) (fun hc => ?_) (fun hc => ?_)
      · replace h := ip hc h
        exact b_X11_alike_238 hC h _ hd0 _ _ _ hP hD hS (lv_sub hl [2] rfl)
      · replace h := iq hc h
        refine lv_aload_n hx hb dX11_alike_186 rfl (lv_at hl 0 rfl) ?_
        refine va_get (D := (dC, dI)) (ci := 11) (C := RX11) (T := TX11) (N := 95) hx hb hts inlX11 hown hK hP 0 gB_0 rfl 89 (by decide) (hts (.fieldLink RX11 169 "ShapeReaderModel" "firstNumbers" "[I") mw_28_19) (fun _ h9 => h9) rfl dX11_alike_187 ?_
        refine lv_iload hx hb dX11_alike_190 (lv_at hl 3 rfl) ?_
        obtain ⟨hg1, h⟩ := ig h
        refine va_iald hx hb hK hP 53 52 gB_53 yB_53 (vp_in_iff.mpr hg1) dX11_alike_192 ?_
        refine lv_aload_n hx hb dX11_alike_193 rfl (lv_at hl 0 rfl) ?_
        refine va_get (D := (dC, dI)) (ci := 11) (C := RX11) (T := TX11) (N := 95) hx hb hts inlX11 hown hK hP 0 gB_0 rfl 86 (by decide) (hts (.fieldLink RX11 163 "ShapeReaderModel" "alikeNumbers" "[I") mw_28_17) (fun _ h9 => h9) rfl dX11_alike_194 ?_
        refine lv_iload hx hb dX11_alike_197 (lv_at hl 3 rfl) ?_
        refine va_iald hx hb hK hP 51 50 gB_51 yB_51 (vp_in_iff.mpr hg1) dX11_alike_199 ?_
        refine lv_icmp_ne (tgt := 229) hx hb dX11_alike_200 (by decide) (fun hc => ?_) (fun hc => ?_)
        · replace h := iq hc h
          exact b_X11_alike_229 hC ih h _ hd0 _ _ _ hP hD hS (lv_sub hl [0, 1, 3] rfl)
        · replace h := ip hc h
          refine lv_aload_n hx hb dX11_alike_203 rfl (lv_at hl 0 rfl) ?_
          refine va_get (D := (dC, dI)) (ci := 11) (C := RX11) (T := TX11) (N := 95) hx hb hts inlX11 hown hK hP 0 gB_0 rfl 90 (by decide) (hts (.fieldLink RX11 172 "ShapeReaderModel" "firstLongs" "[J") mw_28_20) (fun _ h9 => h9) rfl dX11_alike_204 ?_
          refine lv_iload hx hb dX11_alike_207 (lv_at hl 3 rfl) ?_
          refine lv_iconst (v := 2) hx hb dX11_alike_209 (by decide) ?_
          refine lv_idiv hx hb dX11_alike_210 (by decide) ?_
          obtain ⟨hg2, h⟩ := ig h
          refine va_lald hx hb hK hP 54 53 gB_54 yB_54 (vp_in_iff.mpr hg2) dX11_alike_211 ?_
          refine lv_aload_n hx hb dX11_alike_212 rfl (lv_at hl 0 rfl) ?_
          refine va_get (D := (dC, dI)) (ci := 11) (C := RX11) (T := TX11) (N := 95) hx hb hts inlX11 hown hK hP 0 gB_0 rfl 87 (by decide) (hts (.fieldLink RX11 166 "ShapeReaderModel" "alikeLongs" "[J") mw_28_18) (fun _ h9 => h9) rfl dX11_alike_213 ?_
          refine lv_iload hx hb dX11_alike_216 (lv_at hl 3 rfl) ?_
          refine lv_iconst (v := 2) hx hb dX11_alike_218 (by decide) ?_
          refine lv_idiv hx hb dX11_alike_219 (by decide) ?_
          refine va_lald hx hb hK hP 52 51 gB_52 yB_52 (vp_in_iff.mpr hg2) dX11_alike_220 ?_
          refine W.lcmp hx hb dX11_alike_221 ?_
          refine lv_if_ne (tgt := 229) hx hb dX11_alike_222 (by decide) (fun hc => ?_) (fun hc => ?_)
          · replace h := iq hc h
            exact b_X11_alike_229 hC ih h _ hd0 _ _ _ hP hD hS (lv_sub hl [0, 1, 3] rfl)
          · replace h := ip hc h
            refine lv_iconst (v := 1) hx hb dX11_alike_225 (by decide) ?_
            refine lv_goto (tgt := 230) hx hb dX11_alike_226 (by decide) ?_
            exact b_X11_alike_230 hC ih h _ hd0 _ _ _ hP hD hS (lv_sub hl [0, 1, 3] rfl)

set_option maxRecDepth 100000 in
set_option maxHeartbeats 4000000 in
theorem b_X11_alike_167 {p : Program} {l : Launch} {e : Env} {s : State} {m : MethodId} {args : Array Value} {below : List Frame} {meth : Method} {c : Code} {dC : Nat → ClassId} {dI : Nat → Nat → Nat} {a : Nat → Nat} {k : Nat → ClassId} {A : Nat → Prop} {q : Int32 × ST} (hC : CxB p s m args meth c dC dI k A cX11_alike RX11 (some .int) 8)   {x5 : Int32} {y0 : Int32} {σ : ST} (h : f_X11_alike_167  x5 y0 σ = some q) : GdB p l e ({ frames := 685, cells := 0, slots := 0, locals := 19458 } : Room) s m args below meth c (MQD csD below (qBi dC dI a k A q) args s 0 0 A) dC dI a k A 8 167 σ [(0, .ref (a 0)), (5, .int x5)] [.int y0] := by
  have hC0 := hC
  obtain ⟨hx, hb, hr, hml, hown, hts, hlocks, hA, hN, hK⟩ := hC0
  have hts0 := hts
  have hN0 := hN
  have hK0 := hK
  intro d0 hd0
  replace hts := dr_words hts0 d0
  replace hN : nN (s.setDrawn d0) := nN.same (u := s) (U := s.setDrawn d0) rfl hN0
  replace hK : va_K (dC, dI) vwCl (tB k) (s.setDrawn d0) := hK0
  intro H locs ls hP hD hS hl
  have hD0 : ∀ σ1 : ST, va_D A (wB a k σ1) := fun σ1 => wB_D hD
  unfold f_X11_alike_167 at h
  refine lv_istore (lv' := [(6, .int y0), (0, .ref (a 0)), (5, .int x5)]) hx hb dX11_alike_167 hl (by decide) rfl (fun ls hl => ?_)
  refine lv_iconst (v := 0) hx hb dX11_alike_169 (by decide) ?_
  refine lv_istore (lv' := [(7, .int 0), (6, .int y0), (0, .ref (a 0)), (5, .int x5)]) hx hb dX11_alike_170 hl (by decide) rfl (fun ls hl => ?_)
  exact b_X11_alike_172 hC FU _ _ _ _ h _ hd0 _ _ _ hP hD hS (lv_sub hl [2, 3, 1, 0] rfl)

set_option maxRecDepth 100000 in
set_option maxHeartbeats 4000000 in
theorem b_X11_alike_98 {p : Program} {l : Launch} {e : Env} {s : State} {m : MethodId} {args : Array Value} {below : List Frame} {meth : Method} {c : Code} {dC : Nat → ClassId} {dI : Nat → Nat → Nat} {a : Nat → Nat} {k : Nat → ClassId} {A : Nat → Prop} {q : Int32 × ST} (hC : CxB p s m args meth c dC dI k A cX11_alike RX11 (some .int) 8)   : ∀ (n : Nat) (x2 : Int32) (x3 : Int32) (x5 : Int32) (x6 : Int32) (σ : ST), f_X11_alike_98  n x2 x3 x5 x6 σ = some q → GdB p l e ({ frames := 685, cells := 0, slots := 0, locals := 19458 } : Room) s m args below meth c (MQD csD below (qBi dC dI a k A q) args s 0 0 A) dC dI a k A 8 98 σ [(0, .ref (a 0)), (2, .int x2), (3, .int x3), (5, .int x5), (6, .int x6)] [] := by
  intro n
  induction n with
  | zero =>
    intro x2 x3 x5 x6 σ h
    rw [f_X11_alike_98] at h
    cases h
  | succ n ih =>
    intro x2 x3 x5 x6 σ h
    have hC0 := hC
    obtain ⟨hx, hb, hr, hml, hown, hts, hlocks, hA, hN, hK⟩ := hC0
    have hts0 := hts
    have hN0 := hN
    have hK0 := hK
    intro d0 hd0
    replace hts := dr_words hts0 d0
    replace hN : nN (s.setDrawn d0) := nN.same (u := s) (U := s.setDrawn d0) rfl hN0
    replace hK : va_K (dC, dI) vwCl (tB k) (s.setDrawn d0) := hK0
    intro H locs ls hP hD hS hl
    have hD0 : ∀ σ1 : ST, va_D A (wB a k σ1) := fun σ1 => wB_D hD
    rw [f_X11_alike_98] at h
    refine lv_iload hx hb dX11_alike_98 (lv_at hl 4 rfl) ?_
    refine lv_iconst (v := 2) hx hb dX11_alike_100 (by decide) ?_
    refine lv_iload hx hb dX11_alike_101 (lv_at hl 3 rfl) ?_
    refine lv_imul hx hb dX11_alike_103 ?_
    refine lv_icmp_ge (tgt := 127) hx hb dX11_alike_104 (by decide) (fun hc => ?_) (fun hc => ?_)
    · replace h := ip hc h
      refine lv_aload_n hx hb dX11_alike_127 rfl (lv_at hl 0 rfl) ?_
      refine lv_iload_n hx hb dX11_alike_128 rfl (lv_at hl 1 rfl) ?_
      refine lv_iload_n hx hb dX11_alike_129 rfl (lv_at hl 2 rfl) ?_
      obtain ⟨q1, hc, h⟩ := ib h
      have hF := va_frees hD hS hA
      refine va_calliD hd0 (va_runV_D (As := [.int x2, .int x3]) (rest := []) ⟨hx, hb, hml, hown, hts⟩ (s_X11_readsAll hc) (cwV 2 hts (gV mw_39_3 mw_39_4 mw_39_5 mw_0_15 mw_57_3) rfl rfl rfl (by decide +kernel) ⟨(Nat.le_of_ble_eq_true rfl), (Nat.le_of_ble_eq_true rfl)⟩) (vV (ci := 11) (q0 := 0) hK hP hD hN rfl gB_0) rfl rfl hl.1 rfl (lv_room (Nat.le_of_ble_eq_true rfl)) dX11_alike_130 ⟨(Nat.le_of_ble_eq_true rfl), (Nat.le_of_ble_eq_true rfl)⟩) hS (fun q _ h => hF q h) hF (fun r2 u t H locs ht hvm hw hB _ _ hS d0 hd0 => ?_)
      replace hts := dr_words hts0 d0
      replace hN : nN (s.setDrawn d0) := nN.same (u := s) (U := s.setDrawn d0) rfl hN0
      replace hK : va_K (dC, dI) vwCl (tB k) (s.setDrawn d0) := hK0
      obtain rfl : r2 = q1.1 := hw
      replace hP : va_P (dC, dI) vwCl (wB a k q1.2) H := by rw [← ht]; exact hB.1
      replace hD := hD0 (q1.2)
      clear hB hF
      refine lv_istore (lv' := [(4, .int q1.1), (0, .ref (a 0)), (2, .int x2), (3, .int x3), (5, .int x5), (6, .int x6)]) hx hb dX11_alike_133 hl (by decide) rfl (fun ls hl => ?_)
      refine lv_iload hx hb dX11_alike_135 (lv_at hl 0 rfl) ?_
      refine lv_if_ge (tgt := 143) hx hb dX11_alike_137 (by decide) (fun hc => ?_) (fun hc => ?_)
      · replace h := ip hc h
        refine lv_aload_n hx hb dX11_alike_143 rfl (lv_at hl 1 rfl) ?_
        refine lv_iconst (v := 0) hx hb dX11_alike_144 (by decide) ?_
        refine va_put (D := (dC, dI)) (ci := 11) (ty := .int) (C := RX11) (T := TX11) (N := 95) hx hb hts inlX11 tyX11 tyX11_ok nmX11 hown hK hP hD hS 0 gB_0 rfl 88 (by decide) (hts (.fieldLink RX11 629 "ShapeReaderModel" "ordered" "I") mw_39_12) (fun _ h9 => h9) rfl (by decide +kernel) rfl rfl (Nat.le_of_ble_eq_true rfl) dX11_alike_145 (fun H locs hP hD hS => ?_)
        replace hP := uB_0_88 hP
        replace hD := hD0 ((stI q1.2 0 88 0))
        refine lv_aload_n hx hb dX11_alike_148 rfl (lv_at hl 1 rfl) ?_
        refine lv_iconst (v := 0) hx hb dX11_alike_149 (by decide) ?_
        obtain ⟨q3, hc, h⟩ := ib h
        have hF := va_frees hD hS hA
        refine va_callv (va_runV (As := [.int 0]) (rest := []) ⟨hx, hb, hml, hown, hts⟩ (s_X11_orders hc) (cwV 1 hts (gV mw_39_13 mw_39_14 mw_39_15 mw_0_15 mw_57_13) rfl rfl rfl (by decide +kernel) ⟨(Nat.le_of_ble_eq_true rfl), (Nat.le_of_ble_eq_true rfl)⟩) (vV (ci := 11) (q0 := 0) hK hP hD hN rfl gB_0) rfl rfl hl.1 rfl (lv_room (Nat.le_of_ble_eq_true rfl)) dX11_alike_150 ⟨(Nat.le_of_ble_eq_true rfl), (Nat.le_of_ble_eq_true rfl)⟩) hS (fun q _ h => hF q h) hF (fun u t H locs ht hvm hw hB _ _ hS => ?_)
        replace hP : va_P (dC, dI) vwCl (wB a k q3) H := by rw [← ht]; exact hB.1
        replace hD := hD0 (q3)
        clear hB hF
        refine lv_aload_n hx hb dX11_alike_153 rfl (lv_at hl 1 rfl) ?_
        refine va_get (D := (dC, dI)) (ci := 11) (C := RX11) (T := TX11) (N := 95) hx hb hts inlX11 hown hK hP 0 gB_0 rfl 88 (by decide) (hts (.fieldLink RX11 629 "ShapeReaderModel" "ordered" "I") mw_39_12) (fun _ h9 => h9) rfl dX11_alike_154 ?_
        refine lv_iload hx hb dX11_alike_157 (lv_at hl 4 rfl) ?_
        refine lv_icmp_ne (tgt := 166) hx hb dX11_alike_159 (by decide) (fun hc => ?_) (fun hc => ?_)
        · replace h := iq hc h
          refine lv_iconst (v := 0) hx hb dX11_alike_166 (by decide) ?_
          exact b_X11_alike_167 hC h _ hd0 _ _ _ hP hD hS (lv_sub hl [1, 4] rfl)
        · replace h := ip hc h
          refine lv_iconst (v := 1) hx hb dX11_alike_162 (by decide) ?_
          refine lv_goto (tgt := 167) hx hb dX11_alike_163 (by decide) ?_
          exact b_X11_alike_167 hC h _ hd0 _ _ _ hP hD hS (lv_sub hl [1, 4] rfl)
      · replace h := iq hc h
        refine lv_iload hx hb dX11_alike_140 (lv_at hl 0 rfl) ?_
        refine W.endD hd0 ?_
        obtain rfl := Option.some.inj h
        exact W.iret hx hb hr (fun t ht hW => ⟨⟨_, (), rfl, rfl, ⟨by rw [ht]; exact hP, va_K.moved hW.alike hK, hD⟩⟩, hS.F ht⟩) hS.2.2 dX11_alike_142
    · replace h := iq hc h
      refine lv_aload_n hx hb dX11_alike_107 rfl (lv_at hl 0 rfl) ?_
      refine va_get (D := (dC, dI)) (ci := 11) (C := RX11) (T := TX11) (N := 95) hx hb hts inlX11 hown hK hP 0 gB_0 rfl 90 (by decide) (hts (.fieldLink RX11 172 "ShapeReaderModel" "firstLongs" "[J") mw_28_20) (fun _ h9 => h9) rfl dX11_alike_108 ?_
      refine lv_iload hx hb dX11_alike_111 (lv_at hl 4 rfl) ?_
      refine lv_aload_n hx hb dX11_alike_113 rfl (lv_at hl 0 rfl) ?_
      refine va_get (D := (dC, dI)) (ci := 11) (C := RX11) (T := TX11) (N := 95) hx hb hts inlX11 hown hK hP 0 gB_0 rfl 87 (by decide) (hts (.fieldLink RX11 166 "ShapeReaderModel" "alikeLongs" "[J") mw_28_18) (fun _ h9 => h9) rfl dX11_alike_114 ?_
      refine lv_iload hx hb dX11_alike_117 (lv_at hl 4 rfl) ?_
      obtain ⟨hg5, h⟩ := ig h
      refine va_lald hx hb hK hP 52 51 gB_52 yB_52 (vp_in_iff.mpr hg5) dX11_alike_119 ?_
      refine va_last hx hb hK hP hD hS 54 53 gB_54 yB_54 (vp_in_iff.mpr hg5) dX11_alike_120 (fun H locs hP hD hS => ?_)
      replace hP := uB_54 hP
      replace hD := hD0 ((stL σ 54 x6.toNatClampNeg (σ.2.1 52 x6.toNatClampNeg)))
      refine lv_iinc (v := (x6 + 1)) (lv' := [(6, .int (x6 + 1)), (0, .ref (a 0)), (2, .int x2), (3, .int x3), (5, .int x5)]) hx hb dX11_alike_121 hl (k := 4) rfl rfl (by decide) rfl (fun ls hl => ?_)
      refine lv_goto (tgt := 98) hx hb dX11_alike_124 (by decide) ?_
      exact ih _ _ _ _ _ h _ hd0 _ _ _ hP hD hS (lv_sub hl [1, 2, 3, 4, 0] rfl)

set_option maxRecDepth 100000 in
set_option maxHeartbeats 4000000 in
theorem b_X11_alike_66 {p : Program} {l : Launch} {e : Env} {s : State} {m : MethodId} {args : Array Value} {below : List Frame} {meth : Method} {c : Code} {dC : Nat → ClassId} {dI : Nat → Nat → Nat} {a : Nat → Nat} {k : Nat → ClassId} {A : Nat → Prop} {q : Int32 × ST} (hC : CxB p s m args meth c dC dI k A cX11_alike RX11 (some .int) 8)   : ∀ (n : Nat) (x2 : Int32) (x3 : Int32) (x5 : Int32) (x6 : Int32) (σ : ST), f_X11_alike_66  n x2 x3 x5 x6 σ = some q → GdB p l e ({ frames := 685, cells := 0, slots := 0, locals := 19458 } : Room) s m args below meth c (MQD csD below (qBi dC dI a k A q) args s 0 0 A) dC dI a k A 8 66 σ [(0, .ref (a 0)), (2, .int x2), (3, .int x3), (5, .int x5), (6, .int x6)] [] := by
  intro n
  induction n with
  | zero =>
    intro x2 x3 x5 x6 σ h
    rw [f_X11_alike_66] at h
    cases h
  | succ n ih =>
    intro x2 x3 x5 x6 σ h
    have hC0 := hC
    obtain ⟨hx, hb, hr, hml, hown, hts, hlocks, hA, hN, hK⟩ := hC0
    have hts0 := hts
    have hN0 := hN
    have hK0 := hK
    intro d0 hd0
    replace hts := dr_words hts0 d0
    replace hN : nN (s.setDrawn d0) := nN.same (u := s) (U := s.setDrawn d0) rfl hN0
    replace hK : va_K (dC, dI) vwCl (tB k) (s.setDrawn d0) := hK0
    intro H locs ls hP hD hS hl
    have hD0 : ∀ σ1 : ST, va_D A (wB a k σ1) := fun σ1 => wB_D hD
    rw [f_X11_alike_66] at h
    refine lv_iload hx hb dX11_alike_66 (lv_at hl 4 rfl) ?_
    refine lv_iconst (v := 4) hx hb dX11_alike_68 (by decide) ?_
    refine lv_iload hx hb dX11_alike_69 (lv_at hl 3 rfl) ?_
    refine lv_imul hx hb dX11_alike_71 ?_
    refine lv_icmp_ge (tgt := 95) hx hb dX11_alike_72 (by decide) (fun hc => ?_) (fun hc => ?_)
    · replace h := ip hc h
      refine lv_iconst (v := 0) hx hb dX11_alike_95 (by decide) ?_
      refine lv_istore (lv' := [(6, .int 0), (0, .ref (a 0)), (2, .int x2), (3, .int x3), (5, .int x5)]) hx hb dX11_alike_96 hl (by decide) rfl (fun ls hl => ?_)
      exact b_X11_alike_98 hC FU _ _ _ _ _ h _ hd0 _ _ _ hP hD hS (lv_sub hl [1, 2, 3, 4, 0] rfl)
    · replace h := iq hc h
      refine lv_aload_n hx hb dX11_alike_75 rfl (lv_at hl 0 rfl) ?_
      refine va_get (D := (dC, dI)) (ci := 11) (C := RX11) (T := TX11) (N := 95) hx hb hts inlX11 hown hK hP 0 gB_0 rfl 89 (by decide) (hts (.fieldLink RX11 169 "ShapeReaderModel" "firstNumbers" "[I") mw_28_19) (fun _ h9 => h9) rfl dX11_alike_76 ?_
      refine lv_iload hx hb dX11_alike_79 (lv_at hl 4 rfl) ?_
      refine lv_aload_n hx hb dX11_alike_81 rfl (lv_at hl 0 rfl) ?_
      refine va_get (D := (dC, dI)) (ci := 11) (C := RX11) (T := TX11) (N := 95) hx hb hts inlX11 hown hK hP 0 gB_0 rfl 86 (by decide) (hts (.fieldLink RX11 163 "ShapeReaderModel" "alikeNumbers" "[I") mw_28_17) (fun _ h9 => h9) rfl dX11_alike_82 ?_
      refine lv_iload hx hb dX11_alike_85 (lv_at hl 4 rfl) ?_
      obtain ⟨hg1, h⟩ := ig h
      refine va_iald hx hb hK hP 51 50 gB_51 yB_51 (vp_in_iff.mpr hg1) dX11_alike_87 ?_
      refine va_iast hx hb hK hP hD hS 53 52 gB_53 yB_53 (vp_in_iff.mpr hg1) dX11_alike_88 (fun H locs hP hD hS => ?_)
      replace hP := uB_53 hP
      replace hD := hD0 ((stI σ 53 x6.toNatClampNeg (σ.1 51 x6.toNatClampNeg)))
      refine lv_iinc (v := (x6 + 1)) (lv' := [(6, .int (x6 + 1)), (0, .ref (a 0)), (2, .int x2), (3, .int x3), (5, .int x5)]) hx hb dX11_alike_89 hl (k := 4) rfl rfl (by decide) rfl (fun ls hl => ?_)
      refine lv_goto (tgt := 66) hx hb dX11_alike_92 (by decide) ?_
      exact ih _ _ _ _ _ h _ hd0 _ _ _ hP hD hS (lv_sub hl [1, 2, 3, 4, 0] rfl)

set_option maxRecDepth 100000 in
set_option maxHeartbeats 4000000 in
theorem b_X11_alike_e {p : Program} {l : Launch} {e : Env} {s : State} {m : MethodId} {args : Array Value} {below : List Frame} {meth : Method} {c : Code} {dC : Nat → ClassId} {dI : Nat → Nat → Nat} {a : Nat → Nat} {k : Nat → ClassId} {A : Nat → Prop} {q : Int32 × ST} (hC : CxB p s m args meth c dC dI k A cX11_alike RX11 (some .int) 8)   {p0 : Int32} {p1 : Int32} {p2 : Int32} {σ : ST} (h : f_X11_alike  p0 p1 p2 σ = some q) : GdB p l e ({ frames := 685, cells := 0, slots := 0, locals := 19458 } : Room) s m args below meth c (MQD csD below (qBi dC dI a k A q) args s 0 0 A) dC dI a k A 8 0 σ (lv_args 0 [.ref (a 0), .int p0, .int p1, .int p2]) [] := by
  have hC0 := hC
  obtain ⟨hx, hb, hr, hml, hown, hts, hlocks, hA, hN, hK⟩ := hC0
  have hts0 := hts
  have hN0 := hN
  have hK0 := hK
  intro d0 hd0
  replace hts := dr_words hts0 d0
  replace hN : nN (s.setDrawn d0) := nN.same (u := s) (U := s.setDrawn d0) rfl hN0
  replace hK : va_K (dC, dI) vwCl (tB k) (s.setDrawn d0) := hK0
  intro H locs ls hP hD hS hl
  have hD0 : ∀ σ1 : ST, va_D A (wB a k σ1) := fun σ1 => wB_D hD
  replace hl : lv_has ls 8 [(0, .ref (a 0)), (1, .int p0), (2, .int p1), (3, .int p2)] := hl
  unfold f_X11_alike at h
  refine lv_aload_n hx hb dX11_alike_0 rfl (lv_at hl 0 rfl) ?_
  refine lv_iconst (v := 0) hx hb dX11_alike_1 (by decide) ?_
  refine va_put (D := (dC, dI)) (ci := 11) (ty := .int) (C := RX11) (T := TX11) (N := 95) hx hb hts inlX11 tyX11 tyX11_ok nmX11 hown hK hP hD hS 0 gB_0 rfl 0 (by decide) (hts (.fieldLink RX11 178 "ShapeReaderModel" "thrown" "I") mw_28_22) (fun _ h9 => h9) rfl (by decide +kernel) rfl rfl (Nat.le_of_ble_eq_true rfl) dX11_alike_2 (fun H locs hP hD hS => ?_)
  replace hP := uB_0_0 hP
  replace hD := hD0 ((stI σ 0 0 0))
  refine lv_aload_n hx hb dX11_alike_5 rfl (lv_at hl 0 rfl) ?_
  refine lv_iload_n hx hb dX11_alike_6 rfl (lv_at hl 1 rfl) ?_
  obtain ⟨q1, hc, h⟩ := ib h
  have hF := va_frees hD hS hA
  refine va_calli (va_runV (As := [.int p0]) (rest := []) ⟨hx, hb, hml, hown, hts⟩ (s_X11_isMessage hc) (cwV 1 hts (gV mw_35_24 mw_35_25 mw_35_26 mw_0_15 mw_55_26) rfl rfl rfl (by decide +kernel) ⟨(Nat.le_of_ble_eq_true rfl), (Nat.le_of_ble_eq_true rfl)⟩) (vV (ci := 11) (q0 := 0) hK hP hD hN rfl gB_0) rfl rfl hl.1 rfl (lv_room (Nat.le_of_ble_eq_true rfl)) dX11_alike_7 ⟨(Nat.le_of_ble_eq_true rfl), (Nat.le_of_ble_eq_true rfl)⟩) hS (fun q _ h => hF q h) hF (fun r2 u t H locs ht hvm hw hB _ _ hS => ?_)
  obtain rfl : r2 = q1.1 := hw
  replace hP : va_P (dC, dI) vwCl (wB a k q1.2) H := by rw [← ht]; exact hB.1
  replace hD := hD0 (q1.2)
  clear hB hF
  refine lv_if_eq (tgt := 29) hx hb dX11_alike_10 (by decide) (fun hc => ?_) (fun hc => ?_)
  · replace h := ip hc h
    refine lv_iconst (v := (-1)) hx hb dX11_alike_29 (by decide) ?_
    refine W.endD hd0 ?_
    obtain rfl := Option.some.inj h
    exact W.iret hx hb hr (fun t ht hW => ⟨⟨_, (), rfl, rfl, ⟨by rw [ht]; exact hP, va_K.moved hW.alike hK, hD⟩⟩, hS.F ht⟩) hS.2.2 dX11_alike_30
  · replace h := iq hc h
    refine lv_aload_n hx hb dX11_alike_13 rfl (lv_at hl 0 rfl) ?_
    refine lv_iload_n hx hb dX11_alike_14 rfl (lv_at hl 2 rfl) ?_
    obtain ⟨q3, hc, h⟩ := ib h
    have hF := va_frees hD hS hA
    refine va_calli (va_runV (As := [.int p1]) (rest := []) ⟨hx, hb, hml, hown, hts⟩ (s_X11_isMessage hc) (cwV 1 hts (gV mw_35_24 mw_35_25 mw_35_26 mw_0_15 mw_55_26) rfl rfl rfl (by decide +kernel) ⟨(Nat.le_of_ble_eq_true rfl), (Nat.le_of_ble_eq_true rfl)⟩) (vV (ci := 11) (q0 := 0) hK hP hD hN rfl gB_0) rfl rfl hl.1 rfl (lv_room (Nat.le_of_ble_eq_true rfl)) dX11_alike_15 ⟨(Nat.le_of_ble_eq_true rfl), (Nat.le_of_ble_eq_true rfl)⟩) hS (fun q _ h => hF q h) hF (fun r4 u t H locs ht hvm hw hB _ _ hS => ?_)
    obtain rfl : r4 = q3.1 := hw
    replace hP : va_P (dC, dI) vwCl (wB a k q3.2) H := by rw [← ht]; exact hB.1
    replace hD := hD0 (q3.2)
    clear hB hF
    refine lv_if_eq (tgt := 29) hx hb dX11_alike_18 (by decide) (fun hc => ?_) (fun hc => ?_)
    · replace h := ip hc h
      refine lv_iconst (v := (-1)) hx hb dX11_alike_29 (by decide) ?_
      refine W.endD hd0 ?_
      obtain rfl := Option.some.inj h
      exact W.iret hx hb hr (fun t ht hW => ⟨⟨_, (), rfl, rfl, ⟨by rw [ht]; exact hP, va_K.moved hW.alike hK, hD⟩⟩, hS.F ht⟩) hS.2.2 dX11_alike_30
    · replace h := iq hc h
      refine lv_aload_n hx hb dX11_alike_21 rfl (lv_at hl 0 rfl) ?_
      refine lv_iload_n hx hb dX11_alike_22 rfl (lv_at hl 3 rfl) ?_
      obtain ⟨q5, hc, h⟩ := ib h
      have hF := va_frees hD hS hA
      refine va_calli (va_runV (As := [.int p2]) (rest := []) ⟨hx, hb, hml, hown, hts⟩ (s_X11_isPlanAt hc) (cwV 1 hts (gV mw_33_22 mw_33_23 mw_33_24 mw_0_15 mw_55_9) rfl rfl rfl (by decide +kernel) ⟨(Nat.le_of_ble_eq_true rfl), (Nat.le_of_ble_eq_true rfl)⟩) (vV (ci := 11) (q0 := 0) hK hP hD hN rfl gB_0) rfl rfl hl.1 rfl (lv_room (Nat.le_of_ble_eq_true rfl)) dX11_alike_23 ⟨(Nat.le_of_ble_eq_true rfl), (Nat.le_of_ble_eq_true rfl)⟩) hS (fun q _ h => hF q h) hF (fun r6 u t H locs ht hvm hw hB _ _ hS => ?_)
      obtain rfl : r6 = q5.1 := hw
      replace hP : va_P (dC, dI) vwCl (wB a k q5.2) H := by rw [← ht]; exact hB.1
      replace hD := hD0 (q5.2)
      clear hB hF
      refine lv_if_ne (tgt := 31) hx hb dX11_alike_26 (by decide) (fun hc => ?_) (fun hc => ?_)
      · replace h := iq hc h
        refine lv_aload_n hx hb dX11_alike_31 rfl (lv_at hl 0 rfl) ?_
        refine lv_iload_n hx hb dX11_alike_32 rfl (lv_at hl 1 rfl) ?_
        refine lv_iload_n hx hb dX11_alike_33 rfl (lv_at hl 3 rfl) ?_
        obtain ⟨q7, hc, h⟩ := ib h
        have hF := va_frees hD hS hA
        refine va_calliD hd0 (va_runV_D (As := [.int p0, .int p2]) (rest := []) ⟨hx, hb, hml, hown, hts⟩ (s_X11_readsAll hc) (cwV 2 hts (gV mw_39_3 mw_39_4 mw_39_5 mw_0_15 mw_57_3) rfl rfl rfl (by decide +kernel) ⟨(Nat.le_of_ble_eq_true rfl), (Nat.le_of_ble_eq_true rfl)⟩) (vV (ci := 11) (q0 := 0) hK hP hD hN rfl gB_0) rfl rfl hl.1 rfl (lv_room (Nat.le_of_ble_eq_true rfl)) dX11_alike_34 ⟨(Nat.le_of_ble_eq_true rfl), (Nat.le_of_ble_eq_true rfl)⟩) hS (fun q _ h => hF q h) hF (fun r8 u t H locs ht hvm hw hB _ _ hS d0 hd0 => ?_)
        replace hts := dr_words hts0 d0
        replace hN : nN (s.setDrawn d0) := nN.same (u := s) (U := s.setDrawn d0) rfl hN0
        replace hK : va_K (dC, dI) vwCl (tB k) (s.setDrawn d0) := hK0
        obtain rfl : r8 = q7.1 := hw
        replace hP : va_P (dC, dI) vwCl (wB a k q7.2) H := by rw [← ht]; exact hB.1
        replace hD := hD0 (q7.2)
        clear hB hF
        refine lv_istore (lv' := [(4, .int q7.1), (0, .ref (a 0)), (1, .int p0), (2, .int p1), (3, .int p2)]) hx hb dX11_alike_37 hl (by decide) rfl (fun ls hl => ?_)
        refine lv_iload hx hb dX11_alike_39 (lv_at hl 0 rfl) ?_
        refine lv_if_ge (tgt := 47) hx hb dX11_alike_41 (by decide) (fun hc => ?_) (fun hc => ?_)
        · replace h := ip hc h
          refine lv_aload_n hx hb dX11_alike_47 rfl (lv_at hl 1 rfl) ?_
          refine lv_iconst (v := 0) hx hb dX11_alike_48 (by decide) ?_
          refine va_put (D := (dC, dI)) (ci := 11) (ty := .int) (C := RX11) (T := TX11) (N := 95) hx hb hts inlX11 tyX11 tyX11_ok nmX11 hown hK hP hD hS 0 gB_0 rfl 88 (by decide) (hts (.fieldLink RX11 629 "ShapeReaderModel" "ordered" "I") mw_39_12) (fun _ h9 => h9) rfl (by decide +kernel) rfl rfl (Nat.le_of_ble_eq_true rfl) dX11_alike_49 (fun H locs hP hD hS => ?_)
          replace hP := uB_0_88 hP
          replace hD := hD0 ((stI q7.2 0 88 0))
          refine lv_aload_n hx hb dX11_alike_52 rfl (lv_at hl 1 rfl) ?_
          refine lv_iconst (v := 0) hx hb dX11_alike_53 (by decide) ?_
          obtain ⟨q9, hc, h⟩ := ib h
          have hF := va_frees hD hS hA
          refine va_callv (va_runV (As := [.int 0]) (rest := []) ⟨hx, hb, hml, hown, hts⟩ (s_X11_orders hc) (cwV 1 hts (gV mw_39_13 mw_39_14 mw_39_15 mw_0_15 mw_57_13) rfl rfl rfl (by decide +kernel) ⟨(Nat.le_of_ble_eq_true rfl), (Nat.le_of_ble_eq_true rfl)⟩) (vV (ci := 11) (q0 := 0) hK hP hD hN rfl gB_0) rfl rfl hl.1 rfl (lv_room (Nat.le_of_ble_eq_true rfl)) dX11_alike_54 ⟨(Nat.le_of_ble_eq_true rfl), (Nat.le_of_ble_eq_true rfl)⟩) hS (fun q _ h => hF q h) hF (fun u t H locs ht hvm hw hB _ _ hS => ?_)
          replace hP : va_P (dC, dI) vwCl (wB a k q9) H := by rw [← ht]; exact hB.1
          replace hD := hD0 (q9)
          clear hB hF
          refine lv_aload_n hx hb dX11_alike_57 rfl (lv_at hl 1 rfl) ?_
          refine va_get (D := (dC, dI)) (ci := 11) (C := RX11) (T := TX11) (N := 95) hx hb hts inlX11 hown hK hP 0 gB_0 rfl 88 (by decide) (hts (.fieldLink RX11 629 "ShapeReaderModel" "ordered" "I") mw_39_12) (fun _ h9 => h9) rfl dX11_alike_58 ?_
          refine lv_istore (lv' := [(5, .int (q9.1 0 88)), (4, .int q7.1), (0, .ref (a 0)), (1, .int p0), (2, .int p1), (3, .int p2)]) hx hb dX11_alike_61 hl (by decide) rfl (fun ls hl => ?_)
          refine lv_iconst (v := 0) hx hb dX11_alike_63 (by decide) ?_
          refine lv_istore (lv' := [(6, .int 0), (5, .int (q9.1 0 88)), (4, .int q7.1), (0, .ref (a 0)), (1, .int p0), (2, .int p1), (3, .int p2)]) hx hb dX11_alike_64 hl (by decide) rfl (fun ls hl => ?_)
          exact b_X11_alike_66 hC FU _ _ _ _ _ h _ hd0 _ _ _ hP hD hS (lv_sub hl [3, 5, 6, 1, 0] rfl)
        · replace h := iq hc h
          refine lv_iload hx hb dX11_alike_44 (lv_at hl 0 rfl) ?_
          refine W.endD hd0 ?_
          obtain rfl := Option.some.inj h
          exact W.iret hx hb hr (fun t ht hW => ⟨⟨_, (), rfl, rfl, ⟨by rw [ht]; exact hP, va_K.moved hW.alike hK, hD⟩⟩, hS.F ht⟩) hS.2.2 dX11_alike_46
      · replace h := ip hc h
        refine lv_iconst (v := (-1)) hx hb dX11_alike_29 (by decide) ?_
        refine W.endD hd0 ?_
        obtain rfl := Option.some.inj h
        exact W.iret hx hb hr (fun t ht hW => ⟨⟨_, (), rfl, rfl, ⟨by rw [ht]; exact hP, va_K.moved hW.alike hK, hD⟩⟩, hS.F ht⟩) hS.2.2 dX11_alike_30

theorem s_X11_alike {l : Launch} {dC : Nat → ClassId} {dI : Nat → Nat → Nat} {a : Nat → Nat} {k : Nat → ClassId} {sz : Nat} {p0 : Int32} {p1 : Int32} {p2 : Int32} {σ : ST} {q : Int32 × ST} (h : f_X11_alike  p0 p1 p2 σ = some q) : MetD csD l yX11_alike (.code yX11_alike cX11_alike 8 (some .int) :: pw) ({ frames := 685, cells := 0, slots := 0, locals := 19458 } : Room) (va_Pc [.ref (a 0), .int p0, .int p1, .int p2] (vPre dC dI (wB a k σ) (tB k) sz)) (qBi dC dI a k (va_A (wB a k σ) sz) q) 0 0 (va_A (wB a k σ) sz) := medB (fun A => qBi dC dI a k A q) (by decide) (Nat.le_of_ble_eq_true rfl) (fun _ _ _ _ _ _ _ _ hC => b_X11_alike_e hC h)

def f_X11_readsFor_54  : Nat → Int32 → Int32 → ST → Option (Int32 × ST)
  | 0, _, _, _ => none
  | n + 1, x3, x4, σ => if (σ.1 0 68) ≤ x4 then (if x3 = 0 then ((f_T_X11_tells  0 (-1) σ).bind fun q1 => some (x3, q1)) else (some (x3, σ))) else (if 0 ≤ x4.toInt ∧ x4.toInt < 256 then (f_X11_readsFor_54  n x3 (x4 + 1) (stI σ 49 x4.toNatClampNeg (σ.1 41 x4.toNatClampNeg))) else none)
def f_X11_readsFor (p0 : Int32) (p1 : Int32) (σ : ST) : Option (Int32 × ST) := if 0 ≤ p0.toInt ∧ p0.toInt < 4 then ((f_X11_uses  ((10 * (σ.1 32 p0.toNatClampNeg)) + p1) σ).bind fun q2 => (f_X11_readsAll  p0 p1 q2).bind fun q4 => (some (stI (stI (stI q4.2 0 73 0) 0 81 ((stI q4.2 0 73 0).1 0 66)) 0 82 ((stI (stI q4.2 0 73 0) 0 81 ((stI q4.2 0 73 0).1 0 66)).1 0 67))).bind fun z6 => f_X11_readsFor_54  FU q4.1 0 (stI z6 0 83 (z6.1 0 68))) else none

set_option maxRecDepth 100000 in
set_option maxHeartbeats 4000000 in
theorem b_X11_readsFor_54 {p : Program} {l : Launch} {e : Env} {s : State} {m : MethodId} {args : Array Value} {below : List Frame} {meth : Method} {c : Code} {dC : Nat → ClassId} {dI : Nat → Nat → Nat} {a : Nat → Nat} {k : Nat → ClassId} {A : Nat → Prop} {q : Int32 × ST} (hC : CxB p s m args meth c dC dI k A cX11_readsFor RX11 (some .int) 5)   : ∀ (n : Nat) (x3 : Int32) (x4 : Int32) (σ : ST), f_X11_readsFor_54  n x3 x4 σ = some q → GdB p l e ({ frames := 685, cells := 0, slots := 0, locals := 19458 } : Room) s m args below meth c (MQD csD below (qBi dC dI a k A q) args s 0 0 A) dC dI a k A 5 54 σ [(0, .ref (a 0)), (3, .int x3), (4, .int x4)] [] := by
  intro n
  induction n with
  | zero =>
    intro x3 x4 σ h
    rw [f_X11_readsFor_54] at h
    cases h
  | succ n ih =>
    intro x3 x4 σ h
    have hC0 := hC
    obtain ⟨hx, hb, hr, hml, hown, hts, hlocks, hA, hN, hK⟩ := hC0
    have hts0 := hts
    have hN0 := hN
    have hK0 := hK
    intro d0 hd0
    replace hts := dr_words hts0 d0
    replace hN : nN (s.setDrawn d0) := nN.same (u := s) (U := s.setDrawn d0) rfl hN0
    replace hK : va_K (dC, dI) vwCl (tB k) (s.setDrawn d0) := hK0
    intro H locs ls hP hD hS hl
    have hD0 : ∀ σ1 : ST, va_D A (wB a k σ1) := fun σ1 => wB_D hD
    rw [f_X11_readsFor_54] at h
    refine lv_iload hx hb dX11_readsFor_54 (lv_at hl 2 rfl) ?_
    refine lv_aload_n hx hb dX11_readsFor_56 rfl (lv_at hl 0 rfl) ?_
    refine va_get (D := (dC, dI)) (ci := 11) (C := RX11) (T := TX11) (N := 95) hx hb hts inlX11 hown hK hP 0 gB_0 rfl 68 (by decide) (hts (.fieldLink RX11 545 "ShapeReaderModel" "failSteps" "I") mw_37_12) (fun _ h9 => h9) rfl dX11_readsFor_57 ?_
    refine lv_icmp_ge (tgt := 83) hx hb dX11_readsFor_60 (by decide) (fun hc => ?_) (fun hc => ?_)
    · replace h := ip hc h
      refine lv_iload_n hx hb dX11_readsFor_83 rfl (lv_at hl 1 rfl) ?_
      refine lv_if_ne (tgt := 93) hx hb dX11_readsFor_84 (by decide) (fun hc => ?_) (fun hc => ?_)
      · replace h := iq hc h
        refine lv_iload_n hx hb dX11_readsFor_93 rfl (lv_at hl 1 rfl) ?_
        refine W.endD hd0 ?_
        obtain rfl := Option.some.inj h
        exact W.iret hx hb hr (fun t ht hW => ⟨⟨_, (), rfl, rfl, ⟨by rw [ht]; exact hP, va_K.moved hW.alike hK, hD⟩⟩, hS.F ht⟩) hS.2.2 dX11_readsFor_94
      · replace h := ip hc h
        refine lv_aload_n hx hb dX11_readsFor_87 rfl (lv_at hl 0 rfl) ?_
        refine lv_iconst (v := 0) hx hb dX11_readsFor_88 (by decide) ?_
        refine lv_iconst (v := (-1)) hx hb dX11_readsFor_89 (by decide) ?_
        obtain ⟨q1, hc, h⟩ := ib h
        have hF := va_frees hD hS hA
        refine va_callv (va_runV (As := [.int 0, .int (-1)]) (rest := []) ⟨hx, hb, hml, hown, hts⟩ (s_X11_tells hc) (cwV 2 hts (gV mw_38_27 mw_38_28 mw_38_29 mw_0_15 mw_57_4) rfl rfl rfl (by decide +kernel) ⟨(Nat.le_of_ble_eq_true rfl), (Nat.le_of_ble_eq_true rfl)⟩) (vV (ci := 11) (q0 := 0) hK hP hD hN rfl gB_0) rfl rfl hl.1 rfl (lv_room (Nat.le_of_ble_eq_true rfl)) dX11_readsFor_90 ⟨(Nat.le_of_ble_eq_true rfl), (Nat.le_of_ble_eq_true rfl)⟩) hS (fun q _ h => hF q h) hF (fun u t H locs ht hvm hw hB _ _ hS => ?_)
        replace hP : va_P (dC, dI) vwCl (wB a k q1) H := by rw [← ht]; exact hB.1
        replace hD := hD0 (q1)
        clear hB hF
        refine lv_iload_n hx hb dX11_readsFor_93 rfl (lv_at hl 1 rfl) ?_
        refine W.endD hd0 ?_
        obtain rfl := Option.some.inj h
        exact W.iret hx hb hr (fun t ht hW => ⟨⟨_, (), rfl, rfl, ⟨by rw [ht]; exact hP, va_K.moved hW.alike hK, hD⟩⟩, hS.F ht⟩) hS.2.2 dX11_readsFor_94
    · replace h := iq hc h
      refine lv_aload_n hx hb dX11_readsFor_63 rfl (lv_at hl 0 rfl) ?_
      refine va_get (D := (dC, dI)) (ci := 11) (C := RX11) (T := TX11) (N := 95) hx hb hts inlX11 hown hK hP 0 gB_0 rfl 84 (by decide) (hts (.fieldLink RX11 157 "ShapeReaderModel" "failurePath" "[I") mw_28_15) (fun _ h9 => h9) rfl dX11_readsFor_64 ?_
      refine lv_iload hx hb dX11_readsFor_67 (lv_at hl 2 rfl) ?_
      refine lv_aload_n hx hb dX11_readsFor_69 rfl (lv_at hl 0 rfl) ?_
      refine va_get (D := (dC, dI)) (ci := 11) (C := RX11) (T := TX11) (N := 95) hx hb hts inlX11 hown hK hP 0 gB_0 rfl 69 (by decide) (hts (.fieldLink RX11 133 "ShapeReaderModel" "failPath" "[I") mw_28_7) (fun _ h9 => h9) rfl dX11_readsFor_70 ?_
      refine lv_iload hx hb dX11_readsFor_73 (lv_at hl 2 rfl) ?_
      obtain ⟨hg3, h⟩ := ig h
      refine va_iald hx hb hK hP 41 40 gB_41 yB_41 (vp_in_iff.mpr hg3) dX11_readsFor_75 ?_
      refine va_iast hx hb hK hP hD hS 49 48 gB_49 yB_49 (vp_in_iff.mpr hg3) dX11_readsFor_76 (fun H locs hP hD hS => ?_)
      replace hP := uB_49 hP
      replace hD := hD0 ((stI σ 49 x4.toNatClampNeg (σ.1 41 x4.toNatClampNeg)))
      refine lv_iinc (v := (x4 + 1)) (lv' := [(4, .int (x4 + 1)), (0, .ref (a 0)), (3, .int x3)]) hx hb dX11_readsFor_77 hl (k := 2) rfl rfl (by decide) rfl (fun ls hl => ?_)
      refine lv_goto (tgt := 54) hx hb dX11_readsFor_80 (by decide) ?_
      exact ih _ _ _ h _ hd0 _ _ _ hP hD hS (lv_sub hl [1, 2, 0] rfl)

set_option maxRecDepth 100000 in
set_option maxHeartbeats 4000000 in
theorem b_X11_readsFor_e {p : Program} {l : Launch} {e : Env} {s : State} {m : MethodId} {args : Array Value} {below : List Frame} {meth : Method} {c : Code} {dC : Nat → ClassId} {dI : Nat → Nat → Nat} {a : Nat → Nat} {k : Nat → ClassId} {A : Nat → Prop} {q : Int32 × ST} (hC : CxB p s m args meth c dC dI k A cX11_readsFor RX11 (some .int) 5)   {p0 : Int32} {p1 : Int32} {σ : ST} (h : f_X11_readsFor  p0 p1 σ = some q) : GdB p l e ({ frames := 685, cells := 0, slots := 0, locals := 19458 } : Room) s m args below meth c (MQD csD below (qBi dC dI a k A q) args s 0 0 A) dC dI a k A 5 0 σ (lv_args 0 [.ref (a 0), .int p0, .int p1]) [] := by
  have hC0 := hC
  obtain ⟨hx, hb, hr, hml, hown, hts, hlocks, hA, hN, hK⟩ := hC0
  have hts0 := hts
  have hN0 := hN
  have hK0 := hK
  intro d0 hd0
  replace hts := dr_words hts0 d0
  replace hN : nN (s.setDrawn d0) := nN.same (u := s) (U := s.setDrawn d0) rfl hN0
  replace hK : va_K (dC, dI) vwCl (tB k) (s.setDrawn d0) := hK0
  intro H locs ls hP hD hS hl
  have hD0 : ∀ σ1 : ST, va_D A (wB a k σ1) := fun σ1 => wB_D hD
  replace hl : lv_has ls 5 [(0, .ref (a 0)), (1, .int p0), (2, .int p1)] := hl
  unfold f_X11_readsFor at h
  refine lv_aload_n hx hb dX11_readsFor_0 rfl (lv_at hl 0 rfl) ?_
  refine lv_bipush (v := 10) hx hb dX11_readsFor_1 (by decide) ?_
  refine lv_aload_n hx hb dX11_readsFor_3 rfl (lv_at hl 0 rfl) ?_
  refine va_get (D := (dC, dI)) (ci := 11) (C := RX11) (T := TX11) (N := 95) hx hb hts inlX11 hown hK hP 0 gB_0 rfl 50 (by decide) (hts (.fieldLink RX11 106 "ShapeReaderModel" "messagePlan" "[I") mw_27_28) (fun _ h9 => h9) rfl dX11_readsFor_4 ?_
  refine lv_iload_n hx hb dX11_readsFor_7 rfl (lv_at hl 1 rfl) ?_
  obtain ⟨hg1, h⟩ := ig h
  refine va_iald hx hb hK hP 32 31 gB_32 yB_32 (vp_in_iff.mpr hg1) dX11_readsFor_8 ?_
  refine lv_imul hx hb dX11_readsFor_9 ?_
  refine lv_iload_n hx hb dX11_readsFor_10 rfl (lv_at hl 2 rfl) ?_
  refine lv_iadd hx hb dX11_readsFor_11 ?_
  obtain ⟨q2, hc, h⟩ := ib h
  have hF := va_frees hD hS hA
  refine va_callv (va_runV (As := [.int ((10 * (σ.1 32 p0.toNatClampNeg)) + p1)]) (rest := []) ⟨hx, hb, hml, hown, hts⟩ (s_X11_uses hc) (cwV 1 hts (gV mw_39_0 mw_39_1 mw_39_2 mw_0_15 mw_57_15) rfl rfl rfl (by decide +kernel) ⟨(Nat.le_of_ble_eq_true rfl), (Nat.le_of_ble_eq_true rfl)⟩) (vV (ci := 11) (q0 := 0) hK hP hD hN rfl gB_0) rfl rfl hl.1 rfl (lv_room (Nat.le_of_ble_eq_true rfl)) dX11_readsFor_12 ⟨(Nat.le_of_ble_eq_true rfl), (Nat.le_of_ble_eq_true rfl)⟩) hS (fun q _ h => hF q h) hF (fun u t H locs ht hvm hw hB _ _ hS => ?_)
  replace hP : va_P (dC, dI) vwCl (wB a k q2) H := by rw [← ht]; exact hB.1
  replace hD := hD0 (q2)
  clear hB hF
  refine lv_aload_n hx hb dX11_readsFor_15 rfl (lv_at hl 0 rfl) ?_
  refine lv_iload_n hx hb dX11_readsFor_16 rfl (lv_at hl 1 rfl) ?_
  refine lv_iload_n hx hb dX11_readsFor_17 rfl (lv_at hl 2 rfl) ?_
  obtain ⟨q4, hc, h⟩ := ib h
  have hF := va_frees hD hS hA
  refine va_calliD hd0 (va_runV_D (As := [.int p0, .int p1]) (rest := []) ⟨hx, hb, hml, hown, hts⟩ (s_X11_readsAll hc) (cwV 2 hts (gV mw_39_3 mw_39_4 mw_39_5 mw_0_15 mw_57_3) rfl rfl rfl (by decide +kernel) ⟨(Nat.le_of_ble_eq_true rfl), (Nat.le_of_ble_eq_true rfl)⟩) (vV (ci := 11) (q0 := 0) hK hP hD hN rfl gB_0) rfl rfl hl.1 rfl (lv_room (Nat.le_of_ble_eq_true rfl)) dX11_readsFor_18 ⟨(Nat.le_of_ble_eq_true rfl), (Nat.le_of_ble_eq_true rfl)⟩) hS (fun q _ h => hF q h) hF (fun r5 u t H locs ht hvm hw hB _ _ hS d0 hd0 => ?_)
  replace hts := dr_words hts0 d0
  replace hN : nN (s.setDrawn d0) := nN.same (u := s) (U := s.setDrawn d0) rfl hN0
  replace hK : va_K (dC, dI) vwCl (tB k) (s.setDrawn d0) := hK0
  obtain rfl : r5 = q4.1 := hw
  replace hP : va_P (dC, dI) vwCl (wB a k q4.2) H := by rw [← ht]; exact hB.1
  replace hD := hD0 (q4.2)
  clear hB hF
  refine lv_istore_n (lv' := [(3, .int q4.1), (0, .ref (a 0)), (1, .int p0), (2, .int p1)]) hx hb dX11_readsFor_21 rfl hl (by decide) rfl (fun ls hl => ?_)
  refine lv_aload_n hx hb dX11_readsFor_22 rfl (lv_at hl 1 rfl) ?_
  refine lv_iconst (v := 0) hx hb dX11_readsFor_23 (by decide) ?_
  refine va_put (D := (dC, dI)) (ci := 11) (ty := .int) (C := RX11) (T := TX11) (N := 95) hx hb hts inlX11 tyX11 tyX11_ok nmX11 hown hK hP hD hS 0 gB_0 rfl 73 (by decide) (hts (.fieldLink RX11 392 "ShapeReaderModel" "nodeMany" "I") mw_33_17) (fun _ h9 => h9) rfl (by decide +kernel) rfl rfl (Nat.le_of_ble_eq_true rfl) dX11_readsFor_24 (fun H locs hP hD hS => ?_)
  replace hP := uB_0_73 hP
  replace hD := hD0 ((stI q4.2 0 73 0))
  refine lv_aload_n hx hb dX11_readsFor_27 rfl (lv_at hl 1 rfl) ?_
  refine lv_aload_n hx hb dX11_readsFor_28 rfl (lv_at hl 1 rfl) ?_
  refine va_get (D := (dC, dI)) (ci := 11) (C := RX11) (T := TX11) (N := 95) hx hb hts inlX11 hown hK hP 0 gB_0 rfl 66 (by decide) (hts (.fieldLink RX11 539 "ShapeReaderModel" "failKind" "I") mw_37_10) (fun _ h9 => h9) rfl dX11_readsFor_29 ?_
  refine va_put (D := (dC, dI)) (ci := 11) (ty := .int) (C := RX11) (T := TX11) (N := 95) hx hb hts inlX11 tyX11 tyX11_ok nmX11 hown hK hP hD hS 0 gB_0 rfl 81 (by decide) (hts (.fieldLink RX11 395 "ShapeReaderModel" "failureKind" "I") mw_33_18) (fun _ h9 => h9) rfl (by decide +kernel) rfl rfl (Nat.le_of_ble_eq_true rfl) dX11_readsFor_32 (fun H locs hP hD hS => ?_)
  replace hP := uB_0_81 hP
  replace hD := hD0 ((stI (stI q4.2 0 73 0) 0 81 ((stI q4.2 0 73 0).1 0 66)))
  refine lv_aload_n hx hb dX11_readsFor_35 rfl (lv_at hl 1 rfl) ?_
  refine lv_aload_n hx hb dX11_readsFor_36 rfl (lv_at hl 1 rfl) ?_
  refine va_get (D := (dC, dI)) (ci := 11) (C := RX11) (T := TX11) (N := 95) hx hb hts inlX11 hown hK hP 0 gB_0 rfl 67 (by decide) (hts (.fieldLink RX11 542 "ShapeReaderModel" "failByte" "I") mw_37_11) (fun _ h9 => h9) rfl dX11_readsFor_37 ?_
  refine va_put (D := (dC, dI)) (ci := 11) (ty := .int) (C := RX11) (T := TX11) (N := 95) hx hb hts inlX11 tyX11 tyX11_ok nmX11 hown hK hP hD hS 0 gB_0 rfl 82 (by decide) (hts (.fieldLink RX11 618 "ShapeReaderModel" "failureByte" "I") mw_39_6) (fun _ h9 => h9) rfl (by decide +kernel) rfl rfl (Nat.le_of_ble_eq_true rfl) dX11_readsFor_40 (fun H locs hP hD hS => ?_)
  replace hP := uB_0_82 hP
  replace hD := hD0 ((stI (stI (stI q4.2 0 73 0) 0 81 ((stI q4.2 0 73 0).1 0 66)) 0 82 ((stI (stI q4.2 0 73 0) 0 81 ((stI q4.2 0 73 0).1 0 66)).1 0 67)))
  obtain ⟨z6, hs, h⟩ := ib h
  replace hs := Option.some.inj hs
  replace hP : va_P (dC, dI) vwCl (wB a k z6) H := by rw [← hs]; exact hP
  replace hD := hD0 z6
  clear hs
  refine lv_aload_n hx hb dX11_readsFor_43 rfl (lv_at hl 1 rfl) ?_
  refine lv_aload_n hx hb dX11_readsFor_44 rfl (lv_at hl 1 rfl) ?_
  refine va_get (D := (dC, dI)) (ci := 11) (C := RX11) (T := TX11) (N := 95) hx hb hts inlX11 hown hK hP 0 gB_0 rfl 68 (by decide) (hts (.fieldLink RX11 545 "ShapeReaderModel" "failSteps" "I") mw_37_12) (fun _ h9 => h9) rfl dX11_readsFor_45 ?_
  refine va_put (D := (dC, dI)) (ci := 11) (ty := .int) (C := RX11) (T := TX11) (N := 95) hx hb hts inlX11 tyX11 tyX11_ok nmX11 hown hK hP hD hS 0 gB_0 rfl 83 (by decide) (hts (.fieldLink RX11 621 "ShapeReaderModel" "failureSteps" "I") mw_39_7) (fun _ h9 => h9) rfl (by decide +kernel) rfl rfl (Nat.le_of_ble_eq_true rfl) dX11_readsFor_48 (fun H locs hP hD hS => ?_)
  replace hP := uB_0_83 hP
  replace hD := hD0 ((stI z6 0 83 (z6.1 0 68)))
  refine lv_iconst (v := 0) hx hb dX11_readsFor_51 (by decide) ?_
  refine lv_istore (lv' := [(4, .int 0), (3, .int q4.1), (0, .ref (a 0)), (1, .int p0), (2, .int p1)]) hx hb dX11_readsFor_52 hl (by decide) rfl (fun ls hl => ?_)
  exact b_X11_readsFor_54 hC FU _ _ _ h _ hd0 _ _ _ hP hD hS (lv_sub hl [2, 1, 0] rfl)

theorem s_X11_readsFor {l : Launch} {dC : Nat → ClassId} {dI : Nat → Nat → Nat} {a : Nat → Nat} {k : Nat → ClassId} {sz : Nat} {p0 : Int32} {p1 : Int32} {σ : ST} {q : Int32 × ST} (h : f_X11_readsFor  p0 p1 σ = some q) : MetD csD l yX11_readsFor (.code yX11_readsFor cX11_readsFor 5 (some .int) :: pw) ({ frames := 685, cells := 0, slots := 0, locals := 19458 } : Room) (va_Pc [.ref (a 0), .int p0, .int p1] (vPre dC dI (wB a k σ) (tB k) sz)) (qBi dC dI a k (va_A (wB a k σ) sz) q) 0 0 (va_A (wB a k σ) sz) := medB (fun A => qBi dC dI a k A q) (by decide) (Nat.le_of_ble_eq_true rfl) (fun _ _ _ _ _ _ _ _ hC => b_X11_readsFor_e hC h)

def f_X11_convert (p0 : Int32) (p1 : Int32) (p2 : Int32) (σ : ST) : Option (Int32 × ST) := (f_X11_isMessage  p0 (stI σ 0 0 0)).bind fun q1 => if q1.1 = 0 then (some ((-1), q1.2)) else ((f_X11_isPlanAt  p1 q1.2).bind fun q3 => if q3.1 = 0 then (some ((-1), q3.2)) else ((f_X11_within  (p2.toInt64) 0 3 q3.2).bind fun q5 => if q5.1 = 0 then (some ((-1), q5.2)) else ((f_X11_readsFor  p0 p1 q5.2).bind fun q7 => if 0 ≤ q7.1 then ((f_X11_writesTree  0 q7.2).bind fun q9 => if (q9.1 0 49) = 0 then ((f_X11_becomes  p2 p1 q9).bind fun q11 => some ((q11.1 0 48), q11)) else (some ((-4), q9))) else (some (q7.1, q7.2)))))

set_option maxRecDepth 100000 in
set_option maxHeartbeats 4000000 in
theorem b_X11_convert_e {p : Program} {l : Launch} {e : Env} {s : State} {m : MethodId} {args : Array Value} {below : List Frame} {meth : Method} {c : Code} {dC : Nat → ClassId} {dI : Nat → Nat → Nat} {a : Nat → Nat} {k : Nat → ClassId} {A : Nat → Prop} {q : Int32 × ST} (hC : CxB p s m args meth c dC dI k A cX11_convert RX11 (some .int) 5)   {p0 : Int32} {p1 : Int32} {p2 : Int32} {σ : ST} (h : f_X11_convert  p0 p1 p2 σ = some q) : GdB p l e ({ frames := 686, cells := 0, slots := 0, locals := 19482 } : Room) s m args below meth c (MQD csD below (qBi dC dI a k A q) args s 0 0 A) dC dI a k A 5 0 σ (lv_args 0 [.ref (a 0), .int p0, .int p1, .int p2]) [] := by
  have hC0 := hC
  obtain ⟨hx, hb, hr, hml, hown, hts, hlocks, hA, hN, hK⟩ := hC0
  have hts0 := hts
  have hN0 := hN
  have hK0 := hK
  intro d0 hd0
  replace hts := dr_words hts0 d0
  replace hN : nN (s.setDrawn d0) := nN.same (u := s) (U := s.setDrawn d0) rfl hN0
  replace hK : va_K (dC, dI) vwCl (tB k) (s.setDrawn d0) := hK0
  intro H locs ls hP hD hS hl
  have hD0 : ∀ σ1 : ST, va_D A (wB a k σ1) := fun σ1 => wB_D hD
  replace hl : lv_has ls 5 [(0, .ref (a 0)), (1, .int p0), (2, .int p1), (3, .int p2)] := hl
  unfold f_X11_convert at h
  refine lv_aload_n hx hb dX11_convert_0 rfl (lv_at hl 0 rfl) ?_
  refine lv_iconst (v := 0) hx hb dX11_convert_1 (by decide) ?_
  refine va_put (D := (dC, dI)) (ci := 11) (ty := .int) (C := RX11) (T := TX11) (N := 95) hx hb hts inlX11 tyX11 tyX11_ok nmX11 hown hK hP hD hS 0 gB_0 rfl 0 (by decide) (hts (.fieldLink RX11 178 "ShapeReaderModel" "thrown" "I") mw_28_22) (fun _ h9 => h9) rfl (by decide +kernel) rfl rfl (Nat.le_of_ble_eq_true rfl) dX11_convert_2 (fun H locs hP hD hS => ?_)
  replace hP := uB_0_0 hP
  replace hD := hD0 ((stI σ 0 0 0))
  refine lv_aload_n hx hb dX11_convert_5 rfl (lv_at hl 0 rfl) ?_
  refine lv_iload_n hx hb dX11_convert_6 rfl (lv_at hl 1 rfl) ?_
  obtain ⟨q1, hc, h⟩ := ib h
  have hF := va_frees hD hS hA
  refine va_calli (va_runV (As := [.int p0]) (rest := []) ⟨hx, hb, hml, hown, hts⟩ (s_X11_isMessage hc) (cwV 1 hts (gV mw_35_24 mw_35_25 mw_35_26 mw_0_15 mw_55_26) rfl rfl rfl (by decide +kernel) ⟨(Nat.le_of_ble_eq_true rfl), (Nat.le_of_ble_eq_true rfl)⟩) (vV (ci := 11) (q0 := 0) hK hP hD hN rfl gB_0) rfl rfl hl.1 rfl (lv_room (Nat.le_of_ble_eq_true rfl)) dX11_convert_7 ⟨(Nat.le_of_ble_eq_true rfl), (Nat.le_of_ble_eq_true rfl)⟩) hS (fun q _ h => hF q h) hF (fun r2 u t H locs ht hvm hw hB _ _ hS => ?_)
  obtain rfl : r2 = q1.1 := hw
  replace hP : va_P (dC, dI) vwCl (wB a k q1.2) H := by rw [← ht]; exact hB.1
  replace hD := hD0 (q1.2)
  clear hB hF
  refine lv_if_eq (tgt := 33) hx hb dX11_convert_10 (by decide) (fun hc => ?_) (fun hc => ?_)
  · replace h := ip hc h
    refine lv_iconst (v := (-1)) hx hb dX11_convert_33 (by decide) ?_
    refine W.endD hd0 ?_
    obtain rfl := Option.some.inj h
    exact W.iret hx hb hr (fun t ht hW => ⟨⟨_, (), rfl, rfl, ⟨by rw [ht]; exact hP, va_K.moved hW.alike hK, hD⟩⟩, hS.F ht⟩) hS.2.2 dX11_convert_34
  · replace h := iq hc h
    refine lv_aload_n hx hb dX11_convert_13 rfl (lv_at hl 0 rfl) ?_
    refine lv_iload_n hx hb dX11_convert_14 rfl (lv_at hl 2 rfl) ?_
    obtain ⟨q3, hc, h⟩ := ib h
    have hF := va_frees hD hS hA
    refine va_calli (va_runV (As := [.int p1]) (rest := []) ⟨hx, hb, hml, hown, hts⟩ (s_X11_isPlanAt hc) (cwV 1 hts (gV mw_33_22 mw_33_23 mw_33_24 mw_0_15 mw_55_9) rfl rfl rfl (by decide +kernel) ⟨(Nat.le_of_ble_eq_true rfl), (Nat.le_of_ble_eq_true rfl)⟩) (vV (ci := 11) (q0 := 0) hK hP hD hN rfl gB_0) rfl rfl hl.1 rfl (lv_room (Nat.le_of_ble_eq_true rfl)) dX11_convert_15 ⟨(Nat.le_of_ble_eq_true rfl), (Nat.le_of_ble_eq_true rfl)⟩) hS (fun q _ h => hF q h) hF (fun r4 u t H locs ht hvm hw hB _ _ hS => ?_)
    obtain rfl : r4 = q3.1 := hw
    replace hP : va_P (dC, dI) vwCl (wB a k q3.2) H := by rw [← ht]; exact hB.1
    replace hD := hD0 (q3.2)
    clear hB hF
    refine lv_if_eq (tgt := 33) hx hb dX11_convert_18 (by decide) (fun hc => ?_) (fun hc => ?_)
    · replace h := ip hc h
      refine lv_iconst (v := (-1)) hx hb dX11_convert_33 (by decide) ?_
      refine W.endD hd0 ?_
      obtain rfl := Option.some.inj h
      exact W.iret hx hb hr (fun t ht hW => ⟨⟨_, (), rfl, rfl, ⟨by rw [ht]; exact hP, va_K.moved hW.alike hK, hD⟩⟩, hS.F ht⟩) hS.2.2 dX11_convert_34
    · replace h := iq hc h
      refine lv_iload_n hx hb dX11_convert_21 rfl (lv_at hl 3 rfl) ?_
      refine lv_i2l (v := p2.toInt64) hx hb dX11_convert_22 rfl ?_
      refine lv_lconst (v := 0) hx hb dX11_convert_23 (by decide) ?_
      refine lv_ldc2 (v := 3) hx hb hown (hts (.constantLong RX11 475 (3)) mw_35_14) dX11_convert_24 ?_
      obtain ⟨q5, hc, h⟩ := ib h
      have hF := va_frees hD hS hA
      refine va_calli (va_runS (As := [.long (p2.toInt64), .long 0, .long 3]) (rest := []) ⟨hx, hb, hml, hown, hts⟩ (s_X11_within hc) (va_cwS 3 hts (gS mw_29_0 mw_29_1 mw_0_15 mw_53_26) rfl rfl rfl (by decide +kernel) ⟨(Nat.le_of_ble_eq_true rfl), (Nat.le_of_ble_eq_true rfl)⟩) (vS hK hP hD hN) rfl rfl hl.1 rfl (lv_room (Nat.le_of_ble_eq_true rfl)) dX11_convert_27 ⟨(Nat.le_of_ble_eq_true rfl), (Nat.le_of_ble_eq_true rfl)⟩) hS (fun q _ h => hF q h) hF (fun r6 u t H locs ht hvm hw hB _ _ hS => ?_)
      obtain rfl : r6 = q5.1 := hw
      replace hP : va_P (dC, dI) vwCl (wB a k q5.2) H := by rw [← ht]; exact hB.1
      replace hD := hD0 (q5.2)
      clear hB hF
      refine lv_if_ne (tgt := 35) hx hb dX11_convert_30 (by decide) (fun hc => ?_) (fun hc => ?_)
      · replace h := iq hc h
        refine lv_aload_n hx hb dX11_convert_35 rfl (lv_at hl 0 rfl) ?_
        refine lv_iload_n hx hb dX11_convert_36 rfl (lv_at hl 1 rfl) ?_
        refine lv_iload_n hx hb dX11_convert_37 rfl (lv_at hl 2 rfl) ?_
        obtain ⟨q7, hc, h⟩ := ib h
        have hF := va_frees hD hS hA
        refine va_calliD hd0 (va_runV_D (As := [.int p0, .int p1]) (rest := []) ⟨hx, hb, hml, hown, hts⟩ (s_X11_readsFor hc) (cwV 2 hts (gV mw_39_8 mw_39_9 mw_39_10 mw_0_15 mw_57_5) rfl rfl rfl (by decide +kernel) ⟨(Nat.le_of_ble_eq_true rfl), (Nat.le_of_ble_eq_true rfl)⟩) (vV (ci := 11) (q0 := 0) hK hP hD hN rfl gB_0) rfl rfl hl.1 rfl (lv_room (Nat.le_of_ble_eq_true rfl)) dX11_convert_38 ⟨(Nat.le_of_ble_eq_true rfl), (Nat.le_of_ble_eq_true rfl)⟩) hS (fun q _ h => hF q h) hF (fun r8 u t H locs ht hvm hw hB _ _ hS d0 hd0 => ?_)
        replace hts := dr_words hts0 d0
        replace hN : nN (s.setDrawn d0) := nN.same (u := s) (U := s.setDrawn d0) rfl hN0
        replace hK : va_K (dC, dI) vwCl (tB k) (s.setDrawn d0) := hK0
        obtain rfl : r8 = q7.1 := hw
        replace hP : va_P (dC, dI) vwCl (wB a k q7.2) H := by rw [← ht]; exact hB.1
        replace hD := hD0 (q7.2)
        clear hB hF
        refine lv_istore (lv' := [(4, .int q7.1), (0, .ref (a 0)), (1, .int p0), (2, .int p1), (3, .int p2)]) hx hb dX11_convert_41 hl (by decide) rfl (fun ls hl => ?_)
        refine lv_iload hx hb dX11_convert_43 (lv_at hl 0 rfl) ?_
        refine lv_if_ge (tgt := 51) hx hb dX11_convert_45 (by decide) (fun hc => ?_) (fun hc => ?_)
        · replace h := ip hc h
          refine lv_aload_n hx hb dX11_convert_51 rfl (lv_at hl 1 rfl) ?_
          refine lv_iconst (v := 0) hx hb dX11_convert_52 (by decide) ?_
          obtain ⟨q9, hc, h⟩ := ib h
          have hF := va_frees hD hS hA
          refine va_callv (va_runV (As := [.int 0]) (rest := []) ⟨hx, hb, hml, hown, hts⟩ (s_X11_writesTree hc) (cwV 1 hts (gV mw_35_18 mw_35_19 mw_35_20 mw_0_15 mw_55_28) rfl rfl rfl (by decide +kernel) ⟨(Nat.le_of_ble_eq_true rfl), (Nat.le_of_ble_eq_true rfl)⟩) (vV (ci := 11) (q0 := 0) hK hP hD hN rfl gB_0) rfl rfl hl.1 rfl (lv_room (Nat.le_of_ble_eq_true rfl)) dX11_convert_53 ⟨(Nat.le_of_ble_eq_true rfl), (Nat.le_of_ble_eq_true rfl)⟩) hS (fun q _ h => hF q h) hF (fun u t H locs ht hvm hw hB _ _ hS => ?_)
          replace hP : va_P (dC, dI) vwCl (wB a k q9) H := by rw [← ht]; exact hB.1
          replace hD := hD0 (q9)
          clear hB hF
          refine lv_aload_n hx hb dX11_convert_56 rfl (lv_at hl 1 rfl) ?_
          refine va_get (D := (dC, dI)) (ci := 11) (C := RX11) (T := TX11) (N := 95) hx hb hts inlX11 hown hK hP 0 gB_0 rfl 49 (by decide) (hts (.fieldLink RX11 451 "ShapeReaderModel" "isTooLong" "Z") mw_34_27) (fun _ h9 => h9) rfl dX11_convert_57 ?_
          refine lv_if_eq (tgt := 66) hx hb dX11_convert_60 (by decide) (fun hc => ?_) (fun hc => ?_)
          · replace h := ip hc h
            refine lv_aload_n hx hb dX11_convert_66 rfl (lv_at hl 1 rfl) ?_
            refine lv_iload_n hx hb dX11_convert_67 rfl (lv_at hl 4 rfl) ?_
            refine lv_iload_n hx hb dX11_convert_68 rfl (lv_at hl 3 rfl) ?_
            obtain ⟨q11, hc, h⟩ := ib h
            have hF := va_frees hD hS hA
            refine va_callv (va_runV (As := [.int p2, .int p1]) (rest := []) ⟨hx, hb, hml, hown, hts⟩ (s_X11_becomes hc) (cwV 2 hts (gV mw_35_21 mw_35_22 mw_35_23 mw_0_15 mw_55_27) rfl rfl rfl (by decide +kernel) ⟨(Nat.le_of_ble_eq_true rfl), (Nat.le_of_ble_eq_true rfl)⟩) (vV (ci := 11) (q0 := 0) hK hP hD hN rfl gB_0) rfl rfl hl.1 rfl (lv_room (Nat.le_of_ble_eq_true rfl)) dX11_convert_69 ⟨(Nat.le_of_ble_eq_true rfl), (Nat.le_of_ble_eq_true rfl)⟩) hS (fun q _ h => hF q h) hF (fun u t H locs ht hvm hw hB _ _ hS => ?_)
            replace hP : va_P (dC, dI) vwCl (wB a k q11) H := by rw [← ht]; exact hB.1
            replace hD := hD0 (q11)
            clear hB hF
            refine lv_aload_n hx hb dX11_convert_72 rfl (lv_at hl 1 rfl) ?_
            refine va_get (D := (dC, dI)) (ci := 11) (C := RX11) (T := TX11) (N := 95) hx hb hts inlX11 hown hK hP 0 gB_0 rfl 48 (by decide) (hts (.fieldLink RX11 448 "ShapeReaderModel" "writtenMany" "I") mw_34_26) (fun _ h9 => h9) rfl dX11_convert_73 ?_
            refine W.endD hd0 ?_
            obtain rfl := Option.some.inj h
            exact W.iret hx hb hr (fun t ht hW => ⟨⟨_, (), rfl, rfl, ⟨by rw [ht]; exact hP, va_K.moved hW.alike hK, hD⟩⟩, hS.F ht⟩) hS.2.2 dX11_convert_76
          · replace h := iq hc h
            refine lv_bipush (v := (-4)) hx hb dX11_convert_63 (by decide) ?_
            refine W.endD hd0 ?_
            obtain rfl := Option.some.inj h
            exact W.iret hx hb hr (fun t ht hW => ⟨⟨_, (), rfl, rfl, ⟨by rw [ht]; exact hP, va_K.moved hW.alike hK, hD⟩⟩, hS.F ht⟩) hS.2.2 dX11_convert_65
        · replace h := iq hc h
          refine lv_iload hx hb dX11_convert_48 (lv_at hl 0 rfl) ?_
          refine W.endD hd0 ?_
          obtain rfl := Option.some.inj h
          exact W.iret hx hb hr (fun t ht hW => ⟨⟨_, (), rfl, rfl, ⟨by rw [ht]; exact hP, va_K.moved hW.alike hK, hD⟩⟩, hS.F ht⟩) hS.2.2 dX11_convert_50
      · replace h := ip hc h
        refine lv_iconst (v := (-1)) hx hb dX11_convert_33 (by decide) ?_
        refine W.endD hd0 ?_
        obtain rfl := Option.some.inj h
        exact W.iret hx hb hr (fun t ht hW => ⟨⟨_, (), rfl, rfl, ⟨by rw [ht]; exact hP, va_K.moved hW.alike hK, hD⟩⟩, hS.F ht⟩) hS.2.2 dX11_convert_34

theorem s_X11_convert {l : Launch} {dC : Nat → ClassId} {dI : Nat → Nat → Nat} {a : Nat → Nat} {k : Nat → ClassId} {sz : Nat} {p0 : Int32} {p1 : Int32} {p2 : Int32} {σ : ST} {q : Int32 × ST} (h : f_X11_convert  p0 p1 p2 σ = some q) : MetD csD l yX11_convert (.code yX11_convert cX11_convert 5 (some .int) :: pw) ({ frames := 686, cells := 0, slots := 0, locals := 19482 } : Room) (va_Pc [.ref (a 0), .int p0, .int p1, .int p2] (vPre dC dI (wB a k σ) (tB k) sz)) (qBi dC dI a k (va_A (wB a k σ) sz) q) 0 0 (va_A (wB a k σ) sz) := medB (fun A => qBi dC dI a k A q) (by decide) (Nat.le_of_ble_eq_true rfl) (fun _ _ _ _ _ _ _ _ hC => b_X11_convert_e hC h)

def f_X11_read (p0 : Int32) (p1 : Int32) (σ : ST) : Option (Int32 × ST) := (f_X11_isMessage  p0 (stI σ 0 0 0)).bind fun q1 => if q1.1 = 0 then (some ((-1), q1.2)) else ((f_X11_isPlanAt  p1 q1.2).bind fun q3 => if q3.1 = 0 then (some ((-1), q3.2)) else ((f_X11_readsFor  p0 p1 q3.2).bind fun q5 => if 0 ≤ q5.1 then (some ((q5.2.1 0 73), q5.2)) else (some (q5.1, q5.2))))

set_option maxRecDepth 100000 in
set_option maxHeartbeats 4000000 in
theorem b_X11_read_e {p : Program} {l : Launch} {e : Env} {s : State} {m : MethodId} {args : Array Value} {below : List Frame} {meth : Method} {c : Code} {dC : Nat → ClassId} {dI : Nat → Nat → Nat} {a : Nat → Nat} {k : Nat → ClassId} {A : Nat → Prop} {q : Int32 × ST} (hC : CxB p s m args meth c dC dI k A cX11_read RX11 (some .int) 4)   {p0 : Int32} {p1 : Int32} {σ : ST} (h : f_X11_read  p0 p1 σ = some q) : GdB p l e ({ frames := 686, cells := 0, slots := 0, locals := 19482 } : Room) s m args below meth c (MQD csD below (qBi dC dI a k A q) args s 0 0 A) dC dI a k A 4 0 σ (lv_args 0 [.ref (a 0), .int p0, .int p1]) [] := by
  have hC0 := hC
  obtain ⟨hx, hb, hr, hml, hown, hts, hlocks, hA, hN, hK⟩ := hC0
  have hts0 := hts
  have hN0 := hN
  have hK0 := hK
  intro d0 hd0
  replace hts := dr_words hts0 d0
  replace hN : nN (s.setDrawn d0) := nN.same (u := s) (U := s.setDrawn d0) rfl hN0
  replace hK : va_K (dC, dI) vwCl (tB k) (s.setDrawn d0) := hK0
  intro H locs ls hP hD hS hl
  have hD0 : ∀ σ1 : ST, va_D A (wB a k σ1) := fun σ1 => wB_D hD
  replace hl : lv_has ls 4 [(0, .ref (a 0)), (1, .int p0), (2, .int p1)] := hl
  unfold f_X11_read at h
  refine lv_aload_n hx hb dX11_read_0 rfl (lv_at hl 0 rfl) ?_
  refine lv_iconst (v := 0) hx hb dX11_read_1 (by decide) ?_
  refine va_put (D := (dC, dI)) (ci := 11) (ty := .int) (C := RX11) (T := TX11) (N := 95) hx hb hts inlX11 tyX11 tyX11_ok nmX11 hown hK hP hD hS 0 gB_0 rfl 0 (by decide) (hts (.fieldLink RX11 178 "ShapeReaderModel" "thrown" "I") mw_28_22) (fun _ h9 => h9) rfl (by decide +kernel) rfl rfl (Nat.le_of_ble_eq_true rfl) dX11_read_2 (fun H locs hP hD hS => ?_)
  replace hP := uB_0_0 hP
  replace hD := hD0 ((stI σ 0 0 0))
  refine lv_aload_n hx hb dX11_read_5 rfl (lv_at hl 0 rfl) ?_
  refine lv_iload_n hx hb dX11_read_6 rfl (lv_at hl 1 rfl) ?_
  obtain ⟨q1, hc, h⟩ := ib h
  have hF := va_frees hD hS hA
  refine va_calli (va_runV (As := [.int p0]) (rest := []) ⟨hx, hb, hml, hown, hts⟩ (s_X11_isMessage hc) (cwV 1 hts (gV mw_35_24 mw_35_25 mw_35_26 mw_0_15 mw_55_26) rfl rfl rfl (by decide +kernel) ⟨(Nat.le_of_ble_eq_true rfl), (Nat.le_of_ble_eq_true rfl)⟩) (vV (ci := 11) (q0 := 0) hK hP hD hN rfl gB_0) rfl rfl hl.1 rfl (lv_room (Nat.le_of_ble_eq_true rfl)) dX11_read_7 ⟨(Nat.le_of_ble_eq_true rfl), (Nat.le_of_ble_eq_true rfl)⟩) hS (fun q _ h => hF q h) hF (fun r2 u t H locs ht hvm hw hB _ _ hS => ?_)
  obtain rfl : r2 = q1.1 := hw
  replace hP : va_P (dC, dI) vwCl (wB a k q1.2) H := by rw [← ht]; exact hB.1
  replace hD := hD0 (q1.2)
  clear hB hF
  refine lv_if_eq (tgt := 21) hx hb dX11_read_10 (by decide) (fun hc => ?_) (fun hc => ?_)
  · replace h := ip hc h
    refine lv_iconst (v := (-1)) hx hb dX11_read_21 (by decide) ?_
    refine W.endD hd0 ?_
    obtain rfl := Option.some.inj h
    exact W.iret hx hb hr (fun t ht hW => ⟨⟨_, (), rfl, rfl, ⟨by rw [ht]; exact hP, va_K.moved hW.alike hK, hD⟩⟩, hS.F ht⟩) hS.2.2 dX11_read_22
  · replace h := iq hc h
    refine lv_aload_n hx hb dX11_read_13 rfl (lv_at hl 0 rfl) ?_
    refine lv_iload_n hx hb dX11_read_14 rfl (lv_at hl 2 rfl) ?_
    obtain ⟨q3, hc, h⟩ := ib h
    have hF := va_frees hD hS hA
    refine va_calli (va_runV (As := [.int p1]) (rest := []) ⟨hx, hb, hml, hown, hts⟩ (s_X11_isPlanAt hc) (cwV 1 hts (gV mw_33_22 mw_33_23 mw_33_24 mw_0_15 mw_55_9) rfl rfl rfl (by decide +kernel) ⟨(Nat.le_of_ble_eq_true rfl), (Nat.le_of_ble_eq_true rfl)⟩) (vV (ci := 11) (q0 := 0) hK hP hD hN rfl gB_0) rfl rfl hl.1 rfl (lv_room (Nat.le_of_ble_eq_true rfl)) dX11_read_15 ⟨(Nat.le_of_ble_eq_true rfl), (Nat.le_of_ble_eq_true rfl)⟩) hS (fun q _ h => hF q h) hF (fun r4 u t H locs ht hvm hw hB _ _ hS => ?_)
    obtain rfl : r4 = q3.1 := hw
    replace hP : va_P (dC, dI) vwCl (wB a k q3.2) H := by rw [← ht]; exact hB.1
    replace hD := hD0 (q3.2)
    clear hB hF
    refine lv_if_ne (tgt := 23) hx hb dX11_read_18 (by decide) (fun hc => ?_) (fun hc => ?_)
    · replace h := iq hc h
      refine lv_aload_n hx hb dX11_read_23 rfl (lv_at hl 0 rfl) ?_
      refine lv_iload_n hx hb dX11_read_24 rfl (lv_at hl 1 rfl) ?_
      refine lv_iload_n hx hb dX11_read_25 rfl (lv_at hl 2 rfl) ?_
      obtain ⟨q5, hc, h⟩ := ib h
      have hF := va_frees hD hS hA
      refine va_calliD hd0 (va_runV_D (As := [.int p0, .int p1]) (rest := []) ⟨hx, hb, hml, hown, hts⟩ (s_X11_readsFor hc) (cwV 2 hts (gV mw_39_8 mw_39_9 mw_39_10 mw_0_15 mw_57_5) rfl rfl rfl (by decide +kernel) ⟨(Nat.le_of_ble_eq_true rfl), (Nat.le_of_ble_eq_true rfl)⟩) (vV (ci := 11) (q0 := 0) hK hP hD hN rfl gB_0) rfl rfl hl.1 rfl (lv_room (Nat.le_of_ble_eq_true rfl)) dX11_read_26 ⟨(Nat.le_of_ble_eq_true rfl), (Nat.le_of_ble_eq_true rfl)⟩) hS (fun q _ h => hF q h) hF (fun r6 u t H locs ht hvm hw hB _ _ hS d0 hd0 => ?_)
      replace hts := dr_words hts0 d0
      replace hN : nN (s.setDrawn d0) := nN.same (u := s) (U := s.setDrawn d0) rfl hN0
      replace hK : va_K (dC, dI) vwCl (tB k) (s.setDrawn d0) := hK0
      obtain rfl : r6 = q5.1 := hw
      replace hP : va_P (dC, dI) vwCl (wB a k q5.2) H := by rw [← ht]; exact hB.1
      replace hD := hD0 (q5.2)
      clear hB hF
      refine lv_istore_n (lv' := [(3, .int q5.1), (0, .ref (a 0)), (1, .int p0), (2, .int p1)]) hx hb dX11_read_29 rfl hl (by decide) rfl (fun ls hl => ?_)
      refine lv_iload_n hx hb dX11_read_30 rfl (lv_at hl 0 rfl) ?_
      refine lv_if_ge (tgt := 38) hx hb dX11_read_31 (by decide) (fun hc => ?_) (fun hc => ?_)
      · replace h := ip hc h
        refine lv_aload_n hx hb dX11_read_38 rfl (lv_at hl 1 rfl) ?_
        refine va_get (D := (dC, dI)) (ci := 11) (C := RX11) (T := TX11) (N := 95) hx hb hts inlX11 hown hK hP 0 gB_0 rfl 73 (by decide) (hts (.fieldLink RX11 392 "ShapeReaderModel" "nodeMany" "I") mw_33_17) (fun _ h9 => h9) rfl dX11_read_39 ?_
        refine W.endD hd0 ?_
        obtain rfl := Option.some.inj h
        exact W.iret hx hb hr (fun t ht hW => ⟨⟨_, (), rfl, rfl, ⟨by rw [ht]; exact hP, va_K.moved hW.alike hK, hD⟩⟩, hS.F ht⟩) hS.2.2 dX11_read_42
      · replace h := iq hc h
        refine lv_iload_n hx hb dX11_read_34 rfl (lv_at hl 0 rfl) ?_
        refine lv_goto (tgt := 42) hx hb dX11_read_35 (by decide) ?_
        refine W.endD hd0 ?_
        obtain rfl := Option.some.inj h
        exact W.iret hx hb hr (fun t ht hW => ⟨⟨_, (), rfl, rfl, ⟨by rw [ht]; exact hP, va_K.moved hW.alike hK, hD⟩⟩, hS.F ht⟩) hS.2.2 dX11_read_42
    · replace h := ip hc h
      refine lv_iconst (v := (-1)) hx hb dX11_read_21 (by decide) ?_
      refine W.endD hd0 ?_
      obtain rfl := Option.some.inj h
      exact W.iret hx hb hr (fun t ht hW => ⟨⟨_, (), rfl, rfl, ⟨by rw [ht]; exact hP, va_K.moved hW.alike hK, hD⟩⟩, hS.F ht⟩) hS.2.2 dX11_read_22

theorem s_X11_read {l : Launch} {dC : Nat → ClassId} {dI : Nat → Nat → Nat} {a : Nat → Nat} {k : Nat → ClassId} {sz : Nat} {p0 : Int32} {p1 : Int32} {σ : ST} {q : Int32 × ST} (h : f_X11_read  p0 p1 σ = some q) : MetD csD l yX11_read (.code yX11_read cX11_read 4 (some .int) :: pw) ({ frames := 686, cells := 0, slots := 0, locals := 19482 } : Room) (va_Pc [.ref (a 0), .int p0, .int p1] (vPre dC dI (wB a k σ) (tB k) sz)) (qBi dC dI a k (va_A (wB a k σ) sz) q) 0 0 (va_A (wB a k σ) sz) := medB (fun A => qBi dC dI a k A q) (by decide) (Nat.le_of_ble_eq_true rfl) (fun _ _ _ _ _ _ _ _ hC => b_X11_read_e hC h)
