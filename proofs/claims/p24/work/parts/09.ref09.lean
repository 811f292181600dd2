theorem dX11_laysMisses_0 : decode cX11_laysMisses 0 = .ok (.aload_n 0, 1) := by decide +kernel
theorem dX11_laysMisses_1 : decode cX11_laysMisses 1 = .ok (.iload_n 1, 1) := by decide +kernel
theorem dX11_laysMisses_2 : decode cX11_laysMisses 2 = .ok (.iload_n 2, 1) := by decide +kernel
theorem dX11_laysMisses_3 : decode cX11_laysMisses 3 = .ok (.invokevirtual 530, 3) := by decide +kernel
theorem dX11_laysMisses_6 : decode cX11_laysMisses 6 = .ok (.aload_n 0, 1) := by decide +kernel
theorem dX11_laysMisses_7 : decode cX11_laysMisses 7 = .ok (.iconst 0, 1) := by decide +kernel
theorem dX11_laysMisses_8 : decode cX11_laysMisses 8 = .ok (.putfield 513, 3) := by decide +kernel
theorem dX11_laysMisses_11 : decode cX11_laysMisses 11 = .ok (.aload_n 0, 1) := by decide +kernel
theorem dX11_laysMisses_12 : decode cX11_laysMisses 12 = .ok (.iconst 0, 1) := by decide +kernel
theorem dX11_laysMisses_13 : decode cX11_laysMisses 13 = .ok (.putfield 516, 3) := by decide +kernel
theorem dX11_laysMisses_16 : decode cX11_laysMisses 16 = .ok (.iconst 0, 1) := by decide +kernel
theorem dX11_laysMisses_17 : decode cX11_laysMisses 17 = .ok (.istore_n 3, 1) := by decide +kernel
theorem dX11_laysMisses_18 : decode cX11_laysMisses 18 = .ok (.iload_n 3, 1) := by decide +kernel
theorem dX11_laysMisses_19 : decode cX11_laysMisses 19 = .ok (.bipush 36, 2) := by decide +kernel
theorem dX11_laysMisses_21 : decode cX11_laysMisses 21 = .ok (.if_icmp .ge 16, 3) := by decide +kernel
theorem dX11_laysMisses_24 : decode cX11_laysMisses 24 = .ok (.aload_n 0, 1) := by decide +kernel
theorem dX11_laysMisses_25 : decode cX11_laysMisses 25 = .ok (.getfield 130, 3) := by decide +kernel
theorem dX11_laysMisses_28 : decode cX11_laysMisses 28 = .ok (.iload_n 3, 1) := by decide +kernel
theorem dX11_laysMisses_29 : decode cX11_laysMisses 29 = .ok (.iconst 0, 1) := by decide +kernel
theorem dX11_laysMisses_30 : decode cX11_laysMisses 30 = .ok (.bastore, 1) := by decide +kernel
theorem dX11_laysMisses_31 : decode cX11_laysMisses 31 = .ok (.iinc 3 1, 3) := by decide +kernel
theorem dX11_laysMisses_34 : decode cX11_laysMisses 34 = .ok (.goto (-16), 3) := by decide +kernel
theorem dX11_laysMisses_37 : decode cX11_laysMisses 37 = .ok (.aload_n 0, 1) := by decide +kernel
theorem dX11_laysMisses_38 : decode cX11_laysMisses 38 = .ok (.iconst 0, 1) := by decide +kernel
theorem dX11_laysMisses_39 : decode cX11_laysMisses 39 = .ok (.iconst 0, 1) := by decide +kernel
theorem dX11_laysMisses_40 : decode cX11_laysMisses 40 = .ok (.invokevirtual 527, 3) := by decide +kernel
theorem dX11_laysMisses_43 : decode cX11_laysMisses 43 = .ok (.return_, 1) := by decide +kernel
theorem dX11_letter_0 : decode cX11_letter 0 = .ok (.aload_n 0, 1) := by decide +kernel
theorem dX11_letter_1 : decode cX11_letter 1 = .ok (.iload_n 1, 1) := by decide +kernel
theorem dX11_letter_2 : decode cX11_letter 2 = .ok (.i2l, 1) := by decide +kernel
theorem dX11_letter_3 : decode cX11_letter 3 = .ok (.lconst 0, 1) := by decide +kernel
theorem dX11_letter_4 : decode cX11_letter 4 = .ok (.aload_n 0, 1) := by decide +kernel
theorem dX11_letter_5 : decode cX11_letter 5 = .ok (.getfield 392, 3) := by decide +kernel
theorem dX11_letter_8 : decode cX11_letter 8 = .ok (.iconst 1, 1) := by decide +kernel
theorem dX11_letter_9 : decode cX11_letter 9 = .ok (.isub, 1) := by decide +kernel
theorem dX11_letter_10 : decode cX11_letter 10 = .ok (.i2l, 1) := by decide +kernel
theorem dX11_letter_11 : decode cX11_letter 11 = .ok (.invokestatic 196, 3) := by decide +kernel
theorem dX11_letter_14 : decode cX11_letter 14 = .ok (.ifCond .eq 21, 3) := by decide +kernel
theorem dX11_letter_17 : decode cX11_letter 17 = .ok (.aload_n 0, 1) := by decide +kernel
theorem dX11_letter_18 : decode cX11_letter 18 = .ok (.getfield 136, 3) := by decide +kernel
theorem dX11_letter_21 : decode cX11_letter 21 = .ok (.iload_n 1, 1) := by decide +kernel
theorem dX11_letter_22 : decode cX11_letter 22 = .ok (.iaload, 1) := by decide +kernel
theorem dX11_letter_23 : decode cX11_letter 23 = .ok (.iconst 5, 1) := by decide +kernel
theorem dX11_letter_24 : decode cX11_letter 24 = .ok (.if_icmp .ne 11, 3) := by decide +kernel
theorem dX11_letter_27 : decode cX11_letter 27 = .ok (.iload_n 2, 1) := by decide +kernel
theorem dX11_letter_28 : decode cX11_letter 28 = .ok (.ifCond .lt 7, 3) := by decide +kernel
theorem dX11_letter_31 : decode cX11_letter 31 = .ok (.iconst 0, 1) := by decide +kernel
theorem dX11_letter_32 : decode cX11_letter 32 = .ok (.goto 4, 3) := by decide +kernel
theorem dX11_letter_35 : decode cX11_letter 35 = .ok (.iconst 1, 1) := by decide +kernel
theorem dX11_letter_36 : decode cX11_letter 36 = .ok (.putfield 178, 3) := by decide +kernel
theorem dX11_letter_39 : decode cX11_letter 39 = .ok (.aload_n 0, 1) := by decide +kernel
theorem dX11_letter_40 : decode cX11_letter 40 = .ok (.getfield 178, 3) := by decide +kernel
theorem dX11_letter_43 : decode cX11_letter 43 = .ok (.ifCond .gt 13, 3) := by decide +kernel
theorem dX11_letter_46 : decode cX11_letter 46 = .ok (.iload_n 2, 1) := by decide +kernel
theorem dX11_letter_47 : decode cX11_letter 47 = .ok (.aload_n 0, 1) := by decide +kernel
theorem dX11_letter_48 : decode cX11_letter 48 = .ok (.getfield 145, 3) := by decide +kernel
theorem dX11_letter_51 : decode cX11_letter 51 = .ok (.iload_n 1, 1) := by decide +kernel
theorem dX11_letter_52 : decode cX11_letter 52 = .ok (.iaload, 1) := by decide +kernel
theorem dX11_letter_53 : decode cX11_letter 53 = .ok (.if_icmp .lt 5, 3) := by decide +kernel
theorem dX11_letter_56 : decode cX11_letter 56 = .ok (.iconst 0, 1) := by decide +kernel
theorem dX11_letter_57 : decode cX11_letter 57 = .ok (.ireturn, 1) := by decide +kernel
theorem dX11_letter_58 : decode cX11_letter 58 = .ok (.aload_n 0, 1) := by decide +kernel
theorem dX11_letter_59 : decode cX11_letter 59 = .ok (.getfield 154, 3) := by decide +kernel
theorem dX11_letter_62 : decode cX11_letter 62 = .ok (.iload_n 1, 1) := by decide +kernel
theorem dX11_letter_63 : decode cX11_letter 63 = .ok (.laload, 1) := by decide +kernel
theorem dX11_letter_64 : decode cX11_letter 64 = .ok (.lstore_n 3, 1) := by decide +kernel
theorem dX11_letter_65 : decode cX11_letter 65 = .ok (.aload_n 0, 1) := by decide +kernel
theorem dX11_letter_66 : decode cX11_letter 66 = .ok (.getfield 145, 3) := by decide +kernel
theorem dX11_letter_69 : decode cX11_letter 69 = .ok (.iload_n 1, 1) := by decide +kernel
theorem dX11_letter_70 : decode cX11_letter 70 = .ok (.iaload, 1) := by decide +kernel
theorem dX11_letter_71 : decode cX11_letter 71 = .ok (.iconst 1, 1) := by decide +kernel
theorem dX11_letter_72 : decode cX11_letter 72 = .ok (.isub, 1) := by decide +kernel
theorem dX11_letter_73 : decode cX11_letter 73 = .ok (.istore 5, 2) := by decide +kernel
theorem dX11_letter_75 : decode cX11_letter 75 = .ok (.iload 5, 2) := by decide +kernel
theorem dX11_letter_77 : decode cX11_letter 77 = .ok (.iload_n 2, 1) := by decide +kernel
theorem dX11_letter_78 : decode cX11_letter 78 = .ok (.if_icmp .le 15, 3) := by decide +kernel
theorem dX11_letter_81 : decode cX11_letter 81 = .ok (.lload_n 3, 1) := by decide +kernel
theorem dX11_letter_82 : decode cX11_letter 82 = .ok (.ldc2_w 222, 3) := by decide +kernel
theorem dX11_letter_85 : decode cX11_letter 85 = .ok (.ldiv, 1) := by decide +kernel
theorem dX11_letter_86 : decode cX11_letter 86 = .ok (.lstore_n 3, 1) := by decide +kernel
theorem dX11_letter_87 : decode cX11_letter 87 = .ok (.iinc 5 (-1), 3) := by decide +kernel
theorem dX11_letter_90 : decode cX11_letter 90 = .ok (.goto (-15), 3) := by decide +kernel
theorem dX11_letter_93 : decode cX11_letter 93 = .ok (.lload_n 3, 1) := by decide +kernel
theorem dX11_letter_94 : decode cX11_letter 94 = .ok (.ldc2_w 222, 3) := by decide +kernel
theorem dX11_letter_97 : decode cX11_letter 97 = .ok (.lrem, 1) := by decide +kernel
theorem dX11_letter_98 : decode cX11_letter 98 = .ok (.l2i, 1) := by decide +kernel
theorem dX11_letter_99 : decode cX11_letter 99 = .ok (.ireturn, 1) := by decide +kernel
theorem dX11_looksAt_0 : decode cX11_looksAt 0 = .ok (.aload_n 0, 1) := by decide +kernel
theorem dX11_looksAt_1 : decode cX11_looksAt 1 = .ok (.getfield 13, 3) := by decide +kernel
theorem dX11_looksAt_4 : decode cX11_looksAt 4 = .ok (.iload_n 1, 1) := by decide +kernel
theorem dX11_looksAt_5 : decode cX11_looksAt 5 = .ok (.iaload, 1) := by decide +kernel
theorem dX11_looksAt_6 : decode cX11_looksAt 6 = .ok (.bipush 8, 2) := by decide +kernel
theorem dX11_looksAt_8 : decode cX11_looksAt 8 = .ok (.if_icmp .ne 80, 3) := by decide +kernel
theorem dX11_looksAt_11 : decode cX11_looksAt 11 = .ok (.iconst 0, 1) := by decide +kernel
theorem dX11_looksAt_12 : decode cX11_looksAt 12 = .ok (.istore_n 3, 1) := by decide +kernel
theorem dX11_looksAt_13 : decode cX11_looksAt 13 = .ok (.iload_n 3, 1) := by decide +kernel
theorem dX11_looksAt_14 : decode cX11_looksAt 14 = .ok (.aload_n 0, 1) := by decide +kernel
theorem dX11_looksAt_15 : decode cX11_looksAt 15 = .ok (.getfield 20, 3) := by decide +kernel
theorem dX11_looksAt_18 : decode cX11_looksAt 18 = .ok (.iload_n 1, 1) := by decide +kernel
theorem dX11_looksAt_19 : decode cX11_looksAt 19 = .ok (.iaload, 1) := by decide +kernel
theorem dX11_looksAt_20 : decode cX11_looksAt 20 = .ok (.if_icmp .ge 65, 3) := by decide +kernel
theorem dX11_looksAt_23 : decode cX11_looksAt 23 = .ok (.aload_n 0, 1) := by decide +kernel
theorem dX11_looksAt_24 : decode cX11_looksAt 24 = .ok (.sipush 200, 3) := by decide +kernel
theorem dX11_looksAt_27 : decode cX11_looksAt 27 = .ok (.iload_n 3, 1) := by decide +kernel
theorem dX11_looksAt_28 : decode cX11_looksAt 28 = .ok (.iadd, 1) := by decide +kernel
theorem dX11_looksAt_29 : decode cX11_looksAt 29 = .ok (.invokevirtual 519, 3) := by decide +kernel
theorem dX11_looksAt_32 : decode cX11_looksAt 32 = .ok (.aload_n 0, 1) := by decide +kernel
theorem dX11_looksAt_33 : decode cX11_looksAt 33 = .ok (.getfield 23, 3) := by decide +kernel
theorem dX11_looksAt_36 : decode cX11_looksAt 36 = .ok (.iconst 4, 1) := by decide +kernel
theorem dX11_looksAt_37 : decode cX11_looksAt 37 = .ok (.iload_n 1, 1) := by decide +kernel
theorem dX11_looksAt_38 : decode cX11_looksAt 38 = .ok (.imul, 1) := by decide +kernel
theorem dX11_looksAt_39 : decode cX11_looksAt 39 = .ok (.iload_n 3, 1) := by decide +kernel
theorem dX11_looksAt_40 : decode cX11_looksAt 40 = .ok (.iadd, 1) := by decide +kernel
theorem dX11_looksAt_41 : decode cX11_looksAt 41 = .ok (.iaload, 1) := by decide +kernel
theorem dX11_looksAt_42 : decode cX11_looksAt 42 = .ok (.istore 4, 2) := by decide +kernel
theorem dX11_looksAt_44 : decode cX11_looksAt 44 = .ok (.aload_n 0, 1) := by decide +kernel
theorem dX11_looksAt_45 : decode cX11_looksAt 45 = .ok (.iload 4, 2) := by decide +kernel
theorem dX11_looksAt_47 : decode cX11_looksAt 47 = .ok (.iload_n 2, 1) := by decide +kernel
theorem dX11_looksAt_48 : decode cX11_looksAt 48 = .ok (.invokevirtual 498, 3) := by decide +kernel
theorem dX11_looksAt_51 : decode cX11_looksAt 51 = .ok (.ifCond .eq 13, 3) := by decide +kernel
theorem dX11_looksAt_54 : decode cX11_looksAt 54 = .ok (.aload_n 0, 1) := by decide +kernel
theorem dX11_looksAt_55 : decode cX11_looksAt 55 = .ok (.iload 4, 2) := by decide +kernel
theorem dX11_looksAt_57 : decode cX11_looksAt 57 = .ok (.iload_n 2, 1) := by decide +kernel
theorem dX11_looksAt_58 : decode cX11_looksAt 58 = .ok (.invokevirtual 522, 3) := by decide +kernel
theorem dX11_looksAt_61 : decode cX11_looksAt 61 = .ok (.goto 8, 3) := by decide +kernel
theorem dX11_looksAt_64 : decode cX11_looksAt 64 = .ok (.aload_n 0, 1) := by decide +kernel
theorem dX11_looksAt_65 : decode cX11_looksAt 65 = .ok (.iconst 4, 1) := by decide +kernel
theorem dX11_looksAt_66 : decode cX11_looksAt 66 = .ok (.invokevirtual 525, 3) := by decide +kernel
theorem dX11_looksAt_69 : decode cX11_looksAt 69 = .ok (.aload_n 0, 1) := by decide +kernel
theorem dX11_looksAt_70 : decode cX11_looksAt 70 = .ok (.dup, 1) := by decide +kernel
theorem dX11_looksAt_71 : decode cX11_looksAt 71 = .ok (.getfield 516, 3) := by decide +kernel
theorem dX11_looksAt_74 : decode cX11_looksAt 74 = .ok (.iconst 1, 1) := by decide +kernel
theorem dX11_looksAt_75 : decode cX11_looksAt 75 = .ok (.isub, 1) := by decide +kernel
theorem dX11_looksAt_76 : decode cX11_looksAt 76 = .ok (.putfield 516, 3) := by decide +kernel
theorem dX11_looksAt_79 : decode cX11_looksAt 79 = .ok (.iinc 3 1, 3) := by decide +kernel
theorem dX11_looksAt_82 : decode cX11_looksAt 82 = .ok (.goto (-69), 3) := by decide +kernel
theorem dX11_looksAt_85 : decode cX11_looksAt 85 = .ok (.goto 182, 3) := by decide +kernel
theorem dX11_looksAt_88 : decode cX11_looksAt 88 = .ok (.aload_n 0, 1) := by decide +kernel
theorem dX11_looksAt_89 : decode cX11_looksAt 89 = .ok (.getfield 13, 3) := by decide +kernel
theorem dX11_looksAt_92 : decode cX11_looksAt 92 = .ok (.iload_n 2, 1) := by decide +kernel
theorem dX11_looksAt_93 : decode cX11_looksAt 93 = .ok (.iaload, 1) := by decide +kernel
theorem dX11_looksAt_94 : decode cX11_looksAt 94 = .ok (.bipush 8, 2) := by decide +kernel
theorem dX11_looksAt_96 : decode cX11_looksAt 96 = .ok (.if_icmp .ne 40, 3) := by decide +kernel
theorem dX11_looksAt_99 : decode cX11_looksAt 99 = .ok (.aload_n 0, 1) := by decide +kernel
theorem dX11_looksAt_100 : decode cX11_looksAt 100 = .ok (.iload_n 1, 1) := by decide +kernel
theorem dX11_looksAt_101 : decode cX11_looksAt 101 = .ok (.iload_n 2, 1) := by decide +kernel
theorem dX11_looksAt_102 : decode cX11_looksAt 102 = .ok (.invokevirtual 501, 3) := by decide +kernel
theorem dX11_looksAt_105 : decode cX11_looksAt 105 = .ok (.istore_n 3, 1) := by decide +kernel
theorem dX11_looksAt_106 : decode cX11_looksAt 106 = .ok (.iload_n 3, 1) := by decide +kernel
theorem dX11_looksAt_107 : decode cX11_looksAt 107 = .ok (.ifCond .ge 11, 3) := by decide +kernel
theorem dX11_looksAt_110 : decode cX11_looksAt 110 = .ok (.aload_n 0, 1) := by decide +kernel
theorem dX11_looksAt_111 : decode cX11_looksAt 111 = .ok (.iconst 3, 1) := by decide +kernel
theorem dX11_looksAt_112 : decode cX11_looksAt 112 = .ok (.invokevirtual 525, 3) := by decide +kernel
theorem dX11_looksAt_115 : decode cX11_looksAt 115 = .ok (.goto 18, 3) := by decide +kernel
theorem dX11_looksAt_118 : decode cX11_looksAt 118 = .ok (.aload_n 0, 1) := by decide +kernel
theorem dX11_looksAt_119 : decode cX11_looksAt 119 = .ok (.iload_n 1, 1) := by decide +kernel
theorem dX11_looksAt_120 : decode cX11_looksAt 120 = .ok (.aload_n 0, 1) := by decide +kernel
theorem dX11_looksAt_121 : decode cX11_looksAt 121 = .ok (.getfield 23, 3) := by decide +kernel
theorem dX11_looksAt_124 : decode cX11_looksAt 124 = .ok (.iconst 4, 1) := by decide +kernel
theorem dX11_looksAt_125 : decode cX11_looksAt 125 = .ok (.iload_n 2, 1) := by decide +kernel
theorem dX11_looksAt_126 : decode cX11_looksAt 126 = .ok (.imul, 1) := by decide +kernel
theorem dX11_looksAt_127 : decode cX11_looksAt 127 = .ok (.iload_n 3, 1) := by decide +kernel
theorem dX11_looksAt_128 : decode cX11_looksAt 128 = .ok (.iadd, 1) := by decide +kernel
theorem dX11_looksAt_129 : decode cX11_looksAt 129 = .ok (.iaload, 1) := by decide +kernel
theorem dX11_looksAt_130 : decode cX11_looksAt 130 = .ok (.invokevirtual 522, 3) := by decide +kernel
theorem dX11_looksAt_133 : decode cX11_looksAt 133 = .ok (.goto 134, 3) := by decide +kernel
theorem dX11_looksAt_136 : decode cX11_looksAt 136 = .ok (.aload_n 0, 1) := by decide +kernel
theorem dX11_looksAt_137 : decode cX11_looksAt 137 = .ok (.getfield 13, 3) := by decide +kernel
theorem dX11_looksAt_140 : decode cX11_looksAt 140 = .ok (.iload_n 1, 1) := by decide +kernel
theorem dX11_looksAt_141 : decode cX11_looksAt 141 = .ok (.iaload, 1) := by decide +kernel
theorem dX11_looksAt_142 : decode cX11_looksAt 142 = .ok (.bipush 7, 2) := by decide +kernel
theorem dX11_looksAt_144 : decode cX11_looksAt 144 = .ok (.if_icmp .ne 52, 3) := by decide +kernel
theorem dX11_looksAt_147 : decode cX11_looksAt 147 = .ok (.aload_n 0, 1) := by decide +kernel
theorem dX11_looksAt_148 : decode cX11_looksAt 148 = .ok (.getfield 13, 3) := by decide +kernel
theorem dX11_looksAt_151 : decode cX11_looksAt 151 = .ok (.iload_n 2, 1) := by decide +kernel
theorem dX11_looksAt_152 : decode cX11_looksAt 152 = .ok (.iaload, 1) := by decide +kernel
theorem dX11_looksAt_153 : decode cX11_looksAt 153 = .ok (.bipush 7, 2) := by decide +kernel
theorem dX11_looksAt_155 : decode cX11_looksAt 155 = .ok (.if_icmp .ne 41, 3) := by decide +kernel
theorem dX11_looksAt_158 : decode cX11_looksAt 158 = .ok (.aload_n 0, 1) := by decide +kernel
theorem dX11_looksAt_159 : decode cX11_looksAt 159 = .ok (.aload_n 0, 1) := by decide +kernel
theorem dX11_looksAt_160 : decode cX11_looksAt 160 = .ok (.getfield 17, 3) := by decide +kernel
theorem dX11_looksAt_163 : decode cX11_looksAt 163 = .ok (.iload_n 1, 1) := by decide +kernel
theorem dX11_looksAt_164 : decode cX11_looksAt 164 = .ok (.iaload, 1) := by decide +kernel
theorem dX11_looksAt_165 : decode cX11_looksAt 165 = .ok (.aload_n 0, 1) := by decide +kernel
theorem dX11_looksAt_166 : decode cX11_looksAt 166 = .ok (.getfield 17, 3) := by decide +kernel
theorem dX11_looksAt_169 : decode cX11_looksAt 169 = .ok (.iload_n 2, 1) := by decide +kernel
theorem dX11_looksAt_170 : decode cX11_looksAt 170 = .ok (.iaload, 1) := by decide +kernel
theorem dX11_looksAt_171 : decode cX11_looksAt 171 = .ok (.invokevirtual 504, 3) := by decide +kernel
theorem dX11_looksAt_174 : decode cX11_looksAt 174 = .ok (.ifCond .eq 22, 3) := by decide +kernel
theorem dX11_looksAt_177 : decode cX11_looksAt 177 = .ok (.aload_n 0, 1) := by decide +kernel
theorem dX11_looksAt_178 : decode cX11_looksAt 178 = .ok (.aload_n 0, 1) := by decide +kernel
theorem dX11_looksAt_179 : decode cX11_looksAt 179 = .ok (.getfield 17, 3) := by decide +kernel
theorem dX11_looksAt_182 : decode cX11_looksAt 182 = .ok (.iload_n 1, 1) := by decide +kernel
theorem dX11_looksAt_183 : decode cX11_looksAt 183 = .ok (.iaload, 1) := by decide +kernel
theorem dX11_looksAt_184 : decode cX11_looksAt 184 = .ok (.aload_n 0, 1) := by decide +kernel
theorem dX11_looksAt_185 : decode cX11_looksAt 185 = .ok (.getfield 17, 3) := by decide +kernel
theorem dX11_looksAt_188 : decode cX11_looksAt 188 = .ok (.iload_n 2, 1) := by decide +kernel
theorem dX11_looksAt_189 : decode cX11_looksAt 189 = .ok (.iaload, 1) := by decide +kernel
theorem dX11_looksAt_190 : decode cX11_looksAt 190 = .ok (.invokevirtual 527, 3) := by decide +kernel
theorem dX11_looksAt_193 : decode cX11_looksAt 193 = .ok (.goto 74, 3) := by decide +kernel
theorem dX11_looksAt_196 : decode cX11_looksAt 196 = .ok (.aload_n 0, 1) := by decide +kernel
theorem dX11_looksAt_197 : decode cX11_looksAt 197 = .ok (.getfield 13, 3) := by decide +kernel
theorem dX11_looksAt_200 : decode cX11_looksAt 200 = .ok (.iload_n 1, 1) := by decide +kernel
theorem dX11_looksAt_201 : decode cX11_looksAt 201 = .ok (.iaload, 1) := by decide +kernel
theorem dX11_looksAt_202 : decode cX11_looksAt 202 = .ok (.bipush 6, 2) := by decide +kernel
theorem dX11_looksAt_204 : decode cX11_looksAt 204 = .ok (.if_icmp .ne 49, 3) := by decide +kernel
theorem dX11_looksAt_207 : decode cX11_looksAt 207 = .ok (.aload_n 0, 1) := by decide +kernel
theorem dX11_looksAt_208 : decode cX11_looksAt 208 = .ok (.getfield 13, 3) := by decide +kernel
theorem dX11_looksAt_211 : decode cX11_looksAt 211 = .ok (.iload_n 2, 1) := by decide +kernel
theorem dX11_looksAt_212 : decode cX11_looksAt 212 = .ok (.iaload, 1) := by decide +kernel
theorem dX11_looksAt_213 : decode cX11_looksAt 213 = .ok (.bipush 6, 2) := by decide +kernel
theorem dX11_looksAt_215 : decode cX11_looksAt 215 = .ok (.if_icmp .ne 38, 3) := by decide +kernel
theorem dX11_looksAt_218 : decode cX11_looksAt 218 = .ok (.aload_n 0, 1) := by decide +kernel
theorem dX11_looksAt_219 : decode cX11_looksAt 219 = .ok (.bipush 100, 2) := by decide +kernel
theorem dX11_looksAt_221 : decode cX11_looksAt 221 = .ok (.invokevirtual 519, 3) := by decide +kernel
theorem dX11_looksAt_224 : decode cX11_looksAt 224 = .ok (.aload_n 0, 1) := by decide +kernel
theorem dX11_looksAt_225 : decode cX11_looksAt 225 = .ok (.aload_n 0, 1) := by decide +kernel
theorem dX11_looksAt_226 : decode cX11_looksAt 226 = .ok (.getfield 17, 3) := by decide +kernel
theorem dX11_looksAt_229 : decode cX11_looksAt 229 = .ok (.iload_n 1, 1) := by decide +kernel
theorem dX11_looksAt_230 : decode cX11_looksAt 230 = .ok (.iaload, 1) := by decide +kernel
theorem dX11_looksAt_231 : decode cX11_looksAt 231 = .ok (.aload_n 0, 1) := by decide +kernel
theorem dX11_looksAt_232 : decode cX11_looksAt 232 = .ok (.getfield 17, 3) := by decide +kernel
theorem dX11_looksAt_235 : decode cX11_looksAt 235 = .ok (.iload_n 2, 1) := by decide +kernel
theorem dX11_looksAt_236 : decode cX11_looksAt 236 = .ok (.iaload, 1) := by decide +kernel
theorem dX11_looksAt_237 : decode cX11_looksAt 237 = .ok (.invokevirtual 522, 3) := by decide +kernel
theorem dX11_looksAt_240 : decode cX11_looksAt 240 = .ok (.aload_n 0, 1) := by decide +kernel
theorem dX11_looksAt_241 : decode cX11_looksAt 241 = .ok (.dup, 1) := by decide +kernel
theorem dX11_looksAt_242 : decode cX11_looksAt 242 = .ok (.getfield 516, 3) := by decide +kernel
theorem dX11_looksAt_245 : decode cX11_looksAt 245 = .ok (.iconst 1, 1) := by decide +kernel
theorem dX11_looksAt_246 : decode cX11_looksAt 246 = .ok (.isub, 1) := by decide +kernel
theorem dX11_looksAt_247 : decode cX11_looksAt 247 = .ok (.putfield 516, 3) := by decide +kernel
theorem dX11_looksAt_250 : decode cX11_looksAt 250 = .ok (.goto 17, 3) := by decide +kernel
theorem dX11_looksAt_253 : decode cX11_looksAt 253 = .ok (.aload_n 0, 1) := by decide +kernel
theorem dX11_looksAt_254 : decode cX11_looksAt 254 = .ok (.iload_n 1, 1) := by decide +kernel
theorem dX11_looksAt_255 : decode cX11_looksAt 255 = .ok (.iload_n 2, 1) := by decide +kernel
theorem dX11_looksAt_256 : decode cX11_looksAt 256 = .ok (.invokevirtual 498, 3) := by decide +kernel
theorem dX11_looksAt_259 : decode cX11_looksAt 259 = .ok (.ifCond .ne 8, 3) := by decide +kernel
theorem dX11_looksAt_262 : decode cX11_looksAt 262 = .ok (.aload_n 0, 1) := by decide +kernel
theorem dX11_looksAt_263 : decode cX11_looksAt 263 = .ok (.iconst 2, 1) := by decide +kernel
theorem dX11_looksAt_264 : decode cX11_looksAt 264 = .ok (.invokevirtual 525, 3) := by decide +kernel
theorem dX11_looksAt_267 : decode cX11_looksAt 267 = .ok (.return_, 1) := by decide +kernel
theorem dX11_looksAtRecords_0 : decode cX11_looksAtRecords 0 = .ok (.aload_n 0, 1) := by decide +kernel
theorem dX11_looksAtRecords_1 : decode cX11_looksAtRecords 1 = .ok (.getfield 130, 3) := by decide +kernel
theorem dX11_looksAtRecords_4 : decode cX11_looksAtRecords 4 = .ok (.bipush 6, 2) := by decide +kernel
theorem dX11_looksAtRecords_6 : decode cX11_looksAtRecords 6 = .ok (.iload_n 1, 1) := by decide +kernel
theorem dX11_looksAtRecords_7 : decode cX11_looksAtRecords 7 = .ok (.imul, 1) := by decide +kernel
theorem dX11_looksAtRecords_8 : decode cX11_looksAtRecords 8 = .ok (.iload_n 2, 1) := by decide +kernel
theorem dX11_looksAtRecords_9 : decode cX11_looksAtRecords 9 = .ok (.iadd, 1) := by decide +kernel
theorem dX11_looksAtRecords_10 : decode cX11_looksAtRecords 10 = .ok (.baload, 1) := by decide +kernel
theorem dX11_looksAtRecords_11 : decode cX11_looksAtRecords 11 = .ok (.ifCond .eq 4, 3) := by decide +kernel
theorem dX11_looksAtRecords_14 : decode cX11_looksAtRecords 14 = .ok (.return_, 1) := by decide +kernel
theorem dX11_looksAtRecords_15 : decode cX11_looksAtRecords 15 = .ok (.aload_n 0, 1) := by decide +kernel
theorem dX11_looksAtRecords_16 : decode cX11_looksAtRecords 16 = .ok (.getfield 130, 3) := by decide +kernel
theorem dX11_looksAtRecords_19 : decode cX11_looksAtRecords 19 = .ok (.bipush 6, 2) := by decide +kernel
theorem dX11_looksAtRecords_21 : decode cX11_looksAtRecords 21 = .ok (.iload_n 1, 1) := by decide +kernel
theorem dX11_looksAtRecords_22 : decode cX11_looksAtRecords 22 = .ok (.imul, 1) := by decide +kernel
theorem dX11_looksAtRecords_23 : decode cX11_looksAtRecords 23 = .ok (.iload_n 2, 1) := by decide +kernel
theorem dX11_looksAtRecords_24 : decode cX11_looksAtRecords 24 = .ok (.iadd, 1) := by decide +kernel
theorem dX11_looksAtRecords_25 : decode cX11_looksAtRecords 25 = .ok (.iconst 1, 1) := by decide +kernel
theorem dX11_looksAtRecords_26 : decode cX11_looksAtRecords 26 = .ok (.bastore, 1) := by decide +kernel
theorem dX11_looksAtRecords_27 : decode cX11_looksAtRecords 27 = .ok (.bipush 6, 2) := by decide +kernel
theorem dX11_looksAtRecords_29 : decode cX11_looksAtRecords 29 = .ok (.aload_n 0, 1) := by decide +kernel
theorem dX11_looksAtRecords_30 : decode cX11_looksAtRecords 30 = .ok (.getfield 495, 3) := by decide +kernel
theorem dX11_looksAtRecords_33 : decode cX11_looksAtRecords 33 = .ok (.imul, 1) := by decide +kernel
theorem dX11_looksAtRecords_34 : decode cX11_looksAtRecords 34 = .ok (.iload_n 2, 1) := by decide +kernel
theorem dX11_looksAtRecords_35 : decode cX11_looksAtRecords 35 = .ok (.iadd, 1) := by decide +kernel
theorem dX11_looksAtRecords_36 : decode cX11_looksAtRecords 36 = .ok (.istore_n 3, 1) := by decide +kernel
theorem dX11_looksAtRecords_37 : decode cX11_looksAtRecords 37 = .ok (.iconst 0, 1) := by decide +kernel
theorem dX11_looksAtRecords_38 : decode cX11_looksAtRecords 38 = .ok (.istore 4, 2) := by decide +kernel
theorem dX11_looksAtRecords_40 : decode cX11_looksAtRecords 40 = .ok (.iload 4, 2) := by decide +kernel
theorem dX11_looksAtRecords_42 : decode cX11_looksAtRecords 42 = .ok (.aload_n 0, 1) := by decide +kernel
theorem dX11_looksAtRecords_43 : decode cX11_looksAtRecords 43 = .ok (.getfield 42, 3) := by decide +kernel
theorem dX11_looksAtRecords_46 : decode cX11_looksAtRecords 46 = .ok (.iload_n 3, 1) := by decide +kernel
theorem dX11_looksAtRecords_47 : decode cX11_looksAtRecords 47 = .ok (.iaload, 1) := by decide +kernel
theorem dX11_looksAtRecords_48 : decode cX11_looksAtRecords 48 = .ok (.if_icmp .ge 84, 3) := by decide +kernel
theorem dX11_looksAtRecords_51 : decode cX11_looksAtRecords 51 = .ok (.bipush 8, 2) := by decide +kernel
theorem dX11_looksAtRecords_53 : decode cX11_looksAtRecords 53 = .ok (.iload_n 3, 1) := by decide +kernel
theorem dX11_looksAtRecords_54 : decode cX11_looksAtRecords 54 = .ok (.imul, 1) := by decide +kernel
theorem dX11_looksAtRecords_55 : decode cX11_looksAtRecords 55 = .ok (.iload 4, 2) := by decide +kernel
theorem dX11_looksAtRecords_57 : decode cX11_looksAtRecords 57 = .ok (.iadd, 1) := by decide +kernel
theorem dX11_looksAtRecords_58 : decode cX11_looksAtRecords 58 = .ok (.istore 5, 2) := by decide +kernel
theorem dX11_looksAtRecords_60 : decode cX11_looksAtRecords 60 = .ok (.aload_n 0, 1) := by decide +kernel
theorem dX11_looksAtRecords_61 : decode cX11_looksAtRecords 61 = .ok (.iload_n 1, 1) := by decide +kernel
theorem dX11_looksAtRecords_62 : decode cX11_looksAtRecords 62 = .ok (.iload 5, 2) := by decide +kernel
theorem dX11_looksAtRecords_64 : decode cX11_looksAtRecords 64 = .ok (.invokevirtual 507, 3) := by decide +kernel
theorem dX11_looksAtRecords_67 : decode cX11_looksAtRecords 67 = .ok (.istore 6, 2) := by decide +kernel
theorem dX11_looksAtRecords_69 : decode cX11_looksAtRecords 69 = .ok (.aload_n 0, 1) := by decide +kernel
theorem dX11_looksAtRecords_70 : decode cX11_looksAtRecords 70 = .ok (.iload 4, 2) := by decide +kernel
theorem dX11_looksAtRecords_72 : decode cX11_looksAtRecords 72 = .ok (.invokevirtual 519, 3) := by decide +kernel
theorem dX11_looksAtRecords_75 : decode cX11_looksAtRecords 75 = .ok (.iload 6, 2) := by decide +kernel
theorem dX11_looksAtRecords_77 : decode cX11_looksAtRecords 77 = .ok (.ifCond .lt 24, 3) := by decide +kernel
theorem dX11_looksAtRecords_80 : decode cX11_looksAtRecords 80 = .ok (.aload_n 0, 1) := by decide +kernel
theorem dX11_looksAtRecords_81 : decode cX11_looksAtRecords 81 = .ok (.aload_n 0, 1) := by decide +kernel
theorem dX11_looksAtRecords_82 : decode cX11_looksAtRecords 82 = .ok (.getfield 54, 3) := by decide +kernel
theorem dX11_looksAtRecords_85 : decode cX11_looksAtRecords 85 = .ok (.iload 6, 2) := by decide +kernel
theorem dX11_looksAtRecords_87 : decode cX11_looksAtRecords 87 = .ok (.iaload, 1) := by decide +kernel
theorem dX11_looksAtRecords_88 : decode cX11_looksAtRecords 88 = .ok (.aload_n 0, 1) := by decide +kernel
theorem dX11_looksAtRecords_89 : decode cX11_looksAtRecords 89 = .ok (.getfield 54, 3) := by decide +kernel
theorem dX11_looksAtRecords_92 : decode cX11_looksAtRecords 92 = .ok (.iload 5, 2) := by decide +kernel
theorem dX11_looksAtRecords_94 : decode cX11_looksAtRecords 94 = .ok (.iaload, 1) := by decide +kernel
theorem dX11_looksAtRecords_95 : decode cX11_looksAtRecords 95 = .ok (.invokevirtual 522, 3) := by decide +kernel
theorem dX11_looksAtRecords_98 : decode cX11_looksAtRecords 98 = .ok (.goto 18, 3) := by decide +kernel
theorem dX11_looksAtRecords_101 : decode cX11_looksAtRecords 101 = .ok (.aload_n 0, 1) := by decide +kernel
theorem dX11_looksAtRecords_102 : decode cX11_looksAtRecords 102 = .ok (.getfield 57, 3) := by decide +kernel
theorem dX11_looksAtRecords_105 : decode cX11_looksAtRecords 105 = .ok (.iload 5, 2) := by decide +kernel
theorem dX11_looksAtRecords_107 : decode cX11_looksAtRecords 107 = .ok (.baload, 1) := by decide +kernel
theorem dX11_looksAtRecords_108 : decode cX11_looksAtRecords 108 = .ok (.ifCond .ne 8, 3) := by decide +kernel
theorem dX11_looksAtRecords_111 : decode cX11_looksAtRecords 111 = .ok (.aload_n 0, 1) := by decide +kernel
theorem dX11_looksAtRecords_112 : decode cX11_looksAtRecords 112 = .ok (.iconst 1, 1) := by decide +kernel
theorem dX11_looksAtRecords_113 : decode cX11_looksAtRecords 113 = .ok (.invokevirtual 525, 3) := by decide +kernel
theorem dX11_looksAtRecords_116 : decode cX11_looksAtRecords 116 = .ok (.aload_n 0, 1) := by decide +kernel
theorem dX11_looksAtRecords_117 : decode cX11_looksAtRecords 117 = .ok (.dup, 1) := by decide +kernel
theorem dX11_looksAtRecords_118 : decode cX11_looksAtRecords 118 = .ok (.getfield 516, 3) := by decide +kernel
theorem dX11_looksAtRecords_121 : decode cX11_looksAtRecords 121 = .ok (.iconst 1, 1) := by decide +kernel
theorem dX11_looksAtRecords_122 : decode cX11_looksAtRecords 122 = .ok (.isub, 1) := by decide +kernel
theorem dX11_looksAtRecords_123 : decode cX11_looksAtRecords 123 = .ok (.putfield 516, 3) := by decide +kernel
theorem dX11_looksAtRecords_126 : decode cX11_looksAtRecords 126 = .ok (.iinc 4 1, 3) := by decide +kernel
theorem dX11_looksAtRecords_129 : decode cX11_looksAtRecords 129 = .ok (.goto (-89), 3) := by decide +kernel
theorem dX11_looksAtRecords_132 : decode cX11_looksAtRecords 132 = .ok (.return_, 1) := by decide +kernel
theorem dX11_matches_0 : decode cX11_matches 0 = .ok (.aload_n 0, 1) := by decide +kernel
theorem dX11_matches_1 : decode cX11_matches 1 = .ok (.iconst 0, 1) := by decide +kernel
theorem dX11_matches_2 : decode cX11_matches 2 = .ok (.putfield 178, 3) := by decide +kernel
theorem dX11_matches_5 : decode cX11_matches 5 = .ok (.aload_n 0, 1) := by decide +kernel
theorem dX11_matches_6 : decode cX11_matches 6 = .ok (.iload_n 1, 1) := by decide +kernel
theorem dX11_matches_7 : decode cX11_matches 7 = .ok (.invokevirtual 407, 3) := by decide +kernel
theorem dX11_matches_10 : decode cX11_matches 10 = .ok (.ifCond .eq 20, 3) := by decide +kernel
theorem dX11_matches_13 : decode cX11_matches 13 = .ok (.aload_n 0, 1) := by decide +kernel
theorem dX11_matches_14 : decode cX11_matches 14 = .ok (.iload_n 2, 1) := by decide +kernel
theorem dX11_matches_15 : decode cX11_matches 15 = .ok (.invokevirtual 407, 3) := by decide +kernel
theorem dX11_matches_18 : decode cX11_matches 18 = .ok (.ifCond .eq 12, 3) := by decide +kernel
theorem dX11_matches_21 : decode cX11_matches 21 = .ok (.aload_n 0, 1) := by decide +kernel
theorem dX11_matches_22 : decode cX11_matches 22 = .ok (.iload_n 1, 1) := by decide +kernel
theorem dX11_matches_23 : decode cX11_matches 23 = .ok (.iload_n 2, 1) := by decide +kernel
theorem dX11_matches_24 : decode cX11_matches 24 = .ok (.invokevirtual 536, 3) := by decide +kernel
theorem dX11_matches_27 : decode cX11_matches 27 = .ok (.goto 4, 3) := by decide +kernel
theorem dX11_matches_30 : decode cX11_matches 30 = .ok (.iconst (-1), 1) := by decide +kernel
theorem dX11_matches_31 : decode cX11_matches 31 = .ok (.ireturn, 1) := by decide +kernel
theorem dX11_message_0 : decode cX11_message 0 = .ok (.aload_n 0, 1) := by decide +kernel
theorem dX11_message_1 : decode cX11_message 1 = .ok (.iconst 0, 1) := by decide +kernel
theorem dX11_message_2 : decode cX11_message 2 = .ok (.putfield 178, 3) := by decide +kernel
theorem dX11_message_5 : decode cX11_message 5 = .ok (.aload_n 0, 1) := by decide +kernel
theorem dX11_message_6 : decode cX11_message 6 = .ok (.iload_n 1, 1) := by decide +kernel
theorem dX11_message_7 : decode cX11_message 7 = .ok (.invokevirtual 486, 3) := by decide +kernel
theorem dX11_message_10 : decode cX11_message 10 = .ok (.ifCond .eq 35, 3) := by decide +kernel
theorem dX11_message_13 : decode cX11_message 13 = .ok (.iload_n 2, 1) := by decide +kernel
theorem dX11_message_14 : decode cX11_message 14 = .ok (.i2l, 1) := by decide +kernel
theorem dX11_message_15 : decode cX11_message 15 = .ok (.lconst 0, 1) := by decide +kernel
theorem dX11_message_16 : decode cX11_message 16 = .ok (.lconst 1, 1) := by decide +kernel
theorem dX11_message_17 : decode cX11_message 17 = .ok (.invokestatic 196, 3) := by decide +kernel
theorem dX11_message_20 : decode cX11_message 20 = .ok (.ifCond .eq 25, 3) := by decide +kernel
theorem dX11_message_23 : decode cX11_message 23 = .ok (.iload_n 2, 1) := by decide +kernel
theorem dX11_message_24 : decode cX11_message 24 = .ok (.ifCond .ne 12, 3) := by decide +kernel
theorem dX11_message_27 : decode cX11_message 27 = .ok (.aload_n 0, 1) := by decide +kernel
theorem dX11_message_28 : decode cX11_message 28 = .ok (.getfield 109, 3) := by decide +kernel
theorem dX11_message_31 : decode cX11_message 31 = .ok (.iload_n 1, 1) := by decide +kernel
theorem dX11_message_32 : decode cX11_message 32 = .ok (.iaload, 1) := by decide +kernel
theorem dX11_message_33 : decode cX11_message 33 = .ok (.goto 13, 3) := by decide +kernel
theorem dX11_message_36 : decode cX11_message 36 = .ok (.aload_n 0, 1) := by decide +kernel
theorem dX11_message_37 : decode cX11_message 37 = .ok (.getfield 106, 3) := by decide +kernel
theorem dX11_message_40 : decode cX11_message 40 = .ok (.iload_n 1, 1) := by decide +kernel
theorem dX11_message_41 : decode cX11_message 41 = .ok (.iaload, 1) := by decide +kernel
theorem dX11_message_42 : decode cX11_message 42 = .ok (.goto 4, 3) := by decide +kernel
theorem dX11_message_45 : decode cX11_message 45 = .ok (.iconst (-1), 1) := by decide +kernel
theorem dX11_message_46 : decode cX11_message 46 = .ok (.ireturn, 1) := by decide +kernel
theorem dX11_miss_0 : decode cX11_miss 0 = .ok (.aload_n 0, 1) := by decide +kernel
theorem dX11_miss_1 : decode cX11_miss 1 = .ok (.iconst 0, 1) := by decide +kernel
theorem dX11_miss_2 : decode cX11_miss 2 = .ok (.putfield 178, 3) := by decide +kernel
theorem dX11_miss_5 : decode cX11_miss 5 = .ok (.aload_n 0, 1) := by decide +kernel
theorem dX11_miss_6 : decode cX11_miss 6 = .ok (.iload_n 1, 1) := by decide +kernel
theorem dX11_miss_7 : decode cX11_miss 7 = .ok (.invokevirtual 407, 3) := by decide +kernel
theorem dX11_miss_10 : decode cX11_miss 10 = .ok (.ifCond .eq 22, 3) := by decide +kernel
theorem dX11_miss_13 : decode cX11_miss 13 = .ok (.aload_n 0, 1) := by decide +kernel
theorem dX11_miss_14 : decode cX11_miss 14 = .ok (.iload_n 2, 1) := by decide +kernel
theorem dX11_miss_15 : decode cX11_miss 15 = .ok (.invokevirtual 407, 3) := by decide +kernel
theorem dX11_miss_18 : decode cX11_miss 18 = .ok (.ifCond .eq 14, 3) := by decide +kernel
theorem dX11_miss_21 : decode cX11_miss 21 = .ok (.iload 4, 2) := by decide +kernel
theorem dX11_miss_23 : decode cX11_miss 23 = .ok (.i2l, 1) := by decide +kernel
theorem dX11_miss_24 : decode cX11_miss 24 = .ok (.lconst 0, 1) := by decide +kernel
theorem dX11_miss_25 : decode cX11_miss 25 = .ok (.lconst 1, 1) := by decide +kernel
theorem dX11_miss_26 : decode cX11_miss 26 = .ok (.invokestatic 196, 3) := by decide +kernel
theorem dX11_miss_29 : decode cX11_miss 29 = .ok (.ifCond .ne 5, 3) := by decide +kernel
theorem dX11_miss_32 : decode cX11_miss 32 = .ok (.iconst (-1), 1) := by decide +kernel
theorem dX11_miss_33 : decode cX11_miss 33 = .ok (.ireturn, 1) := by decide +kernel
theorem dX11_miss_34 : decode cX11_miss 34 = .ok (.aload_n 0, 1) := by decide +kernel
theorem dX11_miss_35 : decode cX11_miss 35 = .ok (.iload_n 1, 1) := by decide +kernel
theorem dX11_miss_36 : decode cX11_miss 36 = .ok (.iload_n 2, 1) := by decide +kernel
theorem dX11_miss_37 : decode cX11_miss 37 = .ok (.invokevirtual 533, 3) := by decide +kernel
theorem dX11_miss_40 : decode cX11_miss 40 = .ok (.iload_n 3, 1) := by decide +kernel
theorem dX11_miss_41 : decode cX11_miss 41 = .ok (.iconst (-1), 1) := by decide +kernel
theorem dX11_miss_42 : decode cX11_miss 42 = .ok (.if_icmp .ne 10, 3) := by decide +kernel
theorem dX11_miss_45 : decode cX11_miss 45 = .ok (.aload_n 0, 1) := by decide +kernel
theorem dX11_miss_46 : decode cX11_miss 46 = .ok (.getfield 513, 3) := by decide +kernel
theorem dX11_miss_49 : decode cX11_miss 49 = .ok (.goto 43, 3) := by decide +kernel
theorem dX11_miss_52 : decode cX11_miss 52 = .ok (.iload_n 3, 1) := by decide +kernel
theorem dX11_miss_53 : decode cX11_miss 53 = .ok (.i2l, 1) := by decide +kernel
theorem dX11_miss_54 : decode cX11_miss 54 = .ok (.lconst 0, 1) := by decide +kernel
theorem dX11_miss_55 : decode cX11_miss 55 = .ok (.aload_n 0, 1) := by decide +kernel
theorem dX11_miss_56 : decode cX11_miss 56 = .ok (.getfield 513, 3) := by decide +kernel
theorem dX11_miss_59 : decode cX11_miss 59 = .ok (.iconst 1, 1) := by decide +kernel
theorem dX11_miss_60 : decode cX11_miss 60 = .ok (.isub, 1) := by decide +kernel
theorem dX11_miss_61 : decode cX11_miss 61 = .ok (.i2l, 1) := by decide +kernel
theorem dX11_miss_62 : decode cX11_miss 62 = .ok (.invokestatic 196, 3) := by decide +kernel
theorem dX11_miss_65 : decode cX11_miss 65 = .ok (.ifCond .ne 7, 3) := by decide +kernel
theorem dX11_miss_68 : decode cX11_miss 68 = .ok (.iconst (-1), 1) := by decide +kernel
theorem dX11_miss_69 : decode cX11_miss 69 = .ok (.goto 23, 3) := by decide +kernel
theorem dX11_miss_72 : decode cX11_miss 72 = .ok (.iload 4, 2) := by decide +kernel
theorem dX11_miss_74 : decode cX11_miss 74 = .ok (.ifCond .ne 12, 3) := by decide +kernel
theorem dX11_miss_77 : decode cX11_miss 77 = .ok (.aload_n 0, 1) := by decide +kernel
theorem dX11_miss_78 : decode cX11_miss 78 = .ok (.getfield 121, 3) := by decide +kernel
theorem dX11_miss_81 : decode cX11_miss 81 = .ok (.iload_n 3, 1) := by decide +kernel
theorem dX11_miss_82 : decode cX11_miss 82 = .ok (.iaload, 1) := by decide +kernel
theorem dX11_miss_83 : decode cX11_miss 83 = .ok (.goto 9, 3) := by decide +kernel
theorem dX11_miss_86 : decode cX11_miss 86 = .ok (.aload_n 0, 1) := by decide +kernel
theorem dX11_miss_87 : decode cX11_miss 87 = .ok (.getfield 124, 3) := by decide +kernel
theorem dX11_miss_90 : decode cX11_miss 90 = .ok (.iload_n 3, 1) := by decide +kernel
theorem dX11_miss_91 : decode cX11_miss 91 = .ok (.iaload, 1) := by decide +kernel
theorem dX11_miss_92 : decode cX11_miss 92 = .ok (.ireturn, 1) := by decide +kernel
theorem dX11_missStep_0 : decode cX11_missStep 0 = .ok (.aload_n 0, 1) := by decide +kernel
theorem dX11_missStep_1 : decode cX11_missStep 1 = .ok (.iconst 0, 1) := by decide +kernel
theorem dX11_missStep_2 : decode cX11_missStep 2 = .ok (.putfield 178, 3) := by decide +kernel
theorem dX11_missStep_5 : decode cX11_missStep 5 = .ok (.aload_n 0, 1) := by decide +kernel
theorem dX11_missStep_6 : decode cX11_missStep 6 = .ok (.iload_n 1, 1) := by decide +kernel
theorem dX11_missStep_7 : decode cX11_missStep 7 = .ok (.invokevirtual 407, 3) := by decide +kernel
theorem dX11_missStep_10 : decode cX11_missStep 10 = .ok (.ifCond .eq 11, 3) := by decide +kernel
theorem dX11_missStep_13 : decode cX11_missStep 13 = .ok (.aload_n 0, 1) := by decide +kernel
theorem dX11_missStep_14 : decode cX11_missStep 14 = .ok (.iload_n 2, 1) := by decide +kernel
theorem dX11_missStep_15 : decode cX11_missStep 15 = .ok (.invokevirtual 407, 3) := by decide +kernel
theorem dX11_missStep_18 : decode cX11_missStep 18 = .ok (.ifCond .ne 5, 3) := by decide +kernel
theorem dX11_missStep_21 : decode cX11_missStep 21 = .ok (.iconst (-1), 1) := by decide +kernel
theorem dX11_missStep_22 : decode cX11_missStep 22 = .ok (.ireturn, 1) := by decide +kernel
theorem dX11_missStep_23 : decode cX11_missStep 23 = .ok (.aload_n 0, 1) := by decide +kernel
theorem dX11_missStep_24 : decode cX11_missStep 24 = .ok (.iload_n 1, 1) := by decide +kernel
theorem dX11_missStep_25 : decode cX11_missStep 25 = .ok (.iload_n 2, 1) := by decide +kernel
theorem dX11_missStep_26 : decode cX11_missStep 26 = .ok (.invokevirtual 533, 3) := by decide +kernel
theorem dX11_missStep_29 : decode cX11_missStep 29 = .ok (.iload_n 3, 1) := by decide +kernel
theorem dX11_missStep_30 : decode cX11_missStep 30 = .ok (.i2l, 1) := by decide +kernel
theorem dX11_missStep_31 : decode cX11_missStep 31 = .ok (.lconst 0, 1) := by decide +kernel
theorem dX11_missStep_32 : decode cX11_missStep 32 = .ok (.aload_n 0, 1) := by decide +kernel
theorem dX11_missStep_33 : decode cX11_missStep 33 = .ok (.getfield 513, 3) := by decide +kernel
theorem dX11_missStep_36 : decode cX11_missStep 36 = .ok (.iconst 1, 1) := by decide +kernel
theorem dX11_missStep_37 : decode cX11_missStep 37 = .ok (.isub, 1) := by decide +kernel
theorem dX11_missStep_38 : decode cX11_missStep 38 = .ok (.i2l, 1) := by decide +kernel
theorem dX11_missStep_39 : decode cX11_missStep 39 = .ok (.invokestatic 196, 3) := by decide +kernel
theorem dX11_missStep_42 : decode cX11_missStep 42 = .ok (.ifCond .eq 38, 3) := by decide +kernel
theorem dX11_missStep_45 : decode cX11_missStep 45 = .ok (.iload 4, 2) := by decide +kernel
theorem dX11_missStep_47 : decode cX11_missStep 47 = .ok (.i2l, 1) := by decide +kernel
theorem dX11_missStep_48 : decode cX11_missStep 48 = .ok (.lconst 0, 1) := by decide +kernel
theorem dX11_missStep_49 : decode cX11_missStep 49 = .ok (.aload_n 0, 1) := by decide +kernel
theorem dX11_missStep_50 : decode cX11_missStep 50 = .ok (.getfield 124, 3) := by decide +kernel
theorem dX11_missStep_53 : decode cX11_missStep 53 = .ok (.iload_n 3, 1) := by decide +kernel
theorem dX11_missStep_54 : decode cX11_missStep 54 = .ok (.iaload, 1) := by decide +kernel
theorem dX11_missStep_55 : decode cX11_missStep 55 = .ok (.iconst 1, 1) := by decide +kernel
theorem dX11_missStep_56 : decode cX11_missStep 56 = .ok (.isub, 1) := by decide +kernel
theorem dX11_missStep_57 : decode cX11_missStep 57 = .ok (.i2l, 1) := by decide +kernel
theorem dX11_missStep_58 : decode cX11_missStep 58 = .ok (.invokestatic 196, 3) := by decide +kernel
theorem dX11_missStep_61 : decode cX11_missStep 61 = .ok (.ifCond .eq 19, 3) := by decide +kernel
theorem dX11_missStep_64 : decode cX11_missStep 64 = .ok (.aload_n 0, 1) := by decide +kernel
theorem dX11_missStep_65 : decode cX11_missStep 65 = .ok (.getfield 127, 3) := by decide +kernel
theorem dX11_missStep_68 : decode cX11_missStep 68 = .ok (.sipush 256, 3) := by decide +kernel
theorem dX11_missStep_71 : decode cX11_missStep 71 = .ok (.iload_n 3, 1) := by decide +kernel
theorem dX11_missStep_72 : decode cX11_missStep 72 = .ok (.imul, 1) := by decide +kernel
theorem dX11_missStep_73 : decode cX11_missStep 73 = .ok (.iload 4, 2) := by decide +kernel
theorem dX11_missStep_75 : decode cX11_missStep 75 = .ok (.iadd, 1) := by decide +kernel
theorem dX11_missStep_76 : decode cX11_missStep 76 = .ok (.iaload, 1) := by decide +kernel
theorem dX11_missStep_77 : decode cX11_missStep 77 = .ok (.goto 4, 3) := by decide +kernel
theorem dX11_missStep_80 : decode cX11_missStep 80 = .ok (.iconst (-1), 1) := by decide +kernel
theorem dX11_missStep_81 : decode cX11_missStep 81 = .ok (.ireturn, 1) := by decide +kernel
theorem dX11_verdict_0 : decode cX11_verdict 0 = .ok (.aload_n 0, 1) := by decide +kernel
theorem dX11_verdict_1 : decode cX11_verdict 1 = .ok (.iload_n 1, 1) := by decide +kernel
theorem dX11_verdict_2 : decode cX11_verdict 2 = .ok (.iload_n 2, 1) := by decide +kernel
theorem dX11_verdict_3 : decode cX11_verdict 3 = .ok (.invokevirtual 533, 3) := by decide +kernel
theorem dX11_verdict_6 : decode cX11_verdict 6 = .ok (.aload_n 0, 1) := by decide +kernel
theorem dX11_verdict_7 : decode cX11_verdict 7 = .ok (.getfield 115, 3) := by decide +kernel
theorem dX11_verdict_10 : decode cX11_verdict 10 = .ok (.iconst 0, 1) := by decide +kernel
theorem dX11_verdict_11 : decode cX11_verdict 11 = .ok (.baload, 1) := by decide +kernel
theorem dX11_verdict_12 : decode cX11_verdict 12 = .ok (.ifCond .ne 7, 3) := by decide +kernel
theorem dX11_verdict_15 : decode cX11_verdict 15 = .ok (.iconst 2, 1) := by decide +kernel
theorem dX11_verdict_16 : decode cX11_verdict 16 = .ok (.goto 15, 3) := by decide +kernel
theorem dX11_verdict_19 : decode cX11_verdict 19 = .ok (.aload_n 0, 1) := by decide +kernel
theorem dX11_verdict_20 : decode cX11_verdict 20 = .ok (.getfield 513, 3) := by decide +kernel
theorem dX11_verdict_23 : decode cX11_verdict 23 = .ok (.ifCond .le 7, 3) := by decide +kernel
theorem dX11_verdict_26 : decode cX11_verdict 26 = .ok (.iconst 1, 1) := by decide +kernel
theorem dX11_verdict_27 : decode cX11_verdict 27 = .ok (.goto 4, 3) := by decide +kernel
theorem dX11_verdict_30 : decode cX11_verdict 30 = .ok (.iconst 0, 1) := by decide +kernel
theorem dX11_verdict_31 : decode cX11_verdict 31 = .ok (.ireturn, 1) := by decide +kernel
def f_X11_misses_35  : Nat → Int32 → ST → Option (ST)
  | 0, _, _ => none
  | n + 1, x2, σ => if (σ.1 0 57) ≤ x2 then (some (stI σ 0 61 ((σ.1 0 61) + 1))) else (if 0 ≤ x2.toInt ∧ x2.toInt < 256 then (if 0 ≤ ((256 * (σ.1 0 61)) + x2).toInt ∧ ((256 * (σ.1 0 61)) + x2).toInt < 5120 then (f_X11_misses_35  n (x2 + 1) (stI σ 39 ((256 * (σ.1 0 61)) + x2).toNatClampNeg (σ.1 36 x2.toNatClampNeg))) else none) else none)
def f_X11_misses (p0 : Int32) (σ : ST) : Option (ST) := if (σ.1 0 61) = 20 then (some σ) else (if 0 ≤ (σ.1 0 61).toInt ∧ (σ.1 0 61).toInt < 20 then (if 0 ≤ ((stI σ 37 (σ.1 0 61).toNatClampNeg p0).1 0 61).toInt ∧ ((stI σ 37 (σ.1 0 61).toNatClampNeg p0).1 0 61).toInt < 20 then ((some (stI (stI σ 37 (σ.1 0 61).toNatClampNeg p0) 38 ((stI σ 37 (σ.1 0 61).toNatClampNeg p0).1 0 61).toNatClampNeg ((stI σ 37 (σ.1 0 61).toNatClampNeg p0).1 0 57))).bind fun z3 => f_X11_misses_35  FU 0 z3) else none) else none)

set_option maxRecDepth 100000 in
set_option maxHeartbeats 4000000 in
theorem b_X11_misses_35 {p : Program} {l : Launch} {e : Env} {s : State} {m : MethodId} {args : Array Value} {below : List Frame} {meth : Method} {c : Code} {dC : Nat → ClassId} {dI : Nat → Nat → Nat} {a : Nat → Nat} {k : Nat → ClassId} {A : Nat → Prop} {q : ST} (hC : CxB p s m args meth c dC dI k A cX11_misses RX11 none 3)   : ∀ (n : Nat) (x2 : Int32) (σ : ST), f_X11_misses_35  n x2 σ = some q → GoB p l e ({ frames := 0, cells := 0, slots := 0, locals := 0 } : Room) s m args below meth c (MQ below (qBv dC dI a k A q) args s 0 0 A) dC dI a k A 3 35 σ [(0, .ref (a 0)), (2, .int x2)] [] := by
  intro n
  induction n with
  | zero =>
    intro x2 σ h
    rw [f_X11_misses_35] at h
    cases h
  | succ n ih =>
    intro x2 σ h
    have hC0 := hC
    obtain ⟨hx, hb, hr, hml, hown, hts, hlocks, hA, hN, hK⟩ := hC0
    intro H locs ls hP hD hS hl
    have hD0 : ∀ σ1 : ST, va_D A (wB a k σ1) := fun σ1 => wB_D hD
    rw [f_X11_misses_35] at h
    refine lv_iload_n hx hb dX11_misses_35 rfl (lv_at hl 1 rfl) ?_
    refine lv_aload_n hx hb dX11_misses_36 rfl (lv_at hl 0 rfl) ?_
    refine va_get (D := (dC, dI)) (ci := 11) (C := RX11) (T := TX11) (N := 95) hx hb hts inlX11 hown hK hP 0 gB_0 rfl 57 (by decide) (hts (.fieldLink RX11 516 "ShapeReaderModel" "steps" "I") mw_36_18) (fun _ h9 => h9) rfl dX11_misses_37 ?_
    refine lv_icmp_ge (tgt := 70) hx hb dX11_misses_40 (by decide) (fun hc => ?_) (fun hc => ?_)
    · replace h := ip hc h
      refine lv_aload_n hx hb dX11_misses_70 rfl (lv_at hl 0 rfl) ?_
      refine lv_dup hx hb dX11_misses_71 rfl ?_
      refine va_get (D := (dC, dI)) (ci := 11) (C := RX11) (T := TX11) (N := 95) hx hb hts inlX11 hown hK hP 0 gB_0 rfl 61 (by decide) (hts (.fieldLink RX11 513 "ShapeReaderModel" "misses" "I") mw_36_17) (fun _ h9 => h9) rfl dX11_misses_72 ?_
      refine lv_iconst (v := 1) hx hb dX11_misses_75 (by decide) ?_
      refine lv_iadd hx hb dX11_misses_76 ?_
      refine va_put (D := (dC, dI)) (ci := 11) (ty := .int) (C := RX11) (T := TX11) (N := 95) hx hb hts inlX11 tyX11 tyX11_ok nmX11 hown hK hP hD hS 0 gB_0 rfl 61 (by decide) (hts (.fieldLink RX11 513 "ShapeReaderModel" "misses" "I") mw_36_17) (fun _ h9 => h9) rfl (by decide +kernel) rfl rfl (Nat.le_of_ble_eq_true rfl) dX11_misses_77 (fun H locs hP hD hS => ?_)
      replace hP := uB_0_61 hP
      replace hD := hD0 ((stI σ 0 61 ((σ.1 0 61) + 1)))
      obtain rfl := Option.some.inj h
      exact W.vret hx hb hr (fun t ht hW => ⟨⟨(), rfl, trivial, ⟨by rw [ht]; exact hP, va_K.moved hW.alike hK, hD⟩⟩, hS.F ht⟩) hS.2.2 dX11_misses_80
    · replace h := iq hc h
      refine lv_aload_n hx hb dX11_misses_43 rfl (lv_at hl 0 rfl) ?_
      refine va_get (D := (dC, dI)) (ci := 11) (C := RX11) (T := TX11) (N := 95) hx hb hts inlX11 hown hK hP 0 gB_0 rfl 60 (by decide) (hts (.fieldLink RX11 127 "ShapeReaderModel" "missPath" "[I") mw_28_5) (fun _ h9 => h9) rfl dX11_misses_44 ?_
      refine lv_sipush (v := 256) hx hb dX11_misses_47 (by decide) ?_
      refine lv_aload_n hx hb dX11_misses_50 rfl (lv_at hl 0 rfl) ?_
      refine va_get (D := (dC, dI)) (ci := 11) (C := RX11) (T := TX11) (N := 95) hx hb hts inlX11 hown hK hP 0 gB_0 rfl 61 (by decide) (hts (.fieldLink RX11 513 "ShapeReaderModel" "misses" "I") mw_36_17) (fun _ h9 => h9) rfl dX11_misses_51 ?_
      refine lv_imul hx hb dX11_misses_54 ?_
      refine lv_iload_n hx hb dX11_misses_55 rfl (lv_at hl 1 rfl) ?_
      refine lv_iadd hx hb dX11_misses_56 ?_
      refine lv_aload_n hx hb dX11_misses_57 rfl (lv_at hl 0 rfl) ?_
      refine va_get (D := (dC, dI)) (ci := 11) (C := RX11) (T := TX11) (N := 95) hx hb hts inlX11 hown hK hP 0 gB_0 rfl 56 (by decide) (hts (.fieldLink RX11 118 "ShapeReaderModel" "step" "[I") mw_28_2) (fun _ h9 => h9) rfl dX11_misses_58 ?_
      refine lv_iload_n hx hb dX11_misses_61 rfl (lv_at hl 1 rfl) ?_
      obtain ⟨hg1, h⟩ := ig h
      refine va_iald hx hb hK hP 36 35 gB_36 yB_36 (vp_in_iff.mpr hg1) dX11_misses_62 ?_
      obtain ⟨hg2, h⟩ := ig h
      refine va_iast hx hb hK hP hD hS 39 38 gB_39 yB_39 (vp_in_iff.mpr hg2) dX11_misses_63 (fun H locs hP hD hS => ?_)
      replace hP := uB_39 hP
      replace hD := hD0 ((stI σ 39 ((256 * (σ.1 0 61)) + x2).toNatClampNeg (σ.1 36 x2.toNatClampNeg)))
      refine lv_iinc (v := (x2 + 1)) (lv' := [(2, .int (x2 + 1)), (0, .ref (a 0))]) hx hb dX11_misses_64 hl (k := 1) rfl rfl (by decide) rfl (fun ls hl => ?_)
      refine lv_goto (tgt := 35) hx hb dX11_misses_67 (by decide) ?_
      exact ih _ _ h _ _ _ hP hD hS (lv_sub hl [1, 0] rfl)

set_option maxRecDepth 100000 in
set_option maxHeartbeats 4000000 in
theorem b_X11_misses_e {p : Program} {l : Launch} {e : Env} {s : State} {m : MethodId} {args : Array Value} {below : List Frame} {meth : Method} {c : Code} {dC : Nat → ClassId} {dI : Nat → Nat → Nat} {a : Nat → Nat} {k : Nat → ClassId} {A : Nat → Prop} {q : ST} (hC : CxB p s m args meth c dC dI k A cX11_misses RX11 none 3)   {p0 : Int32} {σ : ST} (h : f_X11_misses  p0 σ = some q) : GoB p l e ({ frames := 0, cells := 0, slots := 0, locals := 0 } : Room) s m args below meth c (MQ below (qBv dC dI a k A q) args s 0 0 A) dC dI a k A 3 0 σ (lv_args 0 [.ref (a 0), .int p0]) [] := by
  have hC0 := hC
  obtain ⟨hx, hb, hr, hml, hown, hts, hlocks, hA, hN, hK⟩ := hC0
  intro H locs ls hP hD hS hl
  have hD0 : ∀ σ1 : ST, va_D A (wB a k σ1) := fun σ1 => wB_D hD
  replace hl : lv_has ls 3 [(0, .ref (a 0)), (1, .int p0)] := hl
  unfold f_X11_misses at h
  refine lv_aload_n hx hb dX11_misses_0 rfl (lv_at hl 0 rfl) ?_
  refine va_get (D := (dC, dI)) (ci := 11) (C := RX11) (T := TX11) (N := 95) hx hb hts inlX11 hown hK hP 0 gB_0 rfl 61 (by decide) (hts (.fieldLink RX11 513 "ShapeReaderModel" "misses" "I") mw_36_17) (fun _ h9 => h9) rfl dX11_misses_1 ?_
  refine lv_bipush (v := 20) hx hb dX11_misses_4 (by decide) ?_
  refine lv_icmp_ne (tgt := 10) hx hb dX11_misses_6 (by decide) (fun hc => ?_) (fun hc => ?_)
  · replace h := iq hc h
    refine lv_aload_n hx hb dX11_misses_10 rfl (lv_at hl 0 rfl) ?_
    refine va_get (D := (dC, dI)) (ci := 11) (C := RX11) (T := TX11) (N := 95) hx hb hts inlX11 hown hK hP 0 gB_0 rfl 58 (by decide) (hts (.fieldLink RX11 121 "ShapeReaderModel" "missKind" "[I") mw_28_3) (fun _ h9 => h9) rfl dX11_misses_11 ?_
    refine lv_aload_n hx hb dX11_misses_14 rfl (lv_at hl 0 rfl) ?_
    refine va_get (D := (dC, dI)) (ci := 11) (C := RX11) (T := TX11) (N := 95) hx hb hts inlX11 hown hK hP 0 gB_0 rfl 61 (by decide) (hts (.fieldLink RX11 513 "ShapeReaderModel" "misses" "I") mw_36_17) (fun _ h9 => h9) rfl dX11_misses_15 ?_
    refine lv_iload_n hx hb dX11_misses_18 rfl (lv_at hl 1 rfl) ?_
    obtain ⟨hg1, h⟩ := ig h
    refine va_iast hx hb hK hP hD hS 37 36 gB_37 yB_37 (vp_in_iff.mpr hg1) dX11_misses_19 (fun H locs hP hD hS => ?_)
    replace hP := uB_37 hP
    replace hD := hD0 ((stI σ 37 (σ.1 0 61).toNatClampNeg p0))
    refine lv_aload_n hx hb dX11_misses_20 rfl (lv_at hl 0 rfl) ?_
    refine va_get (D := (dC, dI)) (ci := 11) (C := RX11) (T := TX11) (N := 95) hx hb hts inlX11 hown hK hP 0 gB_0 rfl 59 (by decide) (hts (.fieldLink RX11 124 "ShapeReaderModel" "missSteps" "[I") mw_28_4) (fun _ h9 => h9) rfl dX11_misses_21 ?_
    refine lv_aload_n hx hb dX11_misses_24 rfl (lv_at hl 0 rfl) ?_
    refine va_get (D := (dC, dI)) (ci := 11) (C := RX11) (T := TX11) (N := 95) hx hb hts inlX11 hown hK hP 0 gB_0 rfl 61 (by decide) (hts (.fieldLink RX11 513 "ShapeReaderModel" "misses" "I") mw_36_17) (fun _ h9 => h9) rfl dX11_misses_25 ?_
    refine lv_aload_n hx hb dX11_misses_28 rfl (lv_at hl 0 rfl) ?_
    refine va_get (D := (dC, dI)) (ci := 11) (C := RX11) (T := TX11) (N := 95) hx hb hts inlX11 hown hK hP 0 gB_0 rfl 57 (by decide) (hts (.fieldLink RX11 516 "ShapeReaderModel" "steps" "I") mw_36_18) (fun _ h9 => h9) rfl dX11_misses_29 ?_
    obtain ⟨hg2, h⟩ := ig h
    refine va_iast hx hb hK hP hD hS 38 37 gB_38 yB_38 (vp_in_iff.mpr hg2) dX11_misses_32 (fun H locs hP hD hS => ?_)
    replace hP := uB_38 hP
    replace hD := hD0 ((stI (stI σ 37 (σ.1 0 61).toNatClampNeg p0) 38 ((stI σ 37 (σ.1 0 61).toNatClampNeg p0).1 0 61).toNatClampNeg ((stI σ 37 (σ.1 0 61).toNatClampNeg p0).1 0 57)))
    obtain ⟨z3, hs, h⟩ := ib h
    replace hs := Option.some.inj hs
    replace hP : va_P (dC, dI) vwCl (wB a k z3) H := by rw [← hs]; exact hP
    replace hD := hD0 z3
    clear hs
    refine lv_iconst (v := 0) hx hb dX11_misses_33 (by decide) ?_
    refine lv_istore_n (lv' := [(2, .int 0), (0, .ref (a 0)), (1, .int p0)]) hx hb dX11_misses_34 rfl hl (by decide) rfl (fun ls hl => ?_)
    exact b_X11_misses_35 hC FU _ _ h _ _ _ hP hD hS (lv_sub hl [1, 0] rfl)
  · replace h := ip hc h
    obtain rfl := Option.some.inj h
    exact W.vret hx hb hr (fun t ht hW => ⟨⟨(), rfl, trivial, ⟨by rw [ht]; exact hP, va_K.moved hW.alike hK, hD⟩⟩, hS.F ht⟩) hS.2.2 dX11_misses_9

theorem s_X11_misses {l : Launch} {dC : Nat → ClassId} {dI : Nat → Nat → Nat} {a : Nat → Nat} {k : Nat → ClassId} {sz : Nat} {p0 : Int32} {σ : ST} {q : ST} (h : f_X11_misses  p0 σ = some q) : Met l yX11_misses (.code yX11_misses cX11_misses 3 none :: pw) ({ frames := 0, cells := 0, slots := 0, locals := 0 } : Room) (va_Pc [.ref (a 0), .int p0] (vPre dC dI (wB a k σ) (tB k) sz)) (qBv dC dI a k (va_A (wB a k σ) sz) q) 0 0 (va_A (wB a k σ) sz) := metB (fun A => qBv dC dI a k A q) (plainFor_of_name (by decide)) (Nat.le_of_ble_eq_true rfl) (fun _ _ _ _ _ _ _ _ hC => b_X11_misses_e hC h)

def f_X11_looksAt_69 (r_X11_looksAt : Int32 → Int32 → ST → Option (ST)) (r_X11_looksAtRecords : Int32 → Int32 → ST → Option (ST)) (k13 : Int32 → Int32 → Int32 → ST → Option (ST)) (x1 : Int32) (x2 : Int32) (x3 : Int32) (σ : ST) : Option (ST) := k13 x1 x2 (x3 + 1) (stI σ 0 57 ((σ.1 0 57) - 1))
def f_X11_looksAt_13 (r_X11_looksAt : Int32 → Int32 → ST → Option (ST)) (r_X11_looksAtRecords : Int32 → Int32 → ST → Option (ST)) : Nat → Int32 → Int32 → Int32 → ST → Option (ST)
  | 0, _, _, _, _ => none
  | n + 1, x1, x2, x3, σ => if 0 ≤ x1.toInt ∧ x1.toInt < 800 then (if (σ.1 4 x1.toNatClampNeg) ≤ x3 then (some σ) else ((f_X11_enters  (200 + x3) σ).bind fun q2 => if 0 ≤ ((4 * x1) + x3).toInt ∧ ((4 * x1) + x3).toInt < 3200 then ((f_T_X11_match  (q2.1 5 ((4 * x1) + x3).toNatClampNeg) x2 q2).bind fun q5 => if q5.1 = 0 then ((f_X11_misses  4 q5.2).bind fun q7 => f_X11_looksAt_69 r_X11_looksAt r_X11_looksAtRecords (f_X11_looksAt_13 r_X11_looksAt r_X11_looksAtRecords n) x1 x2 x3 q7) else ((r_X11_looksAt  (q2.1 5 ((4 * x1) + x3).toNatClampNeg) x2 q5.2).bind fun q9 => f_X11_looksAt_69 r_X11_looksAt r_X11_looksAtRecords (f_X11_looksAt_13 r_X11_looksAt r_X11_looksAtRecords n) x1 x2 x3 q9)) else none)) else none
def f_X11_looksAt_253 (r_X11_looksAt : Int32 → Int32 → ST → Option (ST)) (r_X11_looksAtRecords : Int32 → Int32 → ST → Option (ST)) (x1 : Int32) (x2 : Int32) (σ : ST) : Option (ST) := (f_T_X11_match  x1 x2 σ).bind fun q1 => if q1.1 = 0 then ((f_X11_misses  2 q1.2).bind fun q3 => some q3) else (some q1.2)
def f_X11_looksAt_196 (r_X11_looksAt : Int32 → Int32 → ST → Option (ST)) (r_X11_looksAtRecords : Int32 → Int32 → ST → Option (ST)) (x1 : Int32) (x2 : Int32) (σ : ST) : Option (ST) := if 0 ≤ x1.toInt ∧ x1.toInt < 800 then (if (σ.1 2 x1.toNatClampNeg) = 6 then (if 0 ≤ x2.toInt ∧ x2.toInt < 800 then (if (σ.1 2 x2.toNatClampNeg) = 6 then ((f_X11_enters  100 σ).bind fun q3 => (r_X11_looksAt  (q3.1 3 x1.toNatClampNeg) (q3.1 3 x2.toNatClampNeg) q3).bind fun q5 => some (stI q5 0 57 ((q5.1 0 57) - 1))) else (f_X11_looksAt_253 r_X11_looksAt r_X11_looksAtRecords x1 x2 σ)) else none) else (f_X11_looksAt_253 r_X11_looksAt r_X11_looksAtRecords x1 x2 σ)) else none
def f_X11_looksAt (r_X11_looksAt : Int32 → Int32 → ST → Option (ST)) (r_X11_looksAtRecords : Int32 → Int32 → ST → Option (ST)) (p0 : Int32) (p1 : Int32) (σ : ST) : Option (ST) := if 0 ≤ p0.toInt ∧ p0.toInt < 800 then (if (σ.1 2 p0.toNatClampNeg) = 8 then (f_X11_looksAt_13 r_X11_looksAt r_X11_looksAtRecords FU p0 p1 0 σ) else (if 0 ≤ p1.toInt ∧ p1.toInt < 800 then (if (σ.1 2 p1.toNatClampNeg) = 8 then ((f_T_X11_chosen  p0 p1 σ).bind fun q7 => if 0 ≤ q7.1 then (if 0 ≤ ((4 * p1) + q7.1).toInt ∧ ((4 * p1) + q7.1).toInt < 3200 then ((r_X11_looksAt  p0 (q7.2.1 5 ((4 * p1) + q7.1).toNatClampNeg) q7.2).bind fun q10 => some q10) else none) else ((f_X11_misses  3 q7.2).bind fun q12 => some q12)) else (if (σ.1 2 p0.toNatClampNeg) = 7 then (if (σ.1 2 p1.toNatClampNeg) = 7 then ((f_X11_namesMay  (σ.1 3 p0.toNatClampNeg) (σ.1 3 p1.toNatClampNeg) σ).bind fun q3 => if q3.1 = 0 then (f_X11_looksAt_196 r_X11_looksAt r_X11_looksAtRecords p0 p1 q3.2) else ((r_X11_looksAtRecords  (q3.2.1 3 p0.toNatClampNeg) (q3.2.1 3 p1.toNatClampNeg) q3.2).bind fun q5 => some q5)) else (f_X11_looksAt_196 r_X11_looksAt r_X11_looksAtRecords p0 p1 σ)) else (f_X11_looksAt_196 r_X11_looksAt r_X11_looksAtRecords p0 p1 σ))) else none)) else none

def f_X11_looksAtRecords_116 (r_X11_looksAt : Int32 → Int32 → ST → Option (ST)) (r_X11_looksAtRecords : Int32 → Int32 → ST → Option (ST)) (k40 : Int32 → Int32 → Int32 → ST → Option (ST)) (x1 : Int32) (x3 : Int32) (x4 : Int32) (σ : ST) : Option (ST) := k40 x1 x3 (x4 + 1) (stI σ 0 57 ((σ.1 0 57) - 1))
def f_X11_looksAtRecords_40 (r_X11_looksAt : Int32 → Int32 → ST → Option (ST)) (r_X11_looksAtRecords : Int32 → Int32 → ST → Option (ST)) : Nat → Int32 → Int32 → Int32 → ST → Option (ST)
  | 0, _, _, _, _ => none
  | n + 1, x1, x3, x4, σ => if 0 ≤ x3.toInt ∧ x3.toInt < 72 then (if (σ.1 11 x3.toNatClampNeg) ≤ x4 then (some σ) else ((f_X11_fieldFor  x1 ((8 * x3) + x4) σ).bind fun q2 => (f_X11_enters  x4 q2.2).bind fun q4 => if q2.1 < 0 then (if 0 ≤ ((8 * x3) + x4).toInt ∧ ((8 * x3) + x4).toInt < 576 then (if (q4.1 16 ((8 * x3) + x4).toNatClampNeg) = 0 then ((f_X11_misses  1 q4).bind fun q7 => f_X11_looksAtRecords_116 r_X11_looksAt r_X11_looksAtRecords (f_X11_looksAtRecords_40 r_X11_looksAt r_X11_looksAtRecords n) x1 x3 x4 q7) else (f_X11_looksAtRecords_116 r_X11_looksAt r_X11_looksAtRecords (f_X11_looksAtRecords_40 r_X11_looksAt r_X11_looksAtRecords n) x1 x3 x4 q4)) else none) else (if 0 ≤ q2.1.toInt ∧ q2.1.toInt < 576 then (if 0 ≤ ((8 * x3) + x4).toInt ∧ ((8 * x3) + x4).toInt < 576 then ((r_X11_looksAt  (q4.1 15 q2.1.toNatClampNeg) (q4.1 15 ((8 * x3) + x4).toNatClampNeg) q4).bind fun q11 => f_X11_looksAtRecords_116 r_X11_looksAt r_X11_looksAtRecords (f_X11_looksAtRecords_40 r_X11_looksAt r_X11_looksAtRecords n) x1 x3 x4 q11) else none) else none))) else none
def f_X11_looksAtRecords (r_X11_looksAt : Int32 → Int32 → ST → Option (ST)) (r_X11_looksAtRecords : Int32 → Int32 → ST → Option (ST)) (p0 : Int32) (p1 : Int32) (σ : ST) : Option (ST) := if 0 ≤ ((6 * p0) + p1).toInt ∧ ((6 * p0) + p1).toInt < 36 then (if (σ.1 40 ((6 * p0) + p1).toNatClampNeg) = 0 then ((some ((6 * ((stI σ 40 ((6 * p0) + p1).toNatClampNeg (vp_nar .boolean 1)).1 0 54)) + p1)).bind fun x2 => f_X11_looksAtRecords_40 r_X11_looksAt r_X11_looksAtRecords FU p0 x2 0 (stI σ 40 ((6 * p0) + p1).toNatClampNeg (vp_nar .boolean 1))) else (some σ)) else none

def R_X11_looksAt : Nat → (Int32 → Int32 → ST → Option (ST)) × (Int32 → Int32 → ST → Option (ST))
  | 0 => ((fun _ _ _ => none), (fun _ _ _ => none))
  | n + 1 => (f_X11_looksAt ((R_X11_looksAt n).1) ((R_X11_looksAt n).2), f_X11_looksAtRecords ((R_X11_looksAt n).1) ((R_X11_looksAt n).2))
def f_T_X11_looksAt (p0 : Int32) (p1 : Int32) (σ : ST) : Option (ST) := (R_X11_looksAt FRB).1 p0 p1 σ
def f_T_X11_looksAtRecords (p0 : Int32) (p1 : Int32) (σ : ST) : Option (ST) := (R_X11_looksAt FRB).2 p0 p1 σ

set_option maxRecDepth 100000 in
set_option maxHeartbeats 4000000 in
theorem b_X11_looksAt_69 {p : Program} {l : Launch} {e : Env} {s : State} {m : MethodId} {args : Array Value} {below : List Frame} {meth : Method} {c : Code} {dC : Nat → ClassId} {dI : Nat → Nat → Nat} {a : Nat → Nat} {k : Nat → ClassId} {A : Nat → Prop} {q : ST} (hC : CxB p s m args meth c dC dI k A cX11_looksAt RX11 none 5) {nn : Nat} {r_X11_looksAt : Int32 → Int32 → ST → Option (ST)} (hr_X11_looksAt : ∀ {sz : Nat} {p0 : Int32} {p1 : Int32} {σ : ST} {q : ST}, r_X11_looksAt  p0 p1 σ = some q → Met l yX11_looksAt (.code yX11_looksAt cX11_looksAt 5 none :: pw) ({ frames := 343 + nn, cells := 0, slots := 0, locals := 8525 + 26 * nn } : Room) (va_Pc [.ref (a 0), .int p0, .int p1] (vPre dC dI (wB a k σ) (tB k) sz)) (qBv dC dI a k (va_A (wB a k σ) sz) q) 0 0 (va_A (wB a k σ) sz)) {r_X11_looksAtRecords : Int32 → Int32 → ST → Option (ST)} (hr_X11_looksAtRecords : ∀ {sz : Nat} {p0 : Int32} {p1 : Int32} {σ : ST} {q : ST}, r_X11_looksAtRecords  p0 p1 σ = some q → Met l yX11_looksAtRecords (.code yX11_looksAtRecords cX11_looksAtRecords 7 none :: pw) ({ frames := 343 + nn, cells := 0, slots := 0, locals := 8525 + 26 * nn } : Room) (va_Pc [.ref (a 0), .int p0, .int p1] (vPre dC dI (wB a k σ) (tB k) sz)) (qBv dC dI a k (va_A (wB a k σ) sz) q) 0 0 (va_A (wB a k σ) sz)) {k13 : Int32 → Int32 → Int32 → ST → Option (ST)} (hk13 : ∀ (x1 : Int32) (x2 : Int32) (x3 : Int32) (σ : ST), k13 x1 x2 x3 σ = some q → GoB p l e ({ frames := 343 + (nn + 1), cells := 0, slots := 0, locals := 8525 + 26 * (nn + 1) } : Room) s m args below meth c (MQ below (qBv dC dI a k A q) args s 0 0 A) dC dI a k A 5 13 σ [(0, .ref (a 0)), (1, .int x1), (2, .int x2), (3, .int x3)] []) {x1 : Int32} {x2 : Int32} {x3 : Int32} {σ : ST} (h : f_X11_looksAt_69 r_X11_looksAt r_X11_looksAtRecords k13 x1 x2 x3 σ = some q) : GoB p l e ({ frames := 343 + (nn + 1), cells := 0, slots := 0, locals := 8525 + 26 * (nn + 1) } : Room) s m args below meth c (MQ below (qBv dC dI a k A q) args s 0 0 A) dC dI a k A 5 69 σ [(0, .ref (a 0)), (1, .int x1), (2, .int x2), (3, .int x3)] [] := by
  have hC0 := hC
  obtain ⟨hx, hb, hr, hml, hown, hts, hlocks, hA, hN, hK⟩ := hC0
  intro H locs ls hP hD hS hl
  have hD0 : ∀ σ1 : ST, va_D A (wB a k σ1) := fun σ1 => wB_D hD
  unfold f_X11_looksAt_69 at h
  refine lv_aload_n hx hb dX11_looksAt_69 rfl (lv_at hl 0 rfl) ?_
  refine lv_dup hx hb dX11_looksAt_70 rfl ?_
  refine va_get (D := (dC, dI)) (ci := 11) (C := RX11) (T := TX11) (N := 95) hx hb hts inlX11 hown hK hP 0 gB_0 rfl 57 (by decide) (hts (.fieldLink RX11 516 "ShapeReaderModel" "steps" "I") mw_36_18) (fun _ h9 => h9) rfl dX11_looksAt_71 ?_
  refine lv_iconst (v := 1) hx hb dX11_looksAt_74 (by decide) ?_
  refine lv_isub hx hb dX11_looksAt_75 ?_
  refine va_put (D := (dC, dI)) (ci := 11) (ty := .int) (C := RX11) (T := TX11) (N := 95) hx hb hts inlX11 tyX11 tyX11_ok nmX11 hown hK hP hD hS 0 gB_0 rfl 57 (by decide) (hts (.fieldLink RX11 516 "ShapeReaderModel" "steps" "I") mw_36_18) (fun _ h9 => h9) rfl (by decide +kernel) rfl rfl (Nat.le_of_ble_eq_true rfl) dX11_looksAt_76 (fun H locs hP hD hS => ?_)
  replace hP := uB_0_57 hP
  replace hD := hD0 ((stI σ 0 57 ((σ.1 0 57) - 1)))
  refine lv_iinc (v := (x3 + 1)) (lv' := [(3, .int (x3 + 1)), (0, .ref (a 0)), (1, .int x1), (2, .int x2)]) hx hb dX11_looksAt_79 hl (k := 3) rfl rfl (by decide) rfl (fun ls hl => ?_)
  refine lv_goto (tgt := 13) hx hb dX11_looksAt_82 (by decide) ?_
  exact hk13 _ _ _ _ h _ _ _ hP hD hS (lv_sub hl [1, 2, 3, 0] rfl)

set_option maxRecDepth 100000 in
set_option maxHeartbeats 4000000 in
theorem b_X11_looksAt_13 {p : Program} {l : Launch} {e : Env} {s : State} {m : MethodId} {args : Array Value} {below : List Frame} {meth : Method} {c : Code} {dC : Nat → ClassId} {dI : Nat → Nat → Nat} {a : Nat → Nat} {k : Nat → ClassId} {A : Nat → Prop} {q : ST} (hC : CxB p s m args meth c dC dI k A cX11_looksAt RX11 none 5) {nn : Nat} {r_X11_looksAt : Int32 → Int32 → ST → Option (ST)} (hr_X11_looksAt : ∀ {sz : Nat} {p0 : Int32} {p1 : Int32} {σ : ST} {q : ST}, r_X11_looksAt  p0 p1 σ = some q → Met l yX11_looksAt (.code yX11_looksAt cX11_looksAt 5 none :: pw) ({ frames := 343 + nn, cells := 0, slots := 0, locals := 8525 + 26 * nn } : Room) (va_Pc [.ref (a 0), .int p0, .int p1] (vPre dC dI (wB a k σ) (tB k) sz)) (qBv dC dI a k (va_A (wB a k σ) sz) q) 0 0 (va_A (wB a k σ) sz)) {r_X11_looksAtRecords : Int32 → Int32 → ST → Option (ST)} (hr_X11_looksAtRecords : ∀ {sz : Nat} {p0 : Int32} {p1 : Int32} {σ : ST} {q : ST}, r_X11_looksAtRecords  p0 p1 σ = some q → Met l yX11_looksAtRecords (.code yX11_looksAtRecords cX11_looksAtRecords 7 none :: pw) ({ frames := 343 + nn, cells := 0, slots := 0, locals := 8525 + 26 * nn } : Room) (va_Pc [.ref (a 0), .int p0, .int p1] (vPre dC dI (wB a k σ) (tB k) sz)) (qBv dC dI a k (va_A (wB a k σ) sz) q) 0 0 (va_A (wB a k σ) sz))  : ∀ (n : Nat) (x1 : Int32) (x2 : Int32) (x3 : Int32) (σ : ST), f_X11_looksAt_13 r_X11_looksAt r_X11_looksAtRecords n x1 x2 x3 σ = some q → GoB p l e ({ frames := 343 + (nn + 1), cells := 0, slots := 0, locals := 8525 + 26 * (nn + 1) } : Room) s m args below meth c (MQ below (qBv dC dI a k A q) args s 0 0 A) dC dI a k A 5 13 σ [(0, .ref (a 0)), (1, .int x1), (2, .int x2), (3, .int x3)] [] := by
  intro n
  induction n with
  | zero =>
    intro x1 x2 x3 σ h
    rw [f_X11_looksAt_13] at h
    cases h
  | succ n ih =>
    intro x1 x2 x3 σ h
    have hC0 := hC
    obtain ⟨hx, hb, hr, hml, hown, hts, hlocks, hA, hN, hK⟩ := hC0
    intro H locs ls hP hD hS hl
    have hD0 : ∀ σ1 : ST, va_D A (wB a k σ1) := fun σ1 => wB_D hD
    rw [f_X11_looksAt_13] at h
    refine lv_iload_n hx hb dX11_looksAt_13 rfl (lv_at hl 3 rfl) ?_
    refine lv_aload_n hx hb dX11_looksAt_14 rfl (lv_at hl 0 rfl) ?_
    refine va_get (D := (dC, dI)) (ci := 11) (C := RX11) (T := TX11) (N := 95) hx hb hts inlX11 hown hK hP 0 gB_0 rfl 16 (by decide) (hts (.fieldLink RX11 20 "ShapeReaderModel" "typeMany" "[I") mw_27_0) (fun _ h9 => h9) rfl dX11_looksAt_15 ?_
    refine lv_iload_n hx hb dX11_looksAt_18 rfl (lv_at hl 1 rfl) ?_
    obtain ⟨hg1, h⟩ := ig h
    refine va_iald hx hb hK hP 4 3 gB_4 yB_4 (vp_in_iff.mpr hg1) dX11_looksAt_19 ?_
    refine lv_icmp_ge (tgt := 85) hx hb dX11_looksAt_20 (by decide) (fun hc => ?_) (fun hc => ?_)
    · replace h := ip hc h
      refine lv_goto (tgt := 267) hx hb dX11_looksAt_85 (by decide) ?_
      obtain rfl := Option.some.inj h
      exact W.vret hx hb hr (fun t ht hW => ⟨⟨(), rfl, trivial, ⟨by rw [ht]; exact hP, va_K.moved hW.alike hK, hD⟩⟩, hS.F ht⟩) hS.2.2 dX11_looksAt_267
    · replace h := iq hc h
      refine lv_aload_n hx hb dX11_looksAt_23 rfl (lv_at hl 0 rfl) ?_
      refine lv_sipush (v := 200) hx hb dX11_looksAt_24 (by decide) ?_
      refine lv_iload_n hx hb dX11_looksAt_27 rfl (lv_at hl 3 rfl) ?_
      refine lv_iadd hx hb dX11_looksAt_28 ?_
      obtain ⟨q2, hc, h⟩ := ib h
      have hF := va_frees hD hS hA
      refine va_callv (va_runV (As := [.int (200 + x3)]) (rest := []) ⟨hx, hb, hml, hown, hts⟩ (s_X11_enters hc) (cwV 1 hts (gV mw_36_19 mw_36_20 mw_36_21 mw_0_15 mw_56_13) rfl rfl rfl (by decide +kernel) ⟨by show 0 + 1 ≤ 343 + (nn + 1); omega, by show 8 + (2 + 11) + 0 ≤ 8525 + 26 * (nn + 1); omega⟩) (vV (ci := 11) (q0 := 0) hK hP hD hN rfl gB_0) rfl rfl hl.1 rfl (lv_room (Nat.le_of_ble_eq_true rfl)) dX11_looksAt_29 ⟨(Nat.le_of_ble_eq_true rfl), (Nat.le_of_ble_eq_true rfl)⟩) hS (fun q _ h => hF q h) hF (fun u t H locs ht hvm hw hB _ _ hS => ?_)
      replace hP : va_P (dC, dI) vwCl (wB a k q2) H := by rw [← ht]; exact hB.1
      replace hD := hD0 (q2)
      clear hB hF
      refine lv_aload_n hx hb dX11_looksAt_32 rfl (lv_at hl 0 rfl) ?_
      refine va_get (D := (dC, dI)) (ci := 11) (C := RX11) (T := TX11) (N := 95) hx hb hts inlX11 hown hK hP 0 gB_0 rfl 17 (by decide) (hts (.fieldLink RX11 23 "ShapeReaderModel" "branch" "[I") mw_27_1) (fun _ h9 => h9) rfl dX11_looksAt_33 ?_
      refine lv_iconst (v := 4) hx hb dX11_looksAt_36 (by decide) ?_
      refine lv_iload_n hx hb dX11_looksAt_37 rfl (lv_at hl 1 rfl) ?_
      refine lv_imul hx hb dX11_looksAt_38 ?_
      refine lv_iload_n hx hb dX11_looksAt_39 rfl (lv_at hl 3 rfl) ?_
      refine lv_iadd hx hb dX11_looksAt_40 ?_
      obtain ⟨hg4, h⟩ := ig h
      refine va_iald hx hb hK hP 5 4 gB_5 yB_5 (vp_in_iff.mpr hg4) dX11_looksAt_41 ?_
      refine lv_istore (lv' := [(4, .int (q2.1 5 ((4 * x1) + x3).toNatClampNeg)), (0, .ref (a 0)), (1, .int x1), (2, .int x2), (3, .int x3)]) hx hb dX11_looksAt_42 hl (by decide) rfl (fun ls hl => ?_)
      refine lv_aload_n hx hb dX11_looksAt_44 rfl (lv_at hl 1 rfl) ?_
      refine lv_iload hx hb dX11_looksAt_45 (lv_at hl 0 rfl) ?_
      refine lv_iload_n hx hb dX11_looksAt_47 rfl (lv_at hl 3 rfl) ?_
      obtain ⟨q5, hc, h⟩ := ib h
      have hF := va_frees hD hS hA
      refine va_calli (va_runV (As := [.int (q2.1 5 ((4 * x1) + x3).toNatClampNeg), .int x2]) (rest := []) ⟨hx, hb, hml, hown, hts⟩ (s_X11_match hc) (cwV 2 hts (gV mw_36_2 mw_36_3 mw_36_4 mw_0_15 mw_56_8) rfl rfl rfl (by decide +kernel) ⟨by show 342 + 1 ≤ 343 + (nn + 1); omega, by show 8 + (5 + 11) + 8500 ≤ 8525 + 26 * (nn + 1); omega⟩) (vV (ci := 11) (q0 := 0) hK hP hD hN rfl gB_0) rfl rfl hl.1 rfl (lv_room (Nat.le_of_ble_eq_true rfl)) dX11_looksAt_48 ⟨(Nat.le_of_ble_eq_true rfl), (Nat.le_of_ble_eq_true rfl)⟩) hS (fun q _ h => hF q h) hF (fun r6 u t H locs ht hvm hw hB _ _ hS => ?_)
      obtain rfl : r6 = q5.1 := hw
      replace hP : va_P (dC, dI) vwCl (wB a k q5.2) H := by rw [← ht]; exact hB.1
      replace hD := hD0 (q5.2)
      clear hB hF
      refine lv_if_eq (tgt := 64) hx hb dX11_looksAt_51 (by decide) (fun hc => ?_) (fun hc => ?_)
      · replace h := ip hc h
        refine lv_aload_n hx hb dX11_looksAt_64 rfl (lv_at hl 1 rfl) ?_
        refine lv_iconst (v := 4) hx hb dX11_looksAt_65 (by decide) ?_
        obtain ⟨q7, hc, h⟩ := ib h
        have hF := va_frees hD hS hA
        refine va_callv (va_runV (As := [.int 4]) (rest := []) ⟨hx, hb, hml, hown, hts⟩ (s_X11_misses hc) (cwV 1 hts (gV mw_36_25 mw_36_26 mw_36_27 mw_0_15 mw_56_12) rfl rfl rfl (by decide +kernel) ⟨by show 0 + 1 ≤ 343 + (nn + 1); omega, by show 8 + (3 + 11) + 0 ≤ 8525 + 26 * (nn + 1); omega⟩) (vV (ci := 11) (q0 := 0) hK hP hD hN rfl gB_0) rfl rfl hl.1 rfl (lv_room (Nat.le_of_ble_eq_true rfl)) dX11_looksAt_66 ⟨(Nat.le_of_ble_eq_true rfl), (Nat.le_of_ble_eq_true rfl)⟩) hS (fun q _ h => hF q h) hF (fun u t H locs ht hvm hw hB _ _ hS => ?_)
        replace hP : va_P (dC, dI) vwCl (wB a k q7) H := by rw [← ht]; exact hB.1
        replace hD := hD0 (q7)
        clear hB hF
        exact b_X11_looksAt_69 hC hr_X11_looksAt hr_X11_looksAtRecords ih h _ _ _ hP hD hS (lv_sub hl [1, 2, 3, 4] rfl)
      · replace h := iq hc h
        refine lv_aload_n hx hb dX11_looksAt_54 rfl (lv_at hl 1 rfl) ?_
        refine lv_iload hx hb dX11_looksAt_55 (lv_at hl 0 rfl) ?_
        refine lv_iload_n hx hb dX11_looksAt_57 rfl (lv_at hl 3 rfl) ?_
        obtain ⟨q9, hc, h⟩ := ib h
        have hF := va_frees hD hS hA
        refine va_callv (va_runV (As := [.int (q2.1 5 ((4 * x1) + x3).toNatClampNeg), .int x2]) (rest := []) ⟨hx, hb, hml, hown, hts⟩ (hr_X11_looksAt hc) (cwV 2 hts (gV mw_36_22 mw_36_23 mw_36_24 mw_0_15 mw_56_14) rfl rfl rfl (by decide +kernel) ⟨by show (343 + nn) + 1 ≤ 343 + (nn + 1); omega, by show 8 + (5 + 11) + (8525 + 26 * nn) ≤ 8525 + 26 * (nn + 1); omega⟩) (vV (ci := 11) (q0 := 0) hK hP hD hN rfl gB_0) rfl rfl hl.1 rfl (lv_room (Nat.le_of_ble_eq_true rfl)) dX11_looksAt_58 ⟨(Nat.le_of_ble_eq_true rfl), (Nat.le_of_ble_eq_true rfl)⟩) hS (fun q _ h => hF q h) hF (fun u t H locs ht hvm hw hB _ _ hS => ?_)
        replace hP : va_P (dC, dI) vwCl (wB a k q9) H := by rw [← ht]; exact hB.1
        replace hD := hD0 (q9)
        clear hB hF
        refine lv_goto (tgt := 69) hx hb dX11_looksAt_61 (by decide) ?_
        exact b_X11_looksAt_69 hC hr_X11_looksAt hr_X11_looksAtRecords ih h _ _ _ hP hD hS (lv_sub hl [1, 2, 3, 4] rfl)

set_option maxRecDepth 100000 in
set_option maxHeartbeats 4000000 in
theorem b_X11_looksAt_253 {p : Program} {l : Launch} {e : Env} {s : State} {m : MethodId} {args : Array Value} {below : List Frame} {meth : Method} {c : Code} {dC : Nat → ClassId} {dI : Nat → Nat → Nat} {a : Nat → Nat} {k : Nat → ClassId} {A : Nat → Prop} {q : ST} (hC : CxB p s m args meth c dC dI k A cX11_looksAt RX11 none 5) {nn : Nat} {r_X11_looksAt : Int32 → Int32 → ST → Option (ST)} (hr_X11_looksAt : ∀ {sz : Nat} {p0 : Int32} {p1 : Int32} {σ : ST} {q : ST}, r_X11_looksAt  p0 p1 σ = some q → Met l yX11_looksAt (.code yX11_looksAt cX11_looksAt 5 none :: pw) ({ frames := 343 + nn, cells := 0, slots := 0, locals := 8525 + 26 * nn } : Room) (va_Pc [.ref (a 0), .int p0, .int p1] (vPre dC dI (wB a k σ) (tB k) sz)) (qBv dC dI a k (va_A (wB a k σ) sz) q) 0 0 (va_A (wB a k σ) sz)) {r_X11_looksAtRecords : Int32 → Int32 → ST → Option (ST)} (hr_X11_looksAtRecords : ∀ {sz : Nat} {p0 : Int32} {p1 : Int32} {σ : ST} {q : ST}, r_X11_looksAtRecords  p0 p1 σ = some q → Met l yX11_looksAtRecords (.code yX11_looksAtRecords cX11_looksAtRecords 7 none :: pw) ({ frames := 343 + nn, cells := 0, slots := 0, locals := 8525 + 26 * nn } : Room) (va_Pc [.ref (a 0), .int p0, .int p1] (vPre dC dI (wB a k σ) (tB k) sz)) (qBv dC dI a k (va_A (wB a k σ) sz) q) 0 0 (va_A (wB a k σ) sz))  {x1 : Int32} {x2 : Int32} {σ : ST} (h : f_X11_looksAt_253 r_X11_looksAt r_X11_looksAtRecords x1 x2 σ = some q) : GoB p l e ({ frames := 343 + (nn + 1), cells := 0, slots := 0, locals := 8525 + 26 * (nn + 1) } : Room) s m args below meth c (MQ below (qBv dC dI a k A q) args s 0 0 A) dC dI a k A 5 253 σ [(0, .ref (a 0)), (1, .int x1), (2, .int x2)] [] := by
  have hC0 := hC
  obtain ⟨hx, hb, hr, hml, hown, hts, hlocks, hA, hN, hK⟩ := hC0
  intro H locs ls hP hD hS hl
  have hD0 : ∀ σ1 : ST, va_D A (wB a k σ1) := fun σ1 => wB_D hD
  unfold f_X11_looksAt_253 at h
  refine lv_aload_n hx hb dX11_looksAt_253 rfl (lv_at hl 0 rfl) ?_
  refine lv_iload_n hx hb dX11_looksAt_254 rfl (lv_at hl 1 rfl) ?_
  refine lv_iload_n hx hb dX11_looksAt_255 rfl (lv_at hl 2 rfl) ?_
  obtain ⟨q1, hc, h⟩ := ib h
  have hF := va_frees hD hS hA
  refine va_calli (va_runV (As := [.int x1, .int x2]) (rest := []) ⟨hx, hb, hml, hown, hts⟩ (s_X11_match hc) (cwV 2 hts (gV mw_36_2 mw_36_3 mw_36_4 mw_0_15 mw_56_8) rfl rfl rfl (by decide +kernel) ⟨by show 342 + 1 ≤ 343 + (nn + 1); omega, by show 8 + (5 + 11) + 8500 ≤ 8525 + 26 * (nn + 1); omega⟩) (vV (ci := 11) (q0 := 0) hK hP hD hN rfl gB_0) rfl rfl hl.1 rfl (lv_room (Nat.le_of_ble_eq_true rfl)) dX11_looksAt_256 ⟨(Nat.le_of_ble_eq_true rfl), (Nat.le_of_ble_eq_true rfl)⟩) hS (fun q _ h => hF q h) hF (fun r2 u t H locs ht hvm hw hB _ _ hS => ?_)
  obtain rfl : r2 = q1.1 := hw
  replace hP : va_P (dC, dI) vwCl (wB a k q1.2) H := by rw [← ht]; exact hB.1
  replace hD := hD0 (q1.2)
  clear hB hF
  refine lv_if_ne (tgt := 267) hx hb dX11_looksAt_259 (by decide) (fun hc => ?_) (fun hc => ?_)
  · replace h := iq hc h
    obtain rfl := Option.some.inj h
    exact W.vret hx hb hr (fun t ht hW => ⟨⟨(), rfl, trivial, ⟨by rw [ht]; exact hP, va_K.moved hW.alike hK, hD⟩⟩, hS.F ht⟩) hS.2.2 dX11_looksAt_267
  · replace h := ip hc h
    refine lv_aload_n hx hb dX11_looksAt_262 rfl (lv_at hl 0 rfl) ?_
    refine lv_iconst (v := 2) hx hb dX11_looksAt_263 (by decide) ?_
    obtain ⟨q3, hc, h⟩ := ib h
    have hF := va_frees hD hS hA
    refine va_callv (va_runV (As := [.int 2]) (rest := []) ⟨hx, hb, hml, hown, hts⟩ (s_X11_misses hc) (cwV 1 hts (gV mw_36_25 mw_36_26 mw_36_27 mw_0_15 mw_56_12) rfl rfl rfl (by decide +kernel) ⟨by show 0 + 1 ≤ 343 + (nn + 1); omega, by show 8 + (3 + 11) + 0 ≤ 8525 + 26 * (nn + 1); omega⟩) (vV (ci := 11) (q0 := 0) hK hP hD hN rfl gB_0) rfl rfl hl.1 rfl (lv_room (Nat.le_of_ble_eq_true rfl)) dX11_looksAt_264 ⟨(Nat.le_of_ble_eq_true rfl), (Nat.le_of_ble_eq_true rfl)⟩) hS (fun q _ h => hF q h) hF (fun u t H locs ht hvm hw hB _ _ hS => ?_)
    replace hP : va_P (dC, dI) vwCl (wB a k q3) H := by rw [← ht]; exact hB.1
    replace hD := hD0 (q3)
    clear hB hF
    obtain rfl := Option.some.inj h
    exact W.vret hx hb hr (fun t ht hW => ⟨⟨(), rfl, trivial, ⟨by rw [ht]; exact hP, va_K.moved hW.alike hK, hD⟩⟩, hS.F ht⟩) hS.2.2 dX11_looksAt_267

set_option maxRecDepth 100000 in
set_option maxHeartbeats 4000000 in
theorem b_X11_looksAt_196 {p : Program} {l : Launch} {e : Env} {s : State} {m : MethodId} {args : Array Value} {below : List Frame} {meth : Method} {c : Code} {dC : Nat → ClassId} {dI : Nat → Nat → Nat} {a : Nat → Nat} {k : Nat → ClassId} {A : Nat → Prop} {q : ST} (hC : CxB p s m args meth c dC dI k A cX11_looksAt RX11 none 5) {nn : Nat} {r_X11_looksAt : Int32 → Int32 → ST → Option (ST)} (hr_X11_looksAt : ∀ {sz : Nat} {p0 : Int32} {p1 : Int32} {σ : ST} {q : ST}, r_X11_looksAt  p0 p1 σ = some q → Met l yX11_looksAt (.code yX11_looksAt cX11_looksAt 5 none :: pw) ({ frames := 343 + nn, cells := 0, slots := 0, locals := 8525 + 26 * nn } : Room) (va_Pc [.ref (a 0), .int p0, .int p1] (vPre dC dI (wB a k σ) (tB k) sz)) (qBv dC dI a k (va_A (wB a k σ) sz) q) 0 0 (va_A (wB a k σ) sz)) {r_X11_looksAtRecords : Int32 → Int32 → ST → Option (ST)} (hr_X11_looksAtRecords : ∀ {sz : Nat} {p0 : Int32} {p1 : Int32} {σ : ST} {q : ST}, r_X11_looksAtRecords  p0 p1 σ = some q → Met l yX11_looksAtRecords (.code yX11_looksAtRecords cX11_looksAtRecords 7 none :: pw) ({ frames := 343 + nn, cells := 0, slots := 0, locals := 8525 + 26 * nn } : Room) (va_Pc [.ref (a 0), .int p0, .int p1] (vPre dC dI (wB a k σ) (tB k) sz)) (qBv dC dI a k (va_A (wB a k σ) sz) q) 0 0 (va_A (wB a k σ) sz))  {x1 : Int32} {x2 : Int32} {σ : ST} (h : f_X11_looksAt_196 r_X11_looksAt r_X11_looksAtRecords x1 x2 σ = some q) : GoB p l e ({ frames := 343 + (nn + 1), cells := 0, slots := 0, locals := 8525 + 26 * (nn + 1) } : Room) s m args below meth c (MQ below (qBv dC dI a k A q) args s 0 0 A) dC dI a k A 5 196 σ [(0, .ref (a 0)), (1, .int x1), (2, .int x2)] [] := by
  have hC0 := hC
  obtain ⟨hx, hb, hr, hml, hown, hts, hlocks, hA, hN, hK⟩ := hC0
  intro H locs ls hP hD hS hl
  have hD0 : ∀ σ1 : ST, va_D A (wB a k σ1) := fun σ1 => wB_D hD
  unfold f_X11_looksAt_196 at h
  refine lv_aload_n hx hb dX11_looksAt_196 rfl (lv_at hl 0 rfl) ?_
  refine va_get (D := (dC, dI)) (ci := 11) (C := RX11) (T := TX11) (N := 95) hx hb hts inlX11 hown hK hP 0 gB_0 rfl 14 (by decide) (hts (.fieldLink RX11 13 "ShapeReaderModel" "typeSort" "[I") mw_26_28) (fun _ h9 => h9) rfl dX11_looksAt_197 ?_
  refine lv_iload_n hx hb dX11_looksAt_200 rfl (lv_at hl 1 rfl) ?_
  obtain ⟨hg1, h⟩ := ig h
  refine va_iald hx hb hK hP 2 1 gB_2 yB_2 (vp_in_iff.mpr hg1) dX11_looksAt_201 ?_
  refine lv_bipush (v := 6) hx hb dX11_looksAt_202 (by decide) ?_
  refine lv_icmp_ne (tgt := 253) hx hb dX11_looksAt_204 (by decide) (fun hc => ?_) (fun hc => ?_)
  · replace h := iq hc h
    exact b_X11_looksAt_253 hC hr_X11_looksAt hr_X11_looksAtRecords h _ _ _ hP hD hS (lv_sub hl [0, 1, 2] rfl)
  · replace h := ip hc h
    refine lv_aload_n hx hb dX11_looksAt_207 rfl (lv_at hl 0 rfl) ?_
    refine va_get (D := (dC, dI)) (ci := 11) (C := RX11) (T := TX11) (N := 95) hx hb hts inlX11 hown hK hP 0 gB_0 rfl 14 (by decide) (hts (.fieldLink RX11 13 "ShapeReaderModel" "typeSort" "[I") mw_26_28) (fun _ h9 => h9) rfl dX11_looksAt_208 ?_
    refine lv_iload_n hx hb dX11_looksAt_211 rfl (lv_at hl 2 rfl) ?_
    obtain ⟨hg2, h⟩ := ig h
    refine va_iald hx hb hK hP 2 1 gB_2 yB_2 (vp_in_iff.mpr hg2) dX11_looksAt_212 ?_
    refine lv_bipush (v := 6) hx hb dX11_looksAt_213 (by decide) ?_
    refine lv_icmp_ne (tgt := 253) hx hb dX11_looksAt_215 (by decide) (fun hc => ?_) (fun hc => ?_)
    · replace h := iq hc h
      exact b_X11_looksAt_253 hC hr_X11_looksAt hr_X11_looksAtRecords h _ _ _ hP hD hS (lv_sub hl [0, 1, 2] rfl)
    · replace h := ip hc h
      refine lv_aload_n hx hb dX11_looksAt_218 rfl (lv_at hl 0 rfl) ?_
      refine lv_bipush (v := 100) hx hb dX11_looksAt_219 (by decide) ?_
      obtain ⟨q3, hc, h⟩ := ib h
      have hF := va_frees hD hS hA
      refine va_callv (va_runV (As := [.int 100]) (rest := []) ⟨hx, hb, hml, hown, hts⟩ (s_X11_enters hc) (cwV 1 hts (gV mw_36_19 mw_36_20 mw_36_21 mw_0_15 mw_56_13) rfl rfl rfl (by decide +kernel) ⟨by show 0 + 1 ≤ 343 + (nn + 1); omega, by show 8 + (2 + 11) + 0 ≤ 8525 + 26 * (nn + 1); omega⟩) (vV (ci := 11) (q0 := 0) hK hP hD hN rfl gB_0) rfl rfl hl.1 rfl (lv_room (Nat.le_of_ble_eq_true rfl)) dX11_looksAt_221 ⟨(Nat.le_of_ble_eq_true rfl), (Nat.le_of_ble_eq_true rfl)⟩) hS (fun q _ h => hF q h) hF (fun u t H locs ht hvm hw hB _ _ hS => ?_)
      replace hP : va_P (dC, dI) vwCl (wB a k q3) H := by rw [← ht]; exact hB.1
      replace hD := hD0 (q3)
      clear hB hF
      refine lv_aload_n hx hb dX11_looksAt_224 rfl (lv_at hl 0 rfl) ?_
      refine lv_aload_n hx hb dX11_looksAt_225 rfl (lv_at hl 0 rfl) ?_
      refine va_get (D := (dC, dI)) (ci := 11) (C := RX11) (T := TX11) (N := 95) hx hb hts inlX11 hown hK hP 0 gB_0 rfl 15 (by decide) (hts (.fieldLink RX11 17 "ShapeReaderModel" "typeArg" "[I") mw_26_29) (fun _ h9 => h9) rfl dX11_looksAt_226 ?_
      refine lv_iload_n hx hb dX11_looksAt_229 rfl (lv_at hl 1 rfl) ?_
      refine va_iald hx hb hK hP 3 2 gB_3 yB_3 (vp_in_iff.mpr hg1) dX11_looksAt_230 ?_
      refine lv_aload_n hx hb dX11_looksAt_231 rfl (lv_at hl 0 rfl) ?_
      refine va_get (D := (dC, dI)) (ci := 11) (C := RX11) (T := TX11) (N := 95) hx hb hts inlX11 hown hK hP 0 gB_0 rfl 15 (by decide) (hts (.fieldLink RX11 17 "ShapeReaderModel" "typeArg" "[I") mw_26_29) (fun _ h9 => h9) rfl dX11_looksAt_232 ?_
      refine lv_iload_n hx hb dX11_looksAt_235 rfl (lv_at hl 2 rfl) ?_
      refine va_iald hx hb hK hP 3 2 gB_3 yB_3 (vp_in_iff.mpr hg2) dX11_looksAt_236 ?_
      obtain ⟨q5, hc, h⟩ := ib h
      have hF := va_frees hD hS hA
      refine va_callv (va_runV (As := [.int (q3.1 3 x1.toNatClampNeg), .int (q3.1 3 x2.toNatClampNeg)]) (rest := []) ⟨hx, hb, hml, hown, hts⟩ (hr_X11_looksAt hc) (cwV 2 hts (gV mw_36_22 mw_36_23 mw_36_24 mw_0_15 mw_56_14) rfl rfl rfl (by decide +kernel) ⟨by show (343 + nn) + 1 ≤ 343 + (nn + 1); omega, by show 8 + (5 + 11) + (8525 + 26 * nn) ≤ 8525 + 26 * (nn + 1); omega⟩) (vV (ci := 11) (q0 := 0) hK hP hD hN rfl gB_0) rfl rfl hl.1 rfl (lv_room (Nat.le_of_ble_eq_true rfl)) dX11_looksAt_237 ⟨(Nat.le_of_ble_eq_true rfl), (Nat.le_of_ble_eq_true rfl)⟩) hS (fun q _ h => hF q h) hF (fun u t H locs ht hvm hw hB _ _ hS => ?_)
      replace hP : va_P (dC, dI) vwCl (wB a k q5) H := by rw [← ht]; exact hB.1
      replace hD := hD0 (q5)
      clear hB hF
      refine lv_aload_n hx hb dX11_looksAt_240 rfl (lv_at hl 0 rfl) ?_
      refine lv_dup hx hb dX11_looksAt_241 rfl ?_
      refine va_get (D := (dC, dI)) (ci := 11) (C := RX11) (T := TX11) (N := 95) hx hb hts inlX11 hown hK hP 0 gB_0 rfl 57 (by decide) (hts (.fieldLink RX11 516 "ShapeReaderModel" "steps" "I") mw_36_18) (fun _ h9 => h9) rfl dX11_looksAt_242 ?_
      refine lv_iconst (v := 1) hx hb dX11_looksAt_245 (by decide) ?_
      refine lv_isub hx hb dX11_looksAt_246 ?_
      refine va_put (D := (dC, dI)) (ci := 11) (ty := .int) (C := RX11) (T := TX11) (N := 95) hx hb hts inlX11 tyX11 tyX11_ok nmX11 hown hK hP hD hS 0 gB_0 rfl 57 (by decide) (hts (.fieldLink RX11 516 "ShapeReaderModel" "steps" "I") mw_36_18) (fun _ h9 => h9) rfl (by decide +kernel) rfl rfl (Nat.le_of_ble_eq_true rfl) dX11_looksAt_247 (fun H locs hP hD hS => ?_)
      replace hP := uB_0_57 hP
      replace hD := hD0 ((stI q5 0 57 ((q5.1 0 57) - 1)))
      refine lv_goto (tgt := 267) hx hb dX11_looksAt_250 (by decide) ?_
      obtain rfl := Option.some.inj h
      exact W.vret hx hb hr (fun t ht hW => ⟨⟨(), rfl, trivial, ⟨by rw [ht]; exact hP, va_K.moved hW.alike hK, hD⟩⟩, hS.F ht⟩) hS.2.2 dX11_looksAt_267

set_option maxRecDepth 100000 in
set_option maxHeartbeats 4000000 in
theorem b_X11_looksAt_e {p : Program} {l : Launch} {e : Env} {s : State} {m : MethodId} {args : Array Value} {below : List Frame} {meth : Method} {c : Code} {dC : Nat → ClassId} {dI : Nat → Nat → Nat} {a : Nat → Nat} {k : Nat → ClassId} {A : Nat → Prop} {q : ST} (hC : CxB p s m args meth c dC dI k A cX11_looksAt RX11 none 5) {nn : Nat} {r_X11_looksAt : Int32 → Int32 → ST → Option (ST)} (hr_X11_looksAt : ∀ {sz : Nat} {p0 : Int32} {p1 : Int32} {σ : ST} {q : ST}, r_X11_looksAt  p0 p1 σ = some q → Met l yX11_looksAt (.code yX11_looksAt cX11_looksAt 5 none :: pw) ({ frames := 343 + nn, cells := 0, slots := 0, locals := 8525 + 26 * nn } : Room) (va_Pc [.ref (a 0), .int p0, .int p1] (vPre dC dI (wB a k σ) (tB k) sz)) (qBv dC dI a k (va_A (wB a k σ) sz) q) 0 0 (va_A (wB a k σ) sz)) {r_X11_looksAtRecords : Int32 → Int32 → ST → Option (ST)} (hr_X11_looksAtRecords : ∀ {sz : Nat} {p0 : Int32} {p1 : Int32} {σ : ST} {q : ST}, r_X11_looksAtRecords  p0 p1 σ = some q → Met l yX11_looksAtRecords (.code yX11_looksAtRecords cX11_looksAtRecords 7 none :: pw) ({ frames := 343 + nn, cells := 0, slots := 0, locals := 8525 + 26 * nn } : Room) (va_Pc [.ref (a 0), .int p0, .int p1] (vPre dC dI (wB a k σ) (tB k) sz)) (qBv dC dI a k (va_A (wB a k σ) sz) q) 0 0 (va_A (wB a k σ) sz))  {p0 : Int32} {p1 : Int32} {σ : ST} (h : f_X11_looksAt r_X11_looksAt r_X11_looksAtRecords p0 p1 σ = some q) : GoB p l e ({ frames := 343 + (nn + 1), cells := 0, slots := 0, locals := 8525 + 26 * (nn + 1) } : Room) s m args below meth c (MQ below (qBv dC dI a k A q) args s 0 0 A) dC dI a k A 5 0 σ (lv_args 0 [.ref (a 0), .int p0, .int p1]) [] := by
  have hC0 := hC
  obtain ⟨hx, hb, hr, hml, hown, hts, hlocks, hA, hN, hK⟩ := hC0
  intro H locs ls hP hD hS hl
  have hD0 : ∀ σ1 : ST, va_D A (wB a k σ1) := fun σ1 => wB_D hD
  replace hl : lv_has ls 5 [(0, .ref (a 0)), (1, .int p0), (2, .int p1)] := hl
  unfold f_X11_looksAt at h
  refine lv_aload_n hx hb dX11_looksAt_0 rfl (lv_at hl 0 rfl) ?_
  refine va_get (D := (dC, dI)) (ci := 11) (C := RX11) (T := TX11) (N := 95) hx hb hts inlX11 hown hK hP 0 gB_0 rfl 14 (by decide) (hts (.fieldLink RX11 13 "ShapeReaderModel" "typeSort" "[I") mw_26_28) (fun _ h9 => h9) rfl dX11_looksAt_1 ?_
  refine lv_iload_n hx hb dX11_looksAt_4 rfl (lv_at hl 1 rfl) ?_
  obtain ⟨hg1, h⟩ := ig h
  refine va_iald hx hb hK hP 2 1 gB_2 yB_2 (vp_in_iff.mpr hg1) dX11_looksAt_5 ?_
  refine lv_bipush (v := 8) hx hb dX11_looksAt_6 (by decide) ?_
  refine lv_icmp_ne (tgt := 88) hx hb dX11_looksAt_8 (by decide) (fun hc => ?_) (fun hc => ?_)
  · replace h := iq hc h
    refine lv_aload_n hx hb dX11_looksAt_88 rfl (lv_at hl 0 rfl) ?_
    refine va_get (D := (dC, dI)) (ci := 11) (C := RX11) (T := TX11) (N := 95) hx hb hts inlX11 hown hK hP 0 gB_0 rfl 14 (by decide) (hts (.fieldLink RX11 13 "ShapeReaderModel" "typeSort" "[I") mw_26_28) (fun _ h9 => h9) rfl dX11_looksAt_89 ?_
    refine lv_iload_n hx hb dX11_looksAt_92 rfl (lv_at hl 2 rfl) ?_
    obtain ⟨hg2, h⟩ := ig h
    refine va_iald hx hb hK hP 2 1 gB_2 yB_2 (vp_in_iff.mpr hg2) dX11_looksAt_93 ?_
    refine lv_bipush (v := 8) hx hb dX11_looksAt_94 (by decide) ?_
    refine lv_icmp_ne (tgt := 136) hx hb dX11_looksAt_96 (by decide) (fun hc => ?_) (fun hc => ?_)
    · replace h := iq hc h
      refine lv_aload_n hx hb dX11_looksAt_136 rfl (lv_at hl 0 rfl) ?_
      refine va_get (D := (dC, dI)) (ci := 11) (C := RX11) (T := TX11) (N := 95) hx hb hts inlX11 hown hK hP 0 gB_0 rfl 14 (by decide) (hts (.fieldLink RX11 13 "ShapeReaderModel" "typeSort" "[I") mw_26_28) (fun _ h9 => h9) rfl dX11_looksAt_137 ?_
      refine lv_iload_n hx hb dX11_looksAt_140 rfl (lv_at hl 1 rfl) ?_
      refine va_iald hx hb hK hP 2 1 gB_2 yB_2 (vp_in_iff.mpr hg1) dX11_looksAt_141 ?_
      refine lv_bipush (v := 7) hx hb dX11_looksAt_142 (by decide) ?_
      refine lv_icmp_ne (tgt := 196) hx hb dX11_looksAt_144 (by decide) (fun hc => ?_) (fun hc => ?_)
      · replace h := iq hc h
        exact b_X11_looksAt_196 hC hr_X11_looksAt hr_X11_looksAtRecords h _ _ _ hP hD hS (lv_sub hl [0, 1, 2] rfl)
      · replace h := ip hc h
        refine lv_aload_n hx hb dX11_looksAt_147 rfl (lv_at hl 0 rfl) ?_
        refine va_get (D := (dC, dI)) (ci := 11) (C := RX11) (T := TX11) (N := 95) hx hb hts inlX11 hown hK hP 0 gB_0 rfl 14 (by decide) (hts (.fieldLink RX11 13 "ShapeReaderModel" "typeSort" "[I") mw_26_28) (fun _ h9 => h9) rfl dX11_looksAt_148 ?_
        refine lv_iload_n hx hb dX11_looksAt_151 rfl (lv_at hl 2 rfl) ?_
        refine va_iald hx hb hK hP 2 1 gB_2 yB_2 (vp_in_iff.mpr hg2) dX11_looksAt_152 ?_
        refine lv_bipush (v := 7) hx hb dX11_looksAt_153 (by decide) ?_
        refine lv_icmp_ne (tgt := 196) hx hb dX11_looksAt_155 (by decide) (fun hc => ?_) (fun hc => ?_)
        · replace h := iq hc h
          exact b_X11_looksAt_196 hC hr_X11_looksAt hr_X11_looksAtRecords h _ _ _ hP hD hS (lv_sub hl [0, 1, 2] rfl)
        · replace h := ip hc h
          refine lv_aload_n hx hb dX11_looksAt_158 rfl (lv_at hl 0 rfl) ?_
          refine lv_aload_n hx hb dX11_looksAt_159 rfl (lv_at hl 0 rfl) ?_
          refine va_get (D := (dC, dI)) (ci := 11) (C := RX11) (T := TX11) (N := 95) hx hb hts inlX11 hown hK hP 0 gB_0 rfl 15 (by decide) (hts (.fieldLink RX11 17 "ShapeReaderModel" "typeArg" "[I") mw_26_29) (fun _ h9 => h9) rfl dX11_looksAt_160 ?_
          refine lv_iload_n hx hb dX11_looksAt_163 rfl (lv_at hl 1 rfl) ?_
          refine va_iald hx hb hK hP 3 2 gB_3 yB_3 (vp_in_iff.mpr hg1) dX11_looksAt_164 ?_
          refine lv_aload_n hx hb dX11_looksAt_165 rfl (lv_at hl 0 rfl) ?_
          refine va_get (D := (dC, dI)) (ci := 11) (C := RX11) (T := TX11) (N := 95) hx hb hts inlX11 hown hK hP 0 gB_0 rfl 15 (by decide) (hts (.fieldLink RX11 17 "ShapeReaderModel" "typeArg" "[I") mw_26_29) (fun _ h9 => h9) rfl dX11_looksAt_166 ?_
          refine lv_iload_n hx hb dX11_looksAt_169 rfl (lv_at hl 2 rfl) ?_
          refine va_iald hx hb hK hP 3 2 gB_3 yB_3 (vp_in_iff.mpr hg2) dX11_looksAt_170 ?_
          obtain ⟨q3, hc, h⟩ := ib h
          have hF := va_frees hD hS hA
          refine va_calli (va_runV (As := [.int (σ.1 3 p0.toNatClampNeg), .int (σ.1 3 p1.toNatClampNeg)]) (rest := []) ⟨hx, hb, hml, hown, hts⟩ (s_X11_namesMay hc) (cwV 2 hts (gV mw_36_8 mw_36_9 mw_36_10 mw_0_15 mw_56_6) rfl rfl rfl (by decide +kernel) ⟨by show 0 + 1 ≤ 343 + (nn + 1); omega, by show 8 + (3 + 11) + 0 ≤ 8525 + 26 * (nn + 1); omega⟩) (vV (ci := 11) (q0 := 0) hK hP hD hN rfl gB_0) rfl rfl hl.1 rfl (lv_room (Nat.le_of_ble_eq_true rfl)) dX11_looksAt_171 ⟨(Nat.le_of_ble_eq_true rfl), (Nat.le_of_ble_eq_true rfl)⟩) hS (fun q _ h => hF q h) hF (fun r4 u t H locs ht hvm hw hB _ _ hS => ?_)
          obtain rfl : r4 = q3.1 := hw
          replace hP : va_P (dC, dI) vwCl (wB a k q3.2) H := by rw [← ht]; exact hB.1
          replace hD := hD0 (q3.2)
          clear hB hF
          refine lv_if_eq (tgt := 196) hx hb dX11_looksAt_174 (by decide) (fun hc => ?_) (fun hc => ?_)
          · replace h := ip hc h
            exact b_X11_looksAt_196 hC hr_X11_looksAt hr_X11_looksAtRecords h _ _ _ hP hD hS (lv_sub hl [0, 1, 2] rfl)
          · replace h := iq hc h
            refine lv_aload_n hx hb dX11_looksAt_177 rfl (lv_at hl 0 rfl) ?_
            refine lv_aload_n hx hb dX11_looksAt_178 rfl (lv_at hl 0 rfl) ?_
            refine va_get (D := (dC, dI)) (ci := 11) (C := RX11) (T := TX11) (N := 95) hx hb hts inlX11 hown hK hP 0 gB_0 rfl 15 (by decide) (hts (.fieldLink RX11 17 "ShapeReaderModel" "typeArg" "[I") mw_26_29) (fun _ h9 => h9) rfl dX11_looksAt_179 ?_
            refine lv_iload_n hx hb dX11_looksAt_182 rfl (lv_at hl 1 rfl) ?_
            refine va_iald hx hb hK hP 3 2 gB_3 yB_3 (vp_in_iff.mpr hg1) dX11_looksAt_183 ?_
            refine lv_aload_n hx hb dX11_looksAt_184 rfl (lv_at hl 0 rfl) ?_
            refine va_get (D := (dC, dI)) (ci := 11) (C := RX11) (T := TX11) (N := 95) hx hb hts inlX11 hown hK hP 0 gB_0 rfl 15 (by decide) (hts (.fieldLink RX11 17 "ShapeReaderModel" "typeArg" "[I") mw_26_29) (fun _ h9 => h9) rfl dX11_looksAt_185 ?_
            refine lv_iload_n hx hb dX11_looksAt_188 rfl (lv_at hl 2 rfl) ?_
            refine va_iald hx hb hK hP 3 2 gB_3 yB_3 (vp_in_iff.mpr hg2) dX11_looksAt_189 ?_
            obtain ⟨q5, hc, h⟩ := ib h
            have hF := va_frees hD hS hA
            refine va_callv (va_runV (As := [.int (q3.2.1 3 p0.toNatClampNeg), .int (q3.2.1 3 p1.toNatClampNeg)]) (rest := []) ⟨hx, hb, hml, hown, hts⟩ (hr_X11_looksAtRecords hc) (cwV 2 hts (gV mw_36_28 mw_36_29 mw_37_0 mw_0_15 mw_56_15) rfl rfl rfl (by decide +kernel) ⟨by show (343 + nn) + 1 ≤ 343 + (nn + 1); omega, by show 8 + (7 + 11) + (8525 + 26 * nn) ≤ 8525 + 26 * (nn + 1); omega⟩) (vV (ci := 11) (q0 := 0) hK hP hD hN rfl gB_0) rfl rfl hl.1 rfl (lv_room (Nat.le_of_ble_eq_true rfl)) dX11_looksAt_190 ⟨(Nat.le_of_ble_eq_true rfl), (Nat.le_of_ble_eq_true rfl)⟩) hS (fun q _ h => hF q h) hF (fun u t H locs ht hvm hw hB _ _ hS => ?_)
            replace hP : va_P (dC, dI) vwCl (wB a k q5) H := by rw [← ht]; exact hB.1
            replace hD := hD0 (q5)
            clear hB hF
            refine lv_goto (tgt := 267) hx hb dX11_looksAt_193 (by decide) ?_
            obtain rfl := Option.some.inj h
            exact W.vret hx hb hr (fun t ht hW => ⟨⟨(), rfl, trivial, ⟨by rw [ht]; exact hP, va_K.moved hW.alike hK, hD⟩⟩, hS.F ht⟩) hS.2.2 dX11_looksAt_267
    · replace h := ip hc h
      refine lv_aload_n hx hb dX11_looksAt_99 rfl (lv_at hl 0 rfl) ?_
      refine lv_iload_n hx hb dX11_looksAt_100 rfl (lv_at hl 1 rfl) ?_
      refine lv_iload_n hx hb dX11_looksAt_101 rfl (lv_at hl 2 rfl) ?_
      obtain ⟨q7, hc, h⟩ := ib h
      have hF := va_frees hD hS hA
      refine va_calli (va_runV (As := [.int p0, .int p1]) (rest := []) ⟨hx, hb, hml, hown, hts⟩ (s_X11_chosen hc) (cwV 2 hts (gV mw_36_5 mw_36_6 mw_36_7 mw_0_15 mw_56_9) rfl rfl rfl (by decide +kernel) ⟨by show 342 + 1 ≤ 343 + (nn + 1); omega, by show 8 + (6 + 11) + 8500 ≤ 8525 + 26 * (nn + 1); omega⟩) (vV (ci := 11) (q0 := 0) hK hP hD hN rfl gB_0) rfl rfl hl.1 rfl (lv_room (Nat.le_of_ble_eq_true rfl)) dX11_looksAt_102 ⟨(Nat.le_of_ble_eq_true rfl), (Nat.le_of_ble_eq_true rfl)⟩) hS (fun q _ h => hF q h) hF (fun r8 u t H locs ht hvm hw hB _ _ hS => ?_)
      obtain rfl : r8 = q7.1 := hw
      replace hP : va_P (dC, dI) vwCl (wB a k q7.2) H := by rw [← ht]; exact hB.1
      replace hD := hD0 (q7.2)
      clear hB hF
      refine lv_istore_n (lv' := [(3, .int q7.1), (0, .ref (a 0)), (1, .int p0), (2, .int p1)]) hx hb dX11_looksAt_105 rfl hl (by decide) rfl (fun ls hl => ?_)
      refine lv_iload_n hx hb dX11_looksAt_106 rfl (lv_at hl 0 rfl) ?_
      refine lv_if_ge (tgt := 118) hx hb dX11_looksAt_107 (by decide) (fun hc => ?_) (fun hc => ?_)
      · replace h := ip hc h
        refine lv_aload_n hx hb dX11_looksAt_118 rfl (lv_at hl 1 rfl) ?_
        refine lv_iload_n hx hb dX11_looksAt_119 rfl (lv_at hl 2 rfl) ?_
        refine lv_aload_n hx hb dX11_looksAt_120 rfl (lv_at hl 1 rfl) ?_
        refine va_get (D := (dC, dI)) (ci := 11) (C := RX11) (T := TX11) (N := 95) hx hb hts inlX11 hown hK hP 0 gB_0 rfl 17 (by decide) (hts (.fieldLink RX11 23 "ShapeReaderModel" "branch" "[I") mw_27_1) (fun _ h9 => h9) rfl dX11_looksAt_121 ?_
        refine lv_iconst (v := 4) hx hb dX11_looksAt_124 (by decide) ?_
        refine lv_iload_n hx hb dX11_looksAt_125 rfl (lv_at hl 3 rfl) ?_
        refine lv_imul hx hb dX11_looksAt_126 ?_
        refine lv_iload_n hx hb dX11_looksAt_127 rfl (lv_at hl 0 rfl) ?_
        refine lv_iadd hx hb dX11_looksAt_128 ?_
        obtain ⟨hg9, h⟩ := ig h
        refine va_iald hx hb hK hP 5 4 gB_5 yB_5 (vp_in_iff.mpr hg9) dX11_looksAt_129 ?_
        obtain ⟨q10, hc, h⟩ := ib h
        have hF := va_frees hD hS hA
        refine va_callv (va_runV (As := [.int p0, .int (q7.2.1 5 ((4 * p1) + q7.1).toNatClampNeg)]) (rest := []) ⟨hx, hb, hml, hown, hts⟩ (hr_X11_looksAt hc) (cwV 2 hts (gV mw_36_22 mw_36_23 mw_36_24 mw_0_15 mw_56_14) rfl rfl rfl (by decide +kernel) ⟨by show (343 + nn) + 1 ≤ 343 + (nn + 1); omega, by show 8 + (5 + 11) + (8525 + 26 * nn) ≤ 8525 + 26 * (nn + 1); omega⟩) (vV (ci := 11) (q0 := 0) hK hP hD hN rfl gB_0) rfl rfl hl.1 rfl (lv_room (Nat.le_of_ble_eq_true rfl)) dX11_looksAt_130 ⟨(Nat.le_of_ble_eq_true rfl), (Nat.le_of_ble_eq_true rfl)⟩) hS (fun q _ h => hF q h) hF (fun u t H locs ht hvm hw hB _ _ hS => ?_)
        replace hP : va_P (dC, dI) vwCl (wB a k q10) H := by rw [← ht]; exact hB.1
        replace hD := hD0 (q10)
        clear hB hF
        refine lv_goto (tgt := 267) hx hb dX11_looksAt_133 (by decide) ?_
        obtain rfl := Option.some.inj h
        exact W.vret hx hb hr (fun t ht hW => ⟨⟨(), rfl, trivial, ⟨by rw [ht]; exact hP, va_K.moved hW.alike hK, hD⟩⟩, hS.F ht⟩) hS.2.2 dX11_looksAt_267
      · replace h := iq hc h
        refine lv_aload_n hx hb dX11_looksAt_110 rfl (lv_at hl 1 rfl) ?_
        refine lv_iconst (v := 3) hx hb dX11_looksAt_111 (by decide) ?_
        obtain ⟨q12, hc, h⟩ := ib h
        have hF := va_frees hD hS hA
        refine va_callv (va_runV (As := [.int 3]) (rest := []) ⟨hx, hb, hml, hown, hts⟩ (s_X11_misses hc) (cwV 1 hts (gV mw_36_25 mw_36_26 mw_36_27 mw_0_15 mw_56_12) rfl rfl rfl (by decide +kernel) ⟨by show 0 + 1 ≤ 343 + (nn + 1); omega, by show 8 + (3 + 11) + 0 ≤ 8525 + 26 * (nn + 1); omega⟩) (vV (ci := 11) (q0 := 0) hK hP hD hN rfl gB_0) rfl rfl hl.1 rfl (lv_room (Nat.le_of_ble_eq_true rfl)) dX11_looksAt_112 ⟨(Nat.le_of_ble_eq_true rfl), (Nat.le_of_ble_eq_true rfl)⟩) hS (fun q _ h => hF q h) hF (fun u t H locs ht hvm hw hB _ _ hS => ?_)
        replace hP : va_P (dC, dI) vwCl (wB a k q12) H := by rw [← ht]; exact hB.1
        replace hD := hD0 (q12)
        clear hB hF
        refine lv_goto (tgt := 133) hx hb dX11_looksAt_115 (by decide) ?_
        refine lv_goto (tgt := 267) hx hb dX11_looksAt_133 (by decide) ?_
        obtain rfl := Option.some.inj h
        exact W.vret hx hb hr (fun t ht hW => ⟨⟨(), rfl, trivial, ⟨by rw [ht]; exact hP, va_K.moved hW.alike hK, hD⟩⟩, hS.F ht⟩) hS.2.2 dX11_looksAt_267
  · replace h := ip hc h
    refine lv_iconst (v := 0) hx hb dX11_looksAt_11 (by decide) ?_
    refine lv_istore_n (lv' := [(3, .int 0), (0, .ref (a 0)), (1, .int p0), (2, .int p1)]) hx hb dX11_looksAt_12 rfl hl (by decide) rfl (fun ls hl => ?_)
    exact b_X11_looksAt_13 hC hr_X11_looksAt hr_X11_looksAtRecords FU _ _ _ _ h _ _ _ hP hD hS (lv_sub hl [1, 2, 3, 0] rfl)


set_option maxRecDepth 100000 in
set_option maxHeartbeats 4000000 in
theorem b_X11_looksAtRecords_116 {p : Program} {l : Launch} {e : Env} {s : State} {m : MethodId} {args : Array Value} {below : List Frame} {meth : Method} {c : Code} {dC : Nat → ClassId} {dI : Nat → Nat → Nat} {a : Nat → Nat} {k : Nat → ClassId} {A : Nat → Prop} {q : ST} (hC : CxB p s m args meth c dC dI k A cX11_looksAtRecords RX11 none 7) {nn : Nat} {r_X11_looksAt : Int32 → Int32 → ST → Option (ST)} (hr_X11_looksAt : ∀ {sz : Nat} {p0 : Int32} {p1 : Int32} {σ : ST} {q : ST}, r_X11_looksAt  p0 p1 σ = some q → Met l yX11_looksAt (.code yX11_looksAt cX11_looksAt 5 none :: pw) ({ frames := 343 + nn, cells := 0, slots := 0, locals := 8525 + 26 * nn } : Room) (va_Pc [.ref (a 0), .int p0, .int p1] (vPre dC dI (wB a k σ) (tB k) sz)) (qBv dC dI a k (va_A (wB a k σ) sz) q) 0 0 (va_A (wB a k σ) sz)) {r_X11_looksAtRecords : Int32 → Int32 → ST → Option (ST)} (hr_X11_looksAtRecords : ∀ {sz : Nat} {p0 : Int32} {p1 : Int32} {σ : ST} {q : ST}, r_X11_looksAtRecords  p0 p1 σ = some q → Met l yX11_looksAtRecords (.code yX11_looksAtRecords cX11_looksAtRecords 7 none :: pw) ({ frames := 343 + nn, cells := 0, slots := 0, locals := 8525 + 26 * nn } : Room) (va_Pc [.ref (a 0), .int p0, .int p1] (vPre dC dI (wB a k σ) (tB k) sz)) (qBv dC dI a k (va_A (wB a k σ) sz) q) 0 0 (va_A (wB a k σ) sz)) {k40 : Int32 → Int32 → Int32 → ST → Option (ST)} (hk40 : ∀ (x1 : Int32) (x3 : Int32) (x4 : Int32) (σ : ST), k40 x1 x3 x4 σ = some q → GoB p l e ({ frames := 343 + (nn + 1), cells := 0, slots := 0, locals := 8525 + 26 * (nn + 1) } : Room) s m args below meth c (MQ below (qBv dC dI a k A q) args s 0 0 A) dC dI a k A 7 40 σ [(0, .ref (a 0)), (1, .int x1), (3, .int x3), (4, .int x4)] []) {x1 : Int32} {x3 : Int32} {x4 : Int32} {σ : ST} (h : f_X11_looksAtRecords_116 r_X11_looksAt r_X11_looksAtRecords k40 x1 x3 x4 σ = some q) : GoB p l e ({ frames := 343 + (nn + 1), cells := 0, slots := 0, locals := 8525 + 26 * (nn + 1) } : Room) s m args below meth c (MQ below (qBv dC dI a k A q) args s 0 0 A) dC dI a k A 7 116 σ [(0, .ref (a 0)), (1, .int x1), (3, .int x3), (4, .int x4)] [] := by
  have hC0 := hC
  obtain ⟨hx, hb, hr, hml, hown, hts, hlocks, hA, hN, hK⟩ := hC0
  intro H locs ls hP hD hS hl
  have hD0 : ∀ σ1 : ST, va_D A (wB a k σ1) := fun σ1 => wB_D hD
  unfold f_X11_looksAtRecords_116 at h
  refine lv_aload_n hx hb dX11_looksAtRecords_116 rfl (lv_at hl 0 rfl) ?_
  refine lv_dup hx hb dX11_looksAtRecords_117 rfl ?_
  refine va_get (D := (dC, dI)) (ci := 11) (C := RX11) (T := TX11) (N := 95) hx hb hts inlX11 hown hK hP 0 gB_0 rfl 57 (by decide) (hts (.fieldLink RX11 516 "ShapeReaderModel" "steps" "I") mw_36_18) (fun _ h9 => h9) rfl dX11_looksAtRecords_118 ?_
  refine lv_iconst (v := 1) hx hb dX11_looksAtRecords_121 (by decide) ?_
  refine lv_isub hx hb dX11_looksAtRecords_122 ?_
  refine va_put (D := (dC, dI)) (ci := 11) (ty := .int) (C := RX11) (T := TX11) (N := 95) hx hb hts inlX11 tyX11 tyX11_ok nmX11 hown hK hP hD hS 0 gB_0 rfl 57 (by decide) (hts (.fieldLink RX11 516 "ShapeReaderModel" "steps" "I") mw_36_18) (fun _ h9 => h9) rfl (by decide +kernel) rfl rfl (Nat.le_of_ble_eq_true rfl) dX11_looksAtRecords_123 (fun H locs hP hD hS => ?_)
  replace hP := uB_0_57 hP
  replace hD := hD0 ((stI σ 0 57 ((σ.1 0 57) - 1)))
  refine lv_iinc (v := (x4 + 1)) (lv' := [(4, .int (x4 + 1)), (0, .ref (a 0)), (1, .int x1), (3, .int x3)]) hx hb dX11_looksAtRecords_126 hl (k := 3) rfl rfl (by decide) rfl (fun ls hl => ?_)
  refine lv_goto (tgt := 40) hx hb dX11_looksAtRecords_129 (by decide) ?_
  exact hk40 _ _ _ _ h _ _ _ hP hD hS (lv_sub hl [1, 2, 3, 0] rfl)

set_option maxRecDepth 100000 in
set_option maxHeartbeats 4000000 in
theorem b_X11_looksAtRecords_40 {p : Program} {l : Launch} {e : Env} {s : State} {m : MethodId} {args : Array Value} {below : List Frame} {meth : Method} {c : Code} {dC : Nat → ClassId} {dI : Nat → Nat → Nat} {a : Nat → Nat} {k : Nat → ClassId} {A : Nat → Prop} {q : ST} (hC : CxB p s m args meth c dC dI k A cX11_looksAtRecords RX11 none 7) {nn : Nat} {r_X11_looksAt : Int32 → Int32 → ST → Option (ST)} (hr_X11_looksAt : ∀ {sz : Nat} {p0 : Int32} {p1 : Int32} {σ : ST} {q : ST}, r_X11_looksAt  p0 p1 σ = some q → Met l yX11_looksAt (.code yX11_looksAt cX11_looksAt 5 none :: pw) ({ frames := 343 + nn, cells := 0, slots := 0, locals := 8525 + 26 * nn } : Room) (va_Pc [.ref (a 0), .int p0, .int p1] (vPre dC dI (wB a k σ) (tB k) sz)) (qBv dC dI a k (va_A (wB a k σ) sz) q) 0 0 (va_A (wB a k σ) sz)) {r_X11_looksAtRecords : Int32 → Int32 → ST → Option (ST)} (hr_X11_looksAtRecords : ∀ {sz : Nat} {p0 : Int32} {p1 : Int32} {σ : ST} {q : ST}, r_X11_looksAtRecords  p0 p1 σ = some q → Met l yX11_looksAtRecords (.code yX11_looksAtRecords cX11_looksAtRecords 7 none :: pw) ({ frames := 343 + nn, cells := 0, slots := 0, locals := 8525 + 26 * nn } : Room) (va_Pc [.ref (a 0), .int p0, .int p1] (vPre dC dI (wB a k σ) (tB k) sz)) (qBv dC dI a k (va_A (wB a k σ) sz) q) 0 0 (va_A (wB a k σ) sz))  : ∀ (n : Nat) (x1 : Int32) (x3 : Int32) (x4 : Int32) (σ : ST), f_X11_looksAtRecords_40 r_X11_looksAt r_X11_looksAtRecords n x1 x3 x4 σ = some q → GoB p l e ({ frames := 343 + (nn + 1), cells := 0, slots := 0, locals := 8525 + 26 * (nn + 1) } : Room) s m args below meth c (MQ below (qBv dC dI a k A q) args s 0 0 A) dC dI a k A 7 40 σ [(0, .ref (a 0)), (1, .int x1), (3, .int x3), (4, .int x4)] [] := by
  intro n
  induction n with
  | zero =>
    intro x1 x3 x4 σ h
    rw [f_X11_looksAtRecords_40] at h
    cases h
  | succ n ih =>
    intro x1 x3 x4 σ h
    have hC0 := hC
    obtain ⟨hx, hb, hr, hml, hown, hts, hlocks, hA, hN, hK⟩ := hC0
    intro H locs ls hP hD hS hl
    have hD0 : ∀ σ1 : ST, va_D A (wB a k σ1) := fun σ1 => wB_D hD
    rw [f_X11_looksAtRecords_40] at h
    refine lv_iload hx hb dX11_looksAtRecords_40 (lv_at hl 3 rfl) ?_
    refine lv_aload_n hx hb dX11_looksAtRecords_42 rfl (lv_at hl 0 rfl) ?_
    refine va_get (D := (dC, dI)) (ci := 11) (C := RX11) (T := TX11) (N := 95) hx hb hts inlX11 hown hK hP 0 gB_0 rfl 23 (by decide) (hts (.fieldLink RX11 42 "ShapeReaderModel" "fieldMany" "[I") mw_27_7) (fun _ h9 => h9) rfl dX11_looksAtRecords_43 ?_
    refine lv_iload_n hx hb dX11_looksAtRecords_46 rfl (lv_at hl 2 rfl) ?_
    obtain ⟨hg1, h⟩ := ig h
    refine va_iald hx hb hK hP 11 10 gB_11 yB_11 (vp_in_iff.mpr hg1) dX11_looksAtRecords_47 ?_
    refine lv_icmp_ge (tgt := 132) hx hb dX11_looksAtRecords_48 (by decide) (fun hc => ?_) (fun hc => ?_)
    · replace h := ip hc h
      obtain rfl := Option.some.inj h
      exact W.vret hx hb hr (fun t ht hW => ⟨⟨(), rfl, trivial, ⟨by rw [ht]; exact hP, va_K.moved hW.alike hK, hD⟩⟩, hS.F ht⟩) hS.2.2 dX11_looksAtRecords_132
    · replace h := iq hc h
      refine lv_bipush (v := 8) hx hb dX11_looksAtRecords_51 (by decide) ?_
      refine lv_iload_n hx hb dX11_looksAtRecords_53 rfl (lv_at hl 2 rfl) ?_
      refine lv_imul hx hb dX11_looksAtRecords_54 ?_
      refine lv_iload hx hb dX11_looksAtRecords_55 (lv_at hl 3 rfl) ?_
      refine lv_iadd hx hb dX11_looksAtRecords_57 ?_
      refine lv_istore (lv' := [(5, .int ((8 * x3) + x4)), (0, .ref (a 0)), (1, .int x1), (3, .int x3), (4, .int x4)]) hx hb dX11_looksAtRecords_58 hl (by decide) rfl (fun ls hl => ?_)
      refine lv_aload_n hx hb dX11_looksAtRecords_60 rfl (lv_at hl 1 rfl) ?_
      refine lv_iload_n hx hb dX11_looksAtRecords_61 rfl (lv_at hl 2 rfl) ?_
      refine lv_iload hx hb dX11_looksAtRecords_62 (lv_at hl 0 rfl) ?_
      obtain ⟨q2, hc, h⟩ := ib h
      have hF := va_frees hD hS hA
      refine va_calli (va_runV (As := [.int x1, .int ((8 * x3) + x4)]) (rest := []) ⟨hx, hb, hml, hown, hts⟩ (s_X11_fieldFor hc) (cwV 2 hts (gV mw_36_11 mw_36_12 mw_36_13 mw_0_15 mw_56_7) rfl rfl rfl (by decide +kernel) ⟨by show 1 + 1 ≤ 343 + (nn + 1); omega, by show 8 + (4 + 11) + 24 ≤ 8525 + 26 * (nn + 1); omega⟩) (vV (ci := 11) (q0 := 0) hK hP hD hN rfl gB_0) rfl rfl hl.1 rfl (lv_room (Nat.le_of_ble_eq_true rfl)) dX11_looksAtRecords_64 ⟨(Nat.le_of_ble_eq_true rfl), (Nat.le_of_ble_eq_true rfl)⟩) hS (fun q _ h => hF q h) hF (fun r3 u t H locs ht hvm hw hB _ _ hS => ?_)
      obtain rfl : r3 = q2.1 := hw
      replace hP : va_P (dC, dI) vwCl (wB a k q2.2) H := by rw [← ht]; exact hB.1
      replace hD := hD0 (q2.2)
      clear hB hF
      refine lv_istore (lv' := [(6, .int q2.1), (5, .int ((8 * x3) + x4)), (0, .ref (a 0)), (1, .int x1), (3, .int x3), (4, .int x4)]) hx hb dX11_looksAtRecords_67 hl (by decide) rfl (fun ls hl => ?_)
      refine lv_aload_n hx hb dX11_looksAtRecords_69 rfl (lv_at hl 2 rfl) ?_
      refine lv_iload hx hb dX11_looksAtRecords_70 (lv_at hl 5 rfl) ?_
      obtain ⟨q4, hc, h⟩ := ib h
      have hF := va_frees hD hS hA
      refine va_callv (va_runV (As := [.int x4]) (rest := []) ⟨hx, hb, hml, hown, hts⟩ (s_X11_enters hc) (cwV 1 hts (gV mw_36_19 mw_36_20 mw_36_21 mw_0_15 mw_56_13) rfl rfl rfl (by decide +kernel) ⟨by show 0 + 1 ≤ 343 + (nn + 1); omega, by show 8 + (2 + 11) + 0 ≤ 8525 + 26 * (nn + 1); omega⟩) (vV (ci := 11) (q0 := 0) hK hP hD hN rfl gB_0) rfl rfl hl.1 rfl (lv_room (Nat.le_of_ble_eq_true rfl)) dX11_looksAtRecords_72 ⟨(Nat.le_of_ble_eq_true rfl), (Nat.le_of_ble_eq_true rfl)⟩) hS (fun q _ h => hF q h) hF (fun u t H locs ht hvm hw hB _ _ hS => ?_)
      replace hP : va_P (dC, dI) vwCl (wB a k q4) H := by rw [← ht]; exact hB.1
      replace hD := hD0 (q4)
      clear hB hF
      refine lv_iload hx hb dX11_looksAtRecords_75 (lv_at hl 0 rfl) ?_
      refine lv_if_lt (tgt := 101) hx hb dX11_looksAtRecords_77 (by decide) (fun hc => ?_) (fun hc => ?_)
      · replace h := ip hc h
        refine lv_aload_n hx hb dX11_looksAtRecords_101 rfl (lv_at hl 2 rfl) ?_
        refine va_get (D := (dC, dI)) (ci := 11) (C := RX11) (T := TX11) (N := 95) hx hb hts inlX11 hown hK hP 0 gB_0 rfl 28 (by decide) (hts (.fieldLink RX11 57 "ShapeReaderModel" "hasElse" "[Z") mw_27_12) (fun _ h9 => h9) rfl dX11_looksAtRecords_102 ?_
        refine lv_iload hx hb dX11_looksAtRecords_105 (lv_at hl 1 rfl) ?_
        obtain ⟨hg6, h⟩ := ig h
        refine va_zald hx hb hK hP 16 15 gB_16 yB_16 (vp_in_iff.mpr hg6) dX11_looksAtRecords_107 ?_
        refine lv_if_ne (tgt := 116) hx hb dX11_looksAtRecords_108 (by decide) (fun hc => ?_) (fun hc => ?_)
        · replace h := iq hc h
          exact b_X11_looksAtRecords_116 hC hr_X11_looksAt hr_X11_looksAtRecords ih h _ _ _ hP hD hS (lv_sub hl [2, 3, 4, 5] rfl)
        · replace h := ip hc h
          refine lv_aload_n hx hb dX11_looksAtRecords_111 rfl (lv_at hl 2 rfl) ?_
          refine lv_iconst (v := 1) hx hb dX11_looksAtRecords_112 (by decide) ?_
          obtain ⟨q7, hc, h⟩ := ib h
          have hF := va_frees hD hS hA
          refine va_callv (va_runV (As := [.int 1]) (rest := []) ⟨hx, hb, hml, hown, hts⟩ (s_X11_misses hc) (cwV 1 hts (gV mw_36_25 mw_36_26 mw_36_27 mw_0_15 mw_56_12) rfl rfl rfl (by decide +kernel) ⟨by show 0 + 1 ≤ 343 + (nn + 1); omega, by show 8 + (3 + 11) + 0 ≤ 8525 + 26 * (nn + 1); omega⟩) (vV (ci := 11) (q0 := 0) hK hP hD hN rfl gB_0) rfl rfl hl.1 rfl (lv_room (Nat.le_of_ble_eq_true rfl)) dX11_looksAtRecords_113 ⟨(Nat.le_of_ble_eq_true rfl), (Nat.le_of_ble_eq_true rfl)⟩) hS (fun q _ h => hF q h) hF (fun u t H locs ht hvm hw hB _ _ hS => ?_)
          replace hP : va_P (dC, dI) vwCl (wB a k q7) H := by rw [← ht]; exact hB.1
          replace hD := hD0 (q7)
          clear hB hF
          exact b_X11_looksAtRecords_116 hC hr_X11_looksAt hr_X11_looksAtRecords ih h _ _ _ hP hD hS (lv_sub hl [2, 3, 4, 5] rfl)
      · replace h := iq hc h
        refine lv_aload_n hx hb dX11_looksAtRecords_80 rfl (lv_at hl 2 rfl) ?_
        refine lv_aload_n hx hb dX11_looksAtRecords_81 rfl (lv_at hl 2 rfl) ?_
        refine va_get (D := (dC, dI)) (ci := 11) (C := RX11) (T := TX11) (N := 95) hx hb hts inlX11 hown hK hP 0 gB_0 rfl 27 (by decide) (hts (.fieldLink RX11 54 "ShapeReaderModel" "fieldType" "[I") mw_27_11) (fun _ h9 => h9) rfl dX11_looksAtRecords_82 ?_
        refine lv_iload hx hb dX11_looksAtRecords_85 (lv_at hl 0 rfl) ?_
        obtain ⟨hg9, h⟩ := ig h
        refine va_iald hx hb hK hP 15 14 gB_15 yB_15 (vp_in_iff.mpr hg9) dX11_looksAtRecords_87 ?_
        refine lv_aload_n hx hb dX11_looksAtRecords_88 rfl (lv_at hl 2 rfl) ?_
        refine va_get (D := (dC, dI)) (ci := 11) (C := RX11) (T := TX11) (N := 95) hx hb hts inlX11 hown hK hP 0 gB_0 rfl 27 (by decide) (hts (.fieldLink RX11 54 "ShapeReaderModel" "fieldType" "[I") mw_27_11) (fun _ h9 => h9) rfl dX11_looksAtRecords_89 ?_
        refine lv_iload hx hb dX11_looksAtRecords_92 (lv_at hl 1 rfl) ?_
        obtain ⟨hg10, h⟩ := ig h
        refine va_iald hx hb hK hP 15 14 gB_15 yB_15 (vp_in_iff.mpr hg10) dX11_looksAtRecords_94 ?_
        obtain ⟨q11, hc, h⟩ := ib h
        have hF := va_frees hD hS hA
        refine va_callv (va_runV (As := [.int (q4.1 15 q2.1.toNatClampNeg), .int (q4.1 15 ((8 * x3) + x4).toNatClampNeg)]) (rest := []) ⟨hx, hb, hml, hown, hts⟩ (hr_X11_looksAt hc) (cwV 2 hts (gV mw_36_22 mw_36_23 mw_36_24 mw_0_15 mw_56_14) rfl rfl rfl (by decide +kernel) ⟨by show (343 + nn) + 1 ≤ 343 + (nn + 1); omega, by show 8 + (5 + 11) + (8525 + 26 * nn) ≤ 8525 + 26 * (nn + 1); omega⟩) (vV (ci := 11) (q0 := 0) hK hP hD hN rfl gB_0) rfl rfl hl.1 rfl (lv_room (Nat.le_of_ble_eq_true rfl)) dX11_looksAtRecords_95 ⟨(Nat.le_of_ble_eq_true rfl), (Nat.le_of_ble_eq_true rfl)⟩) hS (fun q _ h => hF q h) hF (fun u t H locs ht hvm hw hB _ _ hS => ?_)
        replace hP : va_P (dC, dI) vwCl (wB a k q11) H := by rw [← ht]; exact hB.1
        replace hD := hD0 (q11)
        clear hB hF
        refine lv_goto (tgt := 116) hx hb dX11_looksAtRecords_98 (by decide) ?_
        exact b_X11_looksAtRecords_116 hC hr_X11_looksAt hr_X11_looksAtRecords ih h _ _ _ hP hD hS (lv_sub hl [2, 3, 4, 5] rfl)

set_option maxRecDepth 100000 in
set_option maxHeartbeats 4000000 in
theorem b_X11_looksAtRecords_e {p : Program} {l : Launch} {e : Env} {s : State} {m : MethodId} {args : Array Value} {below : List Frame} {meth : Method} {c : Code} {dC : Nat → ClassId} {dI : Nat → Nat → Nat} {a : Nat → Nat} {k : Nat → ClassId} {A : Nat → Prop} {q : ST} (hC : CxB p s m args meth c dC dI k A cX11_looksAtRecords RX11 none 7) {nn : Nat} {r_X11_looksAt : Int32 → Int32 → ST → Option (ST)} (hr_X11_looksAt : ∀ {sz : Nat} {p0 : Int32} {p1 : Int32} {σ : ST} {q : ST}, r_X11_looksAt  p0 p1 σ = some q → Met l yX11_looksAt (.code yX11_looksAt cX11_looksAt 5 none :: pw) ({ frames := 343 + nn, cells := 0, slots := 0, locals := 8525 + 26 * nn } : Room) (va_Pc [.ref (a 0), .int p0, .int p1] (vPre dC dI (wB a k σ) (tB k) sz)) (qBv dC dI a k (va_A (wB a k σ) sz) q) 0 0 (va_A (wB a k σ) sz)) {r_X11_looksAtRecords : Int32 → Int32 → ST → Option (ST)} (hr_X11_looksAtRecords : ∀ {sz : Nat} {p0 : Int32} {p1 : Int32} {σ : ST} {q : ST}, r_X11_looksAtRecords  p0 p1 σ = some q → Met l yX11_looksAtRecords (.code yX11_looksAtRecords cX11_looksAtRecords 7 none :: pw) ({ frames := 343 + nn, cells := 0, slots := 0, locals := 8525 + 26 * nn } : Room) (va_Pc [.ref (a 0), .int p0, .int p1] (vPre dC dI (wB a k σ) (tB k) sz)) (qBv dC dI a k (va_A (wB a k σ) sz) q) 0 0 (va_A (wB a k σ) sz))  {p0 : Int32} {p1 : Int32} {σ : ST} (h : f_X11_looksAtRecords r_X11_looksAt r_X11_looksAtRecords p0 p1 σ = some q) : GoB p l e ({ frames := 343 + (nn + 1), cells := 0, slots := 0, locals := 8525 + 26 * (nn + 1) } : Room) s m args below meth c (MQ below (qBv dC dI a k A q) args s 0 0 A) dC dI a k A 7 0 σ (lv_args 0 [.ref (a 0), .int p0, .int p1]) [] := by
  have hC0 := hC
  obtain ⟨hx, hb, hr, hml, hown, hts, hlocks, hA, hN, hK⟩ := hC0
  intro H locs ls hP hD hS hl
  have hD0 : ∀ σ1 : ST, va_D A (wB a k σ1) := fun σ1 => wB_D hD
  replace hl : lv_has ls 7 [(0, .ref (a 0)), (1, .int p0), (2, .int p1)] := hl
  unfold f_X11_looksAtRecords at h
  refine lv_aload_n hx hb dX11_looksAtRecords_0 rfl (lv_at hl 0 rfl) ?_
  refine va_get (D := (dC, dI)) (ci := 11) (C := RX11) (T := TX11) (N := 95) hx hb hts inlX11 hown hK hP 0 gB_0 rfl 62 (by decide) (hts (.fieldLink RX11 130 "ShapeReaderModel" "looked" "[Z") mw_28_6) (fun _ h9 => h9) rfl dX11_looksAtRecords_1 ?_
  refine lv_bipush (v := 6) hx hb dX11_looksAtRecords_4 (by decide) ?_
  refine lv_iload_n hx hb dX11_looksAtRecords_6 rfl (lv_at hl 1 rfl) ?_
  refine lv_imul hx hb dX11_looksAtRecords_7 ?_
  refine lv_iload_n hx hb dX11_looksAtRecords_8 rfl (lv_at hl 2 rfl) ?_
  refine lv_iadd hx hb dX11_looksAtRecords_9 ?_
  obtain ⟨hg1, h⟩ := ig h
  refine va_zald hx hb hK hP 40 39 gB_40 yB_40 (vp_in_iff.mpr hg1) dX11_looksAtRecords_10 ?_
  refine lv_if_eq (tgt := 15) hx hb dX11_looksAtRecords_11 (by decide) (fun hc => ?_) (fun hc => ?_)
  · replace h := ip hc h
    refine lv_aload_n hx hb dX11_looksAtRecords_15 rfl (lv_at hl 0 rfl) ?_
    refine va_get (D := (dC, dI)) (ci := 11) (C := RX11) (T := TX11) (N := 95) hx hb hts inlX11 hown hK hP 0 gB_0 rfl 62 (by decide) (hts (.fieldLink RX11 130 "ShapeReaderModel" "looked" "[Z") mw_28_6) (fun _ h9 => h9) rfl dX11_looksAtRecords_16 ?_
    refine lv_bipush (v := 6) hx hb dX11_looksAtRecords_19 (by decide) ?_
    refine lv_iload_n hx hb dX11_looksAtRecords_21 rfl (lv_at hl 1 rfl) ?_
    refine lv_imul hx hb dX11_looksAtRecords_22 ?_
    refine lv_iload_n hx hb dX11_looksAtRecords_23 rfl (lv_at hl 2 rfl) ?_
    refine lv_iadd hx hb dX11_looksAtRecords_24 ?_
    refine lv_iconst (v := 1) hx hb dX11_looksAtRecords_25 (by decide) ?_
    refine va_zast hx hb hK hP hD hS 40 39 gB_40 yB_40 (vp_in_iff.mpr hg1) dX11_looksAtRecords_26 (fun H locs hP hD hS => ?_)
    replace hP := uB_40 hP
    replace hD := hD0 ((stI σ 40 ((6 * p0) + p1).toNatClampNeg (vp_nar .boolean 1)))
    refine lv_bipush (v := 6) hx hb dX11_looksAtRecords_27 (by decide) ?_
    refine lv_aload_n hx hb dX11_looksAtRecords_29 rfl (lv_at hl 0 rfl) ?_
    refine va_get (D := (dC, dI)) (ci := 11) (C := RX11) (T := TX11) (N := 95) hx hb hts inlX11 hown hK hP 0 gB_0 rfl 54 (by decide) (hts (.fieldLink RX11 495 "ShapeReaderModel" "reader" "I") mw_36_1) (fun _ h9 => h9) rfl dX11_looksAtRecords_30 ?_
    refine lv_imul hx hb dX11_looksAtRecords_33 ?_
    refine lv_iload_n hx hb dX11_looksAtRecords_34 rfl (lv_at hl 2 rfl) ?_
    refine lv_iadd hx hb dX11_looksAtRecords_35 ?_
    obtain ⟨x2, hs, h⟩ := ib h
    replace hs := Option.some.inj hs
    refine lv_topi (fun y9 e9 => ?_)
    obtain rfl : x2 = y9 := (e9.trans hs).symm
    clear hs e9
    refine lv_istore_n (lv' := [(3, .int x2), (0, .ref (a 0)), (1, .int p0), (2, .int p1)]) hx hb dX11_looksAtRecords_36 rfl hl (by decide) rfl (fun ls hl => ?_)
    refine lv_iconst (v := 0) hx hb dX11_looksAtRecords_37 (by decide) ?_
    refine lv_istore (lv' := [(4, .int 0), (3, .int x2), (0, .ref (a 0)), (1, .int p0), (2, .int p1)]) hx hb dX11_looksAtRecords_38 hl (by decide) rfl (fun ls hl => ?_)
    exact b_X11_looksAtRecords_40 hC hr_X11_looksAt hr_X11_looksAtRecords FU _ _ _ _ h _ _ _ hP hD hS (lv_sub hl [2, 3, 1, 0] rfl)
  · replace h := iq hc h
    obtain rfl := Option.some.inj h
    exact W.vret hx hb hr (fun t ht hW => ⟨⟨(), rfl, trivial, ⟨by rw [ht]; exact hP, va_K.moved hW.alike hK, hD⟩⟩, hS.F ht⟩) hS.2.2 dX11_looksAtRecords_14


set_option maxRecDepth 100000 in
set_option maxHeartbeats 4000000 in
theorem s_R_X11_looksAt {l : Launch} {dC : Nat → ClassId} {dI : Nat → Nat → Nat} {a : Nat → Nat} {k : Nat → ClassId} : ∀ n : Nat, (∀ {sz : Nat} {p0 : Int32} {p1 : Int32} {σ : ST} {q : ST}, (R_X11_looksAt n).1 p0 p1 σ = some q → Met l yX11_looksAt (.code yX11_looksAt cX11_looksAt 5 none :: pw) ({ frames := 343 + n, cells := 0, slots := 0, locals := 8525 + 26 * n } : Room) (va_Pc [.ref (a 0), .int p0, .int p1] (vPre dC dI (wB a k σ) (tB k) sz)) (qBv dC dI a k (va_A (wB a k σ) sz) q) 0 0 (va_A (wB a k σ) sz)) ∧ (∀ {sz : Nat} {p0 : Int32} {p1 : Int32} {σ : ST} {q : ST}, (R_X11_looksAt n).2 p0 p1 σ = some q → Met l yX11_looksAtRecords (.code yX11_looksAtRecords cX11_looksAtRecords 7 none :: pw) ({ frames := 343 + n, cells := 0, slots := 0, locals := 8525 + 26 * n } : Room) (va_Pc [.ref (a 0), .int p0, .int p1] (vPre dC dI (wB a k σ) (tB k) sz)) (qBv dC dI a k (va_A (wB a k σ) sz) q) 0 0 (va_A (wB a k σ) sz)) := by
  intro n
  induction n with
  | zero => exact ⟨(fun h => nomatch h), (fun h => nomatch h)⟩
  | succ n ih => exact ⟨(fun h => metB (fun A => qBv dC dI a k A _) (plainFor_of_name (by decide)) (Nat.le_of_ble_eq_true rfl) (fun _ _ _ _ _ _ _ _ hC => b_X11_looksAt_e hC ih.1 ih.2 h)), (fun h => metB (fun A => qBv dC dI a k A _) (plainFor_of_name (by decide)) (Nat.le_of_ble_eq_true rfl) (fun _ _ _ _ _ _ _ _ hC => b_X11_looksAtRecords_e hC ih.1 ih.2 h))⟩
theorem s_X11_looksAt {l : Launch} {dC : Nat → ClassId} {dI : Nat → Nat → Nat} {a : Nat → Nat} {k : Nat → ClassId} {sz : Nat} {p0 : Int32} {p1 : Int32} {σ : ST} {q : ST} (h : f_T_X11_looksAt p0 p1 σ = some q) : Met l yX11_looksAt (.code yX11_looksAt cX11_looksAt 5 none :: pw) ({ frames := 683, cells := 0, slots := 0, locals := 17365 } : Room) (va_Pc [.ref (a 0), .int p0, .int p1] (vPre dC dI (wB a k σ) (tB k) sz)) (qBv dC dI a k (va_A (wB a k σ) sz) q) 0 0 (va_A (wB a k σ) sz) := (s_R_X11_looksAt FRB).1 h
theorem s_X11_looksAtRecords {l : Launch} {dC : Nat → ClassId} {dI : Nat → Nat → Nat} {a : Nat → Nat} {k : Nat → ClassId} {sz : Nat} {p0 : Int32} {p1 : Int32} {σ : ST} {q : ST} (h : f_T_X11_looksAtRecords p0 p1 σ = some q) : Met l yX11_looksAtRecords (.code yX11_looksAtRecords cX11_looksAtRecords 7 none :: pw) ({ frames := 683, cells := 0, slots := 0, locals := 17365 } : Room) (va_Pc [.ref (a 0), .int p0, .int p1] (vPre dC dI (wB a k σ) (tB k) sz)) (qBv dC dI a k (va_A (wB a k σ) sz) q) 0 0 (va_A (wB a k σ) sz) := (s_R_X11_looksAt FRB).2 h

def f_X11_laysMisses_18  : Nat → Int32 → ST → Option (ST)
  | 0, _, _ => none
  | n + 1, x3, σ => if 36 ≤ x3 then ((f_T_X11_looksAtRecords  0 0 σ).bind fun q1 => some q1) else (if 0 ≤ x3.toInt ∧ x3.toInt < 36 then (f_X11_laysMisses_18  n (x3 + 1) (stI σ 40 x3.toNatClampNeg (vp_nar .boolean 0))) else none)
def f_X11_laysMisses (p0 : Int32) (p1 : Int32) (σ : ST) : Option (ST) := (f_X11_laysPairs  p0 p1 σ).bind fun q1 => f_X11_laysMisses_18  FU 0 (stI (stI q1 0 61 0) 0 57 0)

set_option maxRecDepth 100000 in
set_option maxHeartbeats 4000000 in
theorem b_X11_laysMisses_18 {p : Program} {l : Launch} {e : Env} {s : State} {m : MethodId} {args : Array Value} {below : List Frame} {meth : Method} {c : Code} {dC : Nat → ClassId} {dI : Nat → Nat → Nat} {a : Nat → Nat} {k : Nat → ClassId} {A : Nat → Prop} {q : ST} (hC : CxB p s m args meth c dC dI k A cX11_laysMisses RX11 none 4)   : ∀ (n : Nat) (x3 : Int32) (σ : ST), f_X11_laysMisses_18  n x3 σ = some q → GoB p l e ({ frames := 684, cells := 0, slots := 0, locals := 17391 } : Room) s m args below meth c (MQ below (qBv dC dI a k A q) args s 0 0 A) dC dI a k A 4 18 σ [(0, .ref (a 0)), (3, .int x3)] [] := by
  intro n
  induction n with
  | zero =>
    intro x3 σ h
    rw [f_X11_laysMisses_18] at h
    cases h
  | succ n ih =>
    intro x3 σ h
    have hC0 := hC
    obtain ⟨hx, hb, hr, hml, hown, hts, hlocks, hA, hN, hK⟩ := hC0
    intro H locs ls hP hD hS hl
    have hD0 : ∀ σ1 : ST, va_D A (wB a k σ1) := fun σ1 => wB_D hD
    rw [f_X11_laysMisses_18] at h
    refine lv_iload_n hx hb dX11_laysMisses_18 rfl (lv_at hl 1 rfl) ?_
    refine lv_bipush (v := 36) hx hb dX11_laysMisses_19 (by decide) ?_
    refine lv_icmp_ge (tgt := 37) hx hb dX11_laysMisses_21 (by decide) (fun hc => ?_) (fun hc => ?_)
    · replace h := ip hc h
      refine lv_aload_n hx hb dX11_laysMisses_37 rfl (lv_at hl 0 rfl) ?_
      refine lv_iconst (v := 0) hx hb dX11_laysMisses_38 (by decide) ?_
      refine lv_iconst (v := 0) hx hb dX11_laysMisses_39 (by decide) ?_
      obtain ⟨q1, hc, h⟩ := ib h
      have hF := va_frees hD hS hA
      refine va_callv (va_runV (As := [.int 0, .int 0]) (rest := []) ⟨hx, hb, hml, hown, hts⟩ (s_X11_looksAtRecords hc) (cwV 2 hts (gV mw_36_28 mw_36_29 mw_37_0 mw_0_15 mw_56_15) rfl rfl rfl (by decide +kernel) ⟨(Nat.le_of_ble_eq_true rfl), (Nat.le_of_ble_eq_true rfl)⟩) (vV (ci := 11) (q0 := 0) hK hP hD hN rfl gB_0) rfl rfl hl.1 rfl (lv_room (Nat.le_of_ble_eq_true rfl)) dX11_laysMisses_40 ⟨(Nat.le_of_ble_eq_true rfl), (Nat.le_of_ble_eq_true rfl)⟩) hS (fun q _ h => hF q h) hF (fun u t H locs ht hvm hw hB _ _ hS => ?_)
      replace hP : va_P (dC, dI) vwCl (wB a k q1) H := by rw [← ht]; exact hB.1
      replace hD := hD0 (q1)
      clear hB hF
      obtain rfl := Option.some.inj h
      exact W.vret hx hb hr (fun t ht hW => ⟨⟨(), rfl, trivial, ⟨by rw [ht]; exact hP, va_K.moved hW.alike hK, hD⟩⟩, hS.F ht⟩) hS.2.2 dX11_laysMisses_43
    · replace h := iq hc h
      refine lv_aload_n hx hb dX11_laysMisses_24 rfl (lv_at hl 0 rfl) ?_
      refine va_get (D := (dC, dI)) (ci := 11) (C := RX11) (T := TX11) (N := 95) hx hb hts inlX11 hown hK hP 0 gB_0 rfl 62 (by decide) (hts (.fieldLink RX11 130 "ShapeReaderModel" "looked" "[Z") mw_28_6) (fun _ h9 => h9) rfl dX11_laysMisses_25 ?_
      refine lv_iload_n hx hb dX11_laysMisses_28 rfl (lv_at hl 1 rfl) ?_
      refine lv_iconst (v := 0) hx hb dX11_laysMisses_29 (by decide) ?_
      obtain ⟨hg3, h⟩ := ig h
      refine va_zast hx hb hK hP hD hS 40 39 gB_40 yB_40 (vp_in_iff.mpr hg3) dX11_laysMisses_30 (fun H locs hP hD hS => ?_)
      replace hP := uB_40 hP
      replace hD := hD0 ((stI σ 40 x3.toNatClampNeg (vp_nar .boolean 0)))
      refine lv_iinc (v := (x3 + 1)) (lv' := [(3, .int (x3 + 1)), (0, .ref (a 0))]) hx hb dX11_laysMisses_31 hl (k := 1) rfl rfl (by decide) rfl (fun ls hl => ?_)
      refine lv_goto (tgt := 18) hx hb dX11_laysMisses_34 (by decide) ?_
      exact ih _ _ h _ _ _ hP hD hS (lv_sub hl [1, 0] rfl)

set_option maxRecDepth 100000 in
set_option maxHeartbeats 4000000 in
theorem b_X11_laysMisses_e {p : Program} {l : Launch} {e : Env} {s : State} {m : MethodId} {args : Array Value} {below : List Frame} {meth : Method} {c : Code} {dC : Nat → ClassId} {dI : Nat → Nat → Nat} {a : Nat → Nat} {k : Nat → ClassId} {A : Nat → Prop} {q : ST} (hC : CxB p s m args meth c dC dI k A cX11_laysMisses RX11 none 4)   {p0 : Int32} {p1 : Int32} {σ : ST} (h : f_X11_laysMisses  p0 p1 σ = some q) : GoB p l e ({ frames := 684, cells := 0, slots := 0, locals := 17391 } : Room) s m args below meth c (MQ below (qBv dC dI a k A q) args s 0 0 A) dC dI a k A 4 0 σ (lv_args 0 [.ref (a 0), .int p0, .int p1]) [] := by
  have hC0 := hC
  obtain ⟨hx, hb, hr, hml, hown, hts, hlocks, hA, hN, hK⟩ := hC0
  intro H locs ls hP hD hS hl
  have hD0 : ∀ σ1 : ST, va_D A (wB a k σ1) := fun σ1 => wB_D hD
  replace hl : lv_has ls 4 [(0, .ref (a 0)), (1, .int p0), (2, .int p1)] := hl
  unfold f_X11_laysMisses at h
  refine lv_aload_n hx hb dX11_laysMisses_0 rfl (lv_at hl 0 rfl) ?_
  refine lv_iload_n hx hb dX11_laysMisses_1 rfl (lv_at hl 1 rfl) ?_
  refine lv_iload_n hx hb dX11_laysMisses_2 rfl (lv_at hl 2 rfl) ?_
  obtain ⟨q1, hc, h⟩ := ib h
  have hF := va_frees hD hS hA
  refine va_callv (va_runV (As := [.int p0, .int p1]) (rest := []) ⟨hx, hb, hml, hown, hts⟩ (s_X11_laysPairs hc) (cwV 2 hts (gV mw_37_1 mw_37_2 mw_37_3 mw_0_15 mw_56_11) rfl rfl rfl (by decide +kernel) ⟨(Nat.le_of_ble_eq_true rfl), (Nat.le_of_ble_eq_true rfl)⟩) (vV (ci := 11) (q0 := 0) hK hP hD hN rfl gB_0) rfl rfl hl.1 rfl (lv_room (Nat.le_of_ble_eq_true rfl)) dX11_laysMisses_3 ⟨(Nat.le_of_ble_eq_true rfl), (Nat.le_of_ble_eq_true rfl)⟩) hS (fun q _ h => hF q h) hF (fun u t H locs ht hvm hw hB _ _ hS => ?_)
  replace hP : va_P (dC, dI) vwCl (wB a k q1) H := by rw [← ht]; exact hB.1
  replace hD := hD0 (q1)
  clear hB hF
  refine lv_aload_n hx hb dX11_laysMisses_6 rfl (lv_at hl 0 rfl) ?_
  refine lv_iconst (v := 0) hx hb dX11_laysMisses_7 (by decide) ?_
  refine va_put (D := (dC, dI)) (ci := 11) (ty := .int) (C := RX11) (T := TX11) (N := 95) hx hb hts inlX11 tyX11 tyX11_ok nmX11 hown hK hP hD hS 0 gB_0 rfl 61 (by decide) (hts (.fieldLink RX11 513 "ShapeReaderModel" "misses" "I") mw_36_17) (fun _ h9 => h9) rfl (by decide +kernel) rfl rfl (Nat.le_of_ble_eq_true rfl) dX11_laysMisses_8 (fun H locs hP hD hS => ?_)
  replace hP := uB_0_61 hP
  replace hD := hD0 ((stI q1 0 61 0))
  refine lv_aload_n hx hb dX11_laysMisses_11 rfl (lv_at hl 0 rfl) ?_
  refine lv_iconst (v := 0) hx hb dX11_laysMisses_12 (by decide) ?_
  refine va_put (D := (dC, dI)) (ci := 11) (ty := .int) (C := RX11) (T := TX11) (N := 95) hx hb hts inlX11 tyX11 tyX11_ok nmX11 hown hK hP hD hS 0 gB_0 rfl 57 (by decide) (hts (.fieldLink RX11 516 "ShapeReaderModel" "steps" "I") mw_36_18) (fun _ h9 => h9) rfl (by decide +kernel) rfl rfl (Nat.le_of_ble_eq_true rfl) dX11_laysMisses_13 (fun H locs hP hD hS => ?_)
  replace hP := uB_0_57 hP
  replace hD := hD0 ((stI (stI q1 0 61 0) 0 57 0))
  refine lv_iconst (v := 0) hx hb dX11_laysMisses_16 (by decide) ?_
  refine lv_istore_n (lv' := [(3, .int 0), (0, .ref (a 0)), (1, .int p0), (2, .int p1)]) hx hb dX11_laysMisses_17 rfl hl (by decide) rfl (fun ls hl => ?_)
  exact b_X11_laysMisses_18 hC FU _ _ h _ _ _ hP hD hS (lv_sub hl [1, 0] rfl)

theorem s_X11_laysMisses {l : Launch} {dC : Nat → ClassId} {dI : Nat → Nat → Nat} {a : Nat → Nat} {k : Nat → ClassId} {sz : Nat} {p0 : Int32} {p1 : Int32} {σ : ST} {q : ST} (h : f_X11_laysMisses  p0 p1 σ = some q) : Met l yX11_laysMisses (.code yX11_laysMisses cX11_laysMisses 4 none :: pw) ({ frames := 684, cells := 0, slots := 0, locals := 17391 } : Room) (va_Pc [.ref (a 0), .int p0, .int p1] (vPre dC dI (wB a k σ) (tB k) sz)) (qBv dC dI a k (va_A (wB a k σ) sz) q) 0 0 (va_A (wB a k σ) sz) := metB (fun A => qBv dC dI a k A q) (plainFor_of_name (by decide)) (Nat.le_of_ble_eq_true rfl) (fun _ _ _ _ _ _ _ _ hC => b_X11_laysMisses_e hC h)

def f_X11_letter_75  : Nat → Int32 → Int64 → Int32 → ST → Option (Int32 × ST)
  | 0, _, _, _, _ => none
  | n + 1, x2, x3, x5, σ => if x5 ≤ x2 then (some (((x3 - x3 / 27 * 27).toInt32), σ)) else (f_X11_letter_75  n x2 (x3 / 27) (x5 + (-1)) σ)
def f_X11_letter_36 (x1 : Int32) (x2 : Int32) (y0 : Int32) (σ : ST) : Option (Int32 × ST) := if 0 < ((stI σ 0 0 y0).1 0 0) then (some (0, (stI σ 0 0 y0))) else (if 0 ≤ x1.toInt ∧ x1.toInt < 400 then (if x2 < ((stI σ 0 0 y0).1 45 x1.toNatClampNeg) then (f_X11_letter_75  FU x2 ((stI σ 0 0 y0).2.1 48 x1.toNatClampNeg) (((stI σ 0 0 y0).1 45 x1.toNatClampNeg) - 1) (stI σ 0 0 y0)) else (some (0, (stI σ 0 0 y0)))) else none)
def f_X11_letter_35 (x1 : Int32) (x2 : Int32) (σ : ST) : Option (Int32 × ST) := f_X11_letter_36  x1 x2 1 σ
def f_X11_letter (p0 : Int32) (p1 : Int32) (σ : ST) : Option (Int32 × ST) := (f_X11_within  (p0.toInt64) 0 (((σ.1 0 73) - 1).toInt64) σ).bind fun q1 => if q1.1 = 0 then (f_X11_letter_35  p0 p1 q1.2) else (if 0 ≤ p0.toInt ∧ p0.toInt < 400 then (if (q1.2.1 42 p0.toNatClampNeg) = 5 then (if p1 < 0 then (f_X11_letter_35  p0 p1 q1.2) else (f_X11_letter_36  p0 p1 0 q1.2)) else (f_X11_letter_35  p0 p1 q1.2)) else none)

set_option maxRecDepth 100000 in
set_option maxHeartbeats 4000000 in
theorem b_X11_letter_75 {p : Program} {l : Launch} {e : Env} {s : State} {m : MethodId} {args : Array Value} {below : List Frame} {meth : Method} {c : Code} {dC : Nat → ClassId} {dI : Nat → Nat → Nat} {a : Nat → Nat} {k : Nat → ClassId} {A : Nat → Prop} {q : Int32 × ST} (hC : CxB p s m args meth c dC dI k A cX11_letter RX11 (some .int) 6)   : ∀ (n : Nat) (x2 : Int32) (x3 : Int64) (x5 : Int32) (σ : ST), f_X11_letter_75  n x2 x3 x5 σ = some q → GoB p l e ({ frames := 1, cells := 0, slots := 0, locals := 25 } : Room) s m args below meth c (MQ below (qBi dC dI a k A q) args s 0 0 A) dC dI a k A 6 75 σ [(2, .int x2), (3, .long x3), (5, .int x5)] [] := by
  intro n
  induction n with
  | zero =>
    intro x2 x3 x5 σ h
    rw [f_X11_letter_75] at h
    cases h
  | succ n ih =>
    intro x2 x3 x5 σ h
    have hC0 := hC
    obtain ⟨hx, hb, hr, hml, hown, hts, hlocks, hA, hN, hK⟩ := hC0
    intro H locs ls hP hD hS hl
    have hD0 : ∀ σ1 : ST, va_D A (wB a k σ1) := fun σ1 => wB_D hD
    rw [f_X11_letter_75] at h
    refine lv_iload hx hb dX11_letter_75 (lv_at hl 2 rfl) ?_
    refine lv_iload_n hx hb dX11_letter_77 rfl (lv_at hl 0 rfl) ?_
    refine lv_icmp_le (tgt := 93) hx hb dX11_letter_78 (by decide) (fun hc => ?_) (fun hc => ?_)
    · replace h := ip hc h
      refine lv_lload_n hx hb dX11_letter_93 rfl (lv_at hl 1 rfl) ?_
      refine lv_ldc2 (v := 27) hx hb hown (hts (.constantLong RX11 222 (27)) mw_29_12) dX11_letter_94 ?_
      refine lv_lrem hx hb dX11_letter_97 (by decide) ?_
      refine lv_l2i (v := (x3 - x3 / 27 * 27).toInt32) hx hb dX11_letter_98 rfl ?_
      obtain rfl := Option.some.inj h
      exact W.iret hx hb hr (fun t ht hW => ⟨⟨_, (), rfl, rfl, ⟨by rw [ht]; exact hP, va_K.moved hW.alike hK, hD⟩⟩, hS.F ht⟩) hS.2.2 dX11_letter_99
    · replace h := iq hc h
      refine lv_lload_n hx hb dX11_letter_81 rfl (lv_at hl 1 rfl) ?_
      refine lv_ldc2 (v := 27) hx hb hown (hts (.constantLong RX11 222 (27)) mw_29_12) dX11_letter_82 ?_
      refine lv_ldiv hx hb dX11_letter_85 (by decide) ?_
      refine lv_lstore_n (lv' := [(3, .long (x3 / 27)), (2, .int x2), (5, .int x5)]) hx hb dX11_letter_86 rfl hl (by decide) rfl (fun ls hl => ?_)
      refine lv_iinc (v := (x5 + (-1))) (lv' := [(5, .int (x5 + (-1))), (3, .long (x3 / 27)), (2, .int x2)]) hx hb dX11_letter_87 hl (k := 2) rfl rfl (by decide) rfl (fun ls hl => ?_)
      refine lv_goto (tgt := 75) hx hb dX11_letter_90 (by decide) ?_
      exact ih _ _ _ _ h _ _ _ hP hD hS (lv_sub hl [2, 1, 0] rfl)

set_option maxRecDepth 100000 in
set_option maxHeartbeats 4000000 in
theorem b_X11_letter_36 {p : Program} {l : Launch} {e : Env} {s : State} {m : MethodId} {args : Array Value} {below : List Frame} {meth : Method} {c : Code} {dC : Nat → ClassId} {dI : Nat → Nat → Nat} {a : Nat → Nat} {k : Nat → ClassId} {A : Nat → Prop} {q : Int32 × ST} (hC : CxB p s m args meth c dC dI k A cX11_letter RX11 (some .int) 6)   {x1 : Int32} {x2 : Int32} {y0 : Int32} {σ : ST} (h : f_X11_letter_36  x1 x2 y0 σ = some q) : GoB p l e ({ frames := 1, cells := 0, slots := 0, locals := 25 } : Room) s m args below meth c (MQ below (qBi dC dI a k A q) args s 0 0 A) dC dI a k A 6 36 σ [(0, .ref (a 0)), (1, .int x1), (2, .int x2)] [.int y0, .ref (a 0)] := by
  have hC0 := hC
  obtain ⟨hx, hb, hr, hml, hown, hts, hlocks, hA, hN, hK⟩ := hC0
  intro H locs ls hP hD hS hl
  have hD0 : ∀ σ1 : ST, va_D A (wB a k σ1) := fun σ1 => wB_D hD
  unfold f_X11_letter_36 at h
  refine va_put (D := (dC, dI)) (ci := 11) (ty := .int) (C := RX11) (T := TX11) (N := 95) hx hb hts inlX11 tyX11 tyX11_ok nmX11 hown hK hP hD hS 0 gB_0 rfl 0 (by decide) (hts (.fieldLink RX11 178 "ShapeReaderModel" "thrown" "I") mw_28_22) (fun _ h9 => h9) rfl (by decide +kernel) rfl rfl (Nat.le_of_ble_eq_true rfl) dX11_letter_36 (fun H locs hP hD hS => ?_)
  replace hP := uB_0_0 hP
  replace hD := hD0 ((stI σ 0 0 y0))
  refine lv_aload_n hx hb dX11_letter_39 rfl (lv_at hl 0 rfl) ?_
  refine va_get (D := (dC, dI)) (ci := 11) (C := RX11) (T := TX11) (N := 95) hx hb hts inlX11 hown hK hP 0 gB_0 rfl 0 (by decide) (hts (.fieldLink RX11 178 "ShapeReaderModel" "thrown" "I") mw_28_22) (fun _ h9 => h9) rfl dX11_letter_40 ?_
  refine lv_if_gt (tgt := 56) hx hb dX11_letter_43 (by decide) (fun hc => ?_) (fun hc => ?_)
  · replace h := ip hc h
    refine lv_iconst (v := 0) hx hb dX11_letter_56 (by decide) ?_
    obtain rfl := Option.some.inj h
    exact W.iret hx hb hr (fun t ht hW => ⟨⟨_, (), rfl, rfl, ⟨by rw [ht]; exact hP, va_K.moved hW.alike hK, hD⟩⟩, hS.F ht⟩) hS.2.2 dX11_letter_57
  · replace h := iq hc h
    refine lv_iload_n hx hb dX11_letter_46 rfl (lv_at hl 2 rfl) ?_
    refine lv_aload_n hx hb dX11_letter_47 rfl (lv_at hl 0 rfl) ?_
    refine va_get (D := (dC, dI)) (ci := 11) (C := RX11) (T := TX11) (N := 95) hx hb hts inlX11 hown hK hP 0 gB_0 rfl 77 (by decide) (hts (.fieldLink RX11 145 "ShapeReaderModel" "toldHas" "[I") mw_28_11) (fun _ h9 => h9) rfl dX11_letter_48 ?_
    refine lv_iload_n hx hb dX11_letter_51 rfl (lv_at hl 1 rfl) ?_
    obtain ⟨hg1, h⟩ := ig h
    refine va_iald hx hb hK hP 45 44 gB_45 yB_45 (vp_in_iff.mpr hg1) dX11_letter_52 ?_
    refine lv_icmp_lt (tgt := 58) hx hb dX11_letter_53 (by decide) (fun hc => ?_) (fun hc => ?_)
    · replace h := ip hc h
      refine lv_aload_n hx hb dX11_letter_58 rfl (lv_at hl 0 rfl) ?_
      refine va_get (D := (dC, dI)) (ci := 11) (C := RX11) (T := TX11) (N := 95) hx hb hts inlX11 hown hK hP 0 gB_0 rfl 80 (by decide) (hts (.fieldLink RX11 154 "ShapeReaderModel" "toldText" "[J") mw_28_14) (fun _ h9 => h9) rfl dX11_letter_59 ?_
      refine lv_iload_n hx hb dX11_letter_62 rfl (lv_at hl 1 rfl) ?_
      refine va_lald hx hb hK hP 48 47 gB_48 yB_48 (vp_in_iff.mpr hg1) dX11_letter_63 ?_
      refine lv_lstore_n (lv' := [(3, .long ((stI σ 0 0 y0).2.1 48 x1.toNatClampNeg)), (0, .ref (a 0)), (1, .int x1), (2, .int x2)]) hx hb dX11_letter_64 rfl hl (by decide) rfl (fun ls hl => ?_)
      refine lv_aload_n hx hb dX11_letter_65 rfl (lv_at hl 1 rfl) ?_
      refine va_get (D := (dC, dI)) (ci := 11) (C := RX11) (T := TX11) (N := 95) hx hb hts inlX11 hown hK hP 0 gB_0 rfl 77 (by decide) (hts (.fieldLink RX11 145 "ShapeReaderModel" "toldHas" "[I") mw_28_11) (fun _ h9 => h9) rfl dX11_letter_66 ?_
      refine lv_iload_n hx hb dX11_letter_69 rfl (lv_at hl 2 rfl) ?_
      refine va_iald hx hb hK hP 45 44 gB_45 yB_45 (vp_in_iff.mpr hg1) dX11_letter_70 ?_
      refine lv_iconst (v := 1) hx hb dX11_letter_71 (by decide) ?_
      refine lv_isub hx hb dX11_letter_72 ?_
      refine lv_istore (lv' := [(5, .int (((stI σ 0 0 y0).1 45 x1.toNatClampNeg) - 1)), (3, .long ((stI σ 0 0 y0).2.1 48 x1.toNatClampNeg)), (0, .ref (a 0)), (1, .int x1), (2, .int x2)]) hx hb dX11_letter_73 hl (by decide) rfl (fun ls hl => ?_)
      exact b_X11_letter_75 hC FU _ _ _ _ h _ _ _ hP hD hS (lv_sub hl [4, 1, 0] rfl)
    · replace h := iq hc h
      refine lv_iconst (v := 0) hx hb dX11_letter_56 (by decide) ?_
      obtain rfl := Option.some.inj h
      exact W.iret hx hb hr (fun t ht hW => ⟨⟨_, (), rfl, rfl, ⟨by rw [ht]; exact hP, va_K.moved hW.alike hK, hD⟩⟩, hS.F ht⟩) hS.2.2 dX11_letter_57

set_option maxRecDepth 100000 in
set_option maxHeartbeats 4000000 in
theorem b_X11_letter_35 {p : Program} {l : Launch} {e : Env} {s : State} {m : MethodId} {args : Array Value} {below : List Frame} {meth : Method} {c : Code} {dC : Nat → ClassId} {dI : Nat → Nat → Nat} {a : Nat → Nat} {k : Nat → ClassId} {A : Nat → Prop} {q : Int32 × ST} (hC : CxB p s m args meth c dC dI k A cX11_letter RX11 (some .int) 6)   {x1 : Int32} {x2 : Int32} {σ : ST} (h : f_X11_letter_35  x1 x2 σ = some q) : GoB p l e ({ frames := 1, cells := 0, slots := 0, locals := 25 } : Room) s m args below meth c (MQ below (qBi dC dI a k A q) args s 0 0 A) dC dI a k A 6 35 σ [(0, .ref (a 0)), (1, .int x1), (2, .int x2)] [.ref (a 0)] := by
  have hC0 := hC
  obtain ⟨hx, hb, hr, hml, hown, hts, hlocks, hA, hN, hK⟩ := hC0
  intro H locs ls hP hD hS hl
  have hD0 : ∀ σ1 : ST, va_D A (wB a k σ1) := fun σ1 => wB_D hD
  unfold f_X11_letter_35 at h
  refine lv_iconst (v := 1) hx hb dX11_letter_35 (by decide) ?_
  exact b_X11_letter_36 hC h _ _ _ hP hD hS (lv_sub hl [0, 1, 2] rfl)

set_option maxRecDepth 100000 in
set_option maxHeartbeats 4000000 in
theorem b_X11_letter_e {p : Program} {l : Launch} {e : Env} {s : State} {m : MethodId} {args : Array Value} {below : List Frame} {meth : Method} {c : Code} {dC : Nat → ClassId} {dI : Nat → Nat → Nat} {a : Nat → Nat} {k : Nat → ClassId} {A : Nat → Prop} {q : Int32 × ST} (hC : CxB p s m args meth c dC dI k A cX11_letter RX11 (some .int) 6)   {p0 : Int32} {p1 : Int32} {σ : ST} (h : f_X11_letter  p0 p1 σ = some q) : GoB p l e ({ frames := 1, cells := 0, slots := 0, locals := 25 } : Room) s m args below meth c (MQ below (qBi dC dI a k A q) args s 0 0 A) dC dI a k A 6 0 σ (lv_args 0 [.ref (a 0), .int p0, .int p1]) [] := by
  have hC0 := hC
  obtain ⟨hx, hb, hr, hml, hown, hts, hlocks, hA, hN, hK⟩ := hC0
  intro H locs ls hP hD hS hl
  have hD0 : ∀ σ1 : ST, va_D A (wB a k σ1) := fun σ1 => wB_D hD
  replace hl : lv_has ls 6 [(0, .ref (a 0)), (1, .int p0), (2, .int p1)] := hl
  unfold f_X11_letter at h
  refine lv_aload_n hx hb dX11_letter_0 rfl (lv_at hl 0 rfl) ?_
  refine lv_iload_n hx hb dX11_letter_1 rfl (lv_at hl 1 rfl) ?_
  refine lv_i2l (v := p0.toInt64) hx hb dX11_letter_2 rfl ?_
  refine lv_lconst (v := 0) hx hb dX11_letter_3 (by decide) ?_
  refine lv_aload_n hx hb dX11_letter_4 rfl (lv_at hl 0 rfl) ?_
  refine va_get (D := (dC, dI)) (ci := 11) (C := RX11) (T := TX11) (N := 95) hx hb hts inlX11 hown hK hP 0 gB_0 rfl 73 (by decide) (hts (.fieldLink RX11 392 "ShapeReaderModel" "nodeMany" "I") mw_33_17) (fun _ h9 => h9) rfl dX11_letter_5 ?_
  refine lv_iconst (v := 1) hx hb dX11_letter_8 (by decide) ?_
  refine lv_isub hx hb dX11_letter_9 ?_
  refine lv_i2l (v := ((σ.1 0 73) - 1).toInt64) hx hb dX11_letter_10 rfl ?_
  obtain ⟨q1, hc, h⟩ := ib h
  have hF := va_frees hD hS hA
  refine va_calli (va_runS (As := [.long (p0.toInt64), .long 0, .long (((σ.1 0 73) - 1).toInt64)]) (rest := [.ref (a 0)]) ⟨hx, hb, hml, hown, hts⟩ (s_X11_within hc) (va_cwS 3 hts (gS mw_29_0 mw_29_1 mw_0_15 mw_53_26) rfl rfl rfl (by decide +kernel) ⟨(Nat.le_of_ble_eq_true rfl), (Nat.le_of_ble_eq_true rfl)⟩) (vS hK hP hD hN) rfl rfl hl.1 rfl (lv_room (Nat.le_of_ble_eq_true rfl)) dX11_letter_11 ⟨(Nat.le_of_ble_eq_true rfl), (Nat.le_of_ble_eq_true rfl)⟩) hS (fun q _ h => hF q h) hF (fun r2 u t H locs ht hvm hw hB _ _ hS => ?_)
  obtain rfl : r2 = q1.1 := hw
  replace hP : va_P (dC, dI) vwCl (wB a k q1.2) H := by rw [← ht]; exact hB.1
  replace hD := hD0 (q1.2)
  clear hB hF
  refine lv_if_eq (tgt := 35) hx hb dX11_letter_14 (by decide) (fun hc => ?_) (fun hc => ?_)
  · replace h := ip hc h
    exact b_X11_letter_35 hC h _ _ _ hP hD hS (lv_sub hl [0, 1, 2] rfl)
  · replace h := iq hc h
    refine lv_aload_n hx hb dX11_letter_17 rfl (lv_at hl 0 rfl) ?_
    refine va_get (D := (dC, dI)) (ci := 11) (C := RX11) (T := TX11) (N := 95) hx hb hts inlX11 hown hK hP 0 gB_0 rfl 74 (by decide) (hts (.fieldLink RX11 136 "ShapeReaderModel" "toldSort" "[I") mw_28_8) (fun _ h9 => h9) rfl dX11_letter_18 ?_
    refine lv_iload_n hx hb dX11_letter_21 rfl (lv_at hl 1 rfl) ?_
    obtain ⟨hg3, h⟩ := ig h
    refine va_iald hx hb hK hP 42 41 gB_42 yB_42 (vp_in_iff.mpr hg3) dX11_letter_22 ?_
    refine lv_iconst (v := 5) hx hb dX11_letter_23 (by decide) ?_
    refine lv_icmp_ne (tgt := 35) hx hb dX11_letter_24 (by decide) (fun hc => ?_) (fun hc => ?_)
    · replace h := iq hc h
      exact b_X11_letter_35 hC h _ _ _ hP hD hS (lv_sub hl [0, 1, 2] rfl)
    · replace h := ip hc h
      refine lv_iload_n hx hb dX11_letter_27 rfl (lv_at hl 2 rfl) ?_
      refine lv_if_lt (tgt := 35) hx hb dX11_letter_28 (by decide) (fun hc => ?_) (fun hc => ?_)
      · replace h := ip hc h
        exact b_X11_letter_35 hC h _ _ _ hP hD hS (lv_sub hl [0, 1, 2] rfl)
      · replace h := iq hc h
        refine lv_iconst (v := 0) hx hb dX11_letter_31 (by decide) ?_
        refine lv_goto (tgt := 36) hx hb dX11_letter_32 (by decide) ?_
        exact b_X11_letter_36 hC h _ _ _ hP hD hS (lv_sub hl [0, 1, 2] rfl)

theorem s_X11_letter {l : Launch} {dC : Nat → ClassId} {dI : Nat → Nat → Nat} {a : Nat → Nat} {k : Nat → ClassId} {sz : Nat} {p0 : Int32} {p1 : Int32} {σ : ST} {q : Int32 × ST} (h : f_X11_letter  p0 p1 σ = some q) : Met l yX11_letter (.code yX11_letter cX11_letter 6 (some .int) :: pw) ({ frames := 1, cells := 0, slots := 0, locals := 25 } : Room) (va_Pc [.ref (a 0), .int p0, .int p1] (vPre dC dI (wB a k σ) (tB k) sz)) (qBi dC dI a k (va_A (wB a k σ) sz) q) 0 0 (va_A (wB a k σ) sz) := metB (fun A => qBi dC dI a k A q) (plainFor_of_name (by decide)) (Nat.le_of_ble_eq_true rfl) (fun _ _ _ _ _ _ _ _ hC => b_X11_letter_e hC h)

def f_X11_verdict (p0 : Int32) (p1 : Int32) (σ : ST) : Option (Int32 × ST) := (f_X11_laysMisses  p0 p1 σ).bind fun q1 => if (q1.1 35 (0 : Int32).toNatClampNeg) = 0 then (some (2, q1)) else (if (q1.1 0 61) ≤ 0 then (some (0, q1)) else (some (1, q1)))

set_option maxRecDepth 100000 in
set_option maxHeartbeats 4000000 in
theorem b_X11_verdict_e {p : Program} {l : Launch} {e : Env} {s : State} {m : MethodId} {args : Array Value} {below : List Frame} {meth : Method} {c : Code} {dC : Nat → ClassId} {dI : Nat → Nat → Nat} {a : Nat → Nat} {k : Nat → ClassId} {A : Nat → Prop} {q : Int32 × ST} (hC : CxB p s m args meth c dC dI k A cX11_verdict RX11 (some .int) 3)   {p0 : Int32} {p1 : Int32} {σ : ST} (h : f_X11_verdict  p0 p1 σ = some q) : GoB p l e ({ frames := 685, cells := 0, slots := 0, locals := 17414 } : Room) s m args below meth c (MQ below (qBi dC dI a k A q) args s 0 0 A) dC dI a k A 3 0 σ (lv_args 0 [.ref (a 0), .int p0, .int p1]) [] := by
  have hC0 := hC
  obtain ⟨hx, hb, hr, hml, hown, hts, hlocks, hA, hN, hK⟩ := hC0
  intro H locs ls hP hD hS hl
  have hD0 : ∀ σ1 : ST, va_D A (wB a k σ1) := fun σ1 => wB_D hD
  replace hl : lv_has ls 3 [(0, .ref (a 0)), (1, .int p0), (2, .int p1)] := hl
  unfold f_X11_verdict at h
  refine lv_aload_n hx hb dX11_verdict_0 rfl (lv_at hl 0 rfl) ?_
  refine lv_iload_n hx hb dX11_verdict_1 rfl (lv_at hl 1 rfl) ?_
  refine lv_iload_n hx hb dX11_verdict_2 rfl (lv_at hl 2 rfl) ?_
  obtain ⟨q1, hc, h⟩ := ib h
  have hF := va_frees hD hS hA
  refine va_callv (va_runV (As := [.int p0, .int p1]) (rest := []) ⟨hx, hb, hml, hown, hts⟩ (s_X11_laysMisses hc) (cwV 2 hts (gV mw_37_4 mw_37_5 mw_37_6 mw_0_15 mw_56_16) rfl rfl rfl (by decide +kernel) ⟨(Nat.le_of_ble_eq_true rfl), (Nat.le_of_ble_eq_true rfl)⟩) (vV (ci := 11) (q0 := 0) hK hP hD hN rfl gB_0) rfl rfl hl.1 rfl (lv_room (Nat.le_of_ble_eq_true rfl)) dX11_verdict_3 ⟨(Nat.le_of_ble_eq_true rfl), (Nat.le_of_ble_eq_true rfl)⟩) hS (fun q _ h => hF q h) hF (fun u t H locs ht hvm hw hB _ _ hS => ?_)
  replace hP : va_P (dC, dI) vwCl (wB a k q1) H := by rw [← ht]; exact hB.1
  replace hD := hD0 (q1)
  clear hB hF
  refine lv_aload_n hx hb dX11_verdict_6 rfl (lv_at hl 0 rfl) ?_
  refine va_get (D := (dC, dI)) (ci := 11) (C := RX11) (T := TX11) (N := 95) hx hb hts inlX11 hown hK hP 0 gB_0 rfl 55 (by decide) (hts (.fieldLink RX11 115 "ShapeReaderModel" "pair" "[Z") mw_28_1) (fun _ h9 => h9) rfl dX11_verdict_7 ?_
  refine lv_iconst (v := 0) hx hb dX11_verdict_10 (by decide) ?_
  refine va_zald hx hb hK hP 35 34 gB_35 yB_35 (vp_in_iff.mpr (by decide)) dX11_verdict_11 ?_
  refine lv_if_ne (tgt := 19) hx hb dX11_verdict_12 (by decide) (fun hc => ?_) (fun hc => ?_)
  · replace h := iq hc h
    refine lv_aload_n hx hb dX11_verdict_19 rfl (lv_at hl 0 rfl) ?_
    refine va_get (D := (dC, dI)) (ci := 11) (C := RX11) (T := TX11) (N := 95) hx hb hts inlX11 hown hK hP 0 gB_0 rfl 61 (by decide) (hts (.fieldLink RX11 513 "ShapeReaderModel" "misses" "I") mw_36_17) (fun _ h9 => h9) rfl dX11_verdict_20 ?_
    refine lv_if_le (tgt := 30) hx hb dX11_verdict_23 (by decide) (fun hc => ?_) (fun hc => ?_)
    · replace h := ip hc h
      refine lv_iconst (v := 0) hx hb dX11_verdict_30 (by decide) ?_
      obtain rfl := Option.some.inj h
      exact W.iret hx hb hr (fun t ht hW => ⟨⟨_, (), rfl, rfl, ⟨by rw [ht]; exact hP, va_K.moved hW.alike hK, hD⟩⟩, hS.F ht⟩) hS.2.2 dX11_verdict_31
    · replace h := iq hc h
      refine lv_iconst (v := 1) hx hb dX11_verdict_26 (by decide) ?_
      refine lv_goto (tgt := 31) hx hb dX11_verdict_27 (by decide) ?_
      obtain rfl := Option.some.inj h
      exact W.iret hx hb hr (fun t ht hW => ⟨⟨_, (), rfl, rfl, ⟨by rw [ht]; exact hP, va_K.moved hW.alike hK, hD⟩⟩, hS.F ht⟩) hS.2.2 dX11_verdict_31
  · replace h := ip hc h
    refine lv_iconst (v := 2) hx hb dX11_verdict_15 (by decide) ?_
    refine lv_goto (tgt := 31) hx hb dX11_verdict_16 (by decide) ?_
    obtain rfl := Option.some.inj h
    exact W.iret hx hb hr (fun t ht hW => ⟨⟨_, (), rfl, rfl, ⟨by rw [ht]; exact hP, va_K.moved hW.alike hK, hD⟩⟩, hS.F ht⟩) hS.2.2 dX11_verdict_31

theorem s_X11_verdict {l : Launch} {dC : Nat → ClassId} {dI : Nat → Nat → Nat} {a : Nat → Nat} {k : Nat → ClassId} {sz : Nat} {p0 : Int32} {p1 : Int32} {σ : ST} {q : Int32 × ST} (h : f_X11_verdict  p0 p1 σ = some q) : Met l yX11_verdict (.code yX11_verdict cX11_verdict 3 (some .int) :: pw) ({ frames := 685, cells := 0, slots := 0, locals := 17414 } : Room) (va_Pc [.ref (a 0), .int p0, .int p1] (vPre dC dI (wB a k σ) (tB k) sz)) (qBi dC dI a k (va_A (wB a k σ) sz) q) 0 0 (va_A (wB a k σ) sz) := metB (fun A => qBi dC dI a k A q) (plainFor_of_name (by decide)) (Nat.le_of_ble_eq_true rfl) (fun _ _ _ _ _ _ _ _ hC => b_X11_verdict_e hC h)

def f_X11_matches (p0 : Int32) (p1 : Int32) (σ : ST) : Option (Int32 × ST) := (f_X11_isPlanAt  p0 (stI σ 0 0 0)).bind fun q1 => if q1.1 = 0 then (some ((-1), q1.2)) else ((f_X11_isPlanAt  p1 q1.2).bind fun q3 => if q3.1 = 0 then (some ((-1), q3.2)) else ((f_X11_verdict  p0 p1 q3.2).bind fun q5 => some (q5.1, q5.2)))

set_option maxRecDepth 100000 in
set_option maxHeartbeats 4000000 in
theorem b_X11_matches_e {p : Program} {l : Launch} {e : Env} {s : State} {m : MethodId} {args : Array Value} {below : List Frame} {meth : Method} {c : Code} {dC : Nat → ClassId} {dI : Nat → Nat → Nat} {a : Nat → Nat} {k : Nat → ClassId} {A : Nat → Prop} {q : Int32 × ST} (hC : CxB p s m args meth c dC dI k A cX11_matches RX11 (some .int) 3)   {p0 : Int32} {p1 : Int32} {σ : ST} (h : f_X11_matches  p0 p1 σ = some q) : GoB p l e ({ frames := 686, cells := 0, slots := 0, locals := 17436 } : Room) s m args below meth c (MQ below (qBi dC dI a k A q) args s 0 0 A) dC dI a k A 3 0 σ (lv_args 0 [.ref (a 0), .int p0, .int p1]) [] := by
  have hC0 := hC
  obtain ⟨hx, hb, hr, hml, hown, hts, hlocks, hA, hN, hK⟩ := hC0
  intro H locs ls hP hD hS hl
  have hD0 : ∀ σ1 : ST, va_D A (wB a k σ1) := fun σ1 => wB_D hD
  replace hl : lv_has ls 3 [(0, .ref (a 0)), (1, .int p0), (2, .int p1)] := hl
  unfold f_X11_matches at h
  refine lv_aload_n hx hb dX11_matches_0 rfl (lv_at hl 0 rfl) ?_
  refine lv_iconst (v := 0) hx hb dX11_matches_1 (by decide) ?_
  refine va_put (D := (dC, dI)) (ci := 11) (ty := .int) (C := RX11) (T := TX11) (N := 95) hx hb hts inlX11 tyX11 tyX11_ok nmX11 hown hK hP hD hS 0 gB_0 rfl 0 (by decide) (hts (.fieldLink RX11 178 "ShapeReaderModel" "thrown" "I") mw_28_22) (fun _ h9 => h9) rfl (by decide +kernel) rfl rfl (Nat.le_of_ble_eq_true rfl) dX11_matches_2 (fun H locs hP hD hS => ?_)
  replace hP := uB_0_0 hP
  replace hD := hD0 ((stI σ 0 0 0))
  refine lv_aload_n hx hb dX11_matches_5 rfl (lv_at hl 0 rfl) ?_
  refine lv_iload_n hx hb dX11_matches_6 rfl (lv_at hl 1 rfl) ?_
  obtain ⟨q1, hc, h⟩ := ib h
  have hF := va_frees hD hS hA
  refine va_calli (va_runV (As := [.int p0]) (rest := []) ⟨hx, hb, hml, hown, hts⟩ (s_X11_isPlanAt hc) (cwV 1 hts (gV mw_33_22 mw_33_23 mw_33_24 mw_0_15 mw_55_9) rfl rfl rfl (by decide +kernel) ⟨(Nat.le_of_ble_eq_true rfl), (Nat.le_of_ble_eq_true rfl)⟩) (vV (ci := 11) (q0 := 0) hK hP hD hN rfl gB_0) rfl rfl hl.1 rfl (lv_room (Nat.le_of_ble_eq_true rfl)) dX11_matches_7 ⟨(Nat.le_of_ble_eq_true rfl), (Nat.le_of_ble_eq_true rfl)⟩) hS (fun q _ h => hF q h) hF (fun r2 u t H locs ht hvm hw hB _ _ hS => ?_)
  obtain rfl : r2 = q1.1 := hw
  replace hP : va_P (dC, dI) vwCl (wB a k q1.2) H := by rw [← ht]; exact hB.1
  replace hD := hD0 (q1.2)
  clear hB hF
  refine lv_if_eq (tgt := 30) hx hb dX11_matches_10 (by decide) (fun hc => ?_) (fun hc => ?_)
  · replace h := ip hc h
    refine lv_iconst (v := (-1)) hx hb dX11_matches_30 (by decide) ?_
    obtain rfl := Option.some.inj h
    exact W.iret hx hb hr (fun t ht hW => ⟨⟨_, (), rfl, rfl, ⟨by rw [ht]; exact hP, va_K.moved hW.alike hK, hD⟩⟩, hS.F ht⟩) hS.2.2 dX11_matches_31
  · replace h := iq hc h
    refine lv_aload_n hx hb dX11_matches_13 rfl (lv_at hl 0 rfl) ?_
    refine lv_iload_n hx hb dX11_matches_14 rfl (lv_at hl 2 rfl) ?_
    obtain ⟨q3, hc, h⟩ := ib h
    have hF := va_frees hD hS hA
    refine va_calli (va_runV (As := [.int p1]) (rest := []) ⟨hx, hb, hml, hown, hts⟩ (s_X11_isPlanAt hc) (cwV 1 hts (gV mw_33_22 mw_33_23 mw_33_24 mw_0_15 mw_55_9) rfl rfl rfl (by decide +kernel) ⟨(Nat.le_of_ble_eq_true rfl), (Nat.le_of_ble_eq_true rfl)⟩) (vV (ci := 11) (q0 := 0) hK hP hD hN rfl gB_0) rfl rfl hl.1 rfl (lv_room (Nat.le_of_ble_eq_true rfl)) dX11_matches_15 ⟨(Nat.le_of_ble_eq_true rfl), (Nat.le_of_ble_eq_true rfl)⟩) hS (fun q _ h => hF q h) hF (fun r4 u t H locs ht hvm hw hB _ _ hS => ?_)
    obtain rfl : r4 = q3.1 := hw
    replace hP : va_P (dC, dI) vwCl (wB a k q3.2) H := by rw [← ht]; exact hB.1
    replace hD := hD0 (q3.2)
    clear hB hF
    refine lv_if_eq (tgt := 30) hx hb dX11_matches_18 (by decide) (fun hc => ?_) (fun hc => ?_)
    · replace h := ip hc h
      refine lv_iconst (v := (-1)) hx hb dX11_matches_30 (by decide) ?_
      obtain rfl := Option.some.inj h
      exact W.iret hx hb hr (fun t ht hW => ⟨⟨_, (), rfl, rfl, ⟨by rw [ht]; exact hP, va_K.moved hW.alike hK, hD⟩⟩, hS.F ht⟩) hS.2.2 dX11_matches_31
    · replace h := iq hc h
      refine lv_aload_n hx hb dX11_matches_21 rfl (lv_at hl 0 rfl) ?_
      refine lv_iload_n hx hb dX11_matches_22 rfl (lv_at hl 1 rfl) ?_
      refine lv_iload_n hx hb dX11_matches_23 rfl (lv_at hl 2 rfl) ?_
      obtain ⟨q5, hc, h⟩ := ib h
      have hF := va_frees hD hS hA
      refine va_calli (va_runV (As := [.int p0, .int p1]) (rest := []) ⟨hx, hb, hml, hown, hts⟩ (s_X11_verdict hc) (cwV 2 hts (gV mw_37_7 mw_37_8 mw_37_9 mw_0_15 mw_56_17) rfl rfl rfl (by decide +kernel) ⟨(Nat.le_of_ble_eq_true rfl), (Nat.le_of_ble_eq_true rfl)⟩) (vV (ci := 11) (q0 := 0) hK hP hD hN rfl gB_0) rfl rfl hl.1 rfl (lv_room (Nat.le_of_ble_eq_true rfl)) dX11_matches_24 ⟨(Nat.le_of_ble_eq_true rfl), (Nat.le_of_ble_eq_true rfl)⟩) hS (fun q _ h => hF q h) hF (fun r6 u t H locs ht hvm hw hB _ _ hS => ?_)
      obtain rfl : r6 = q5.1 := hw
      replace hP : va_P (dC, dI) vwCl (wB a k q5.2) H := by rw [← ht]; exact hB.1
      replace hD := hD0 (q5.2)
      clear hB hF
      refine lv_goto (tgt := 31) hx hb dX11_matches_27 (by decide) ?_
      obtain rfl := Option.some.inj h
      exact W.iret hx hb hr (fun t ht hW => ⟨⟨_, (), rfl, rfl, ⟨by rw [ht]; exact hP, va_K.moved hW.alike hK, hD⟩⟩, hS.F ht⟩) hS.2.2 dX11_matches_31

theorem s_X11_matches {l : Launch} {dC : Nat → ClassId} {dI : Nat → Nat → Nat} {a : Nat → Nat} {k : Nat → ClassId} {sz : Nat} {p0 : Int32} {p1 : Int32} {σ : ST} {q : Int32 × ST} (h : f_X11_matches  p0 p1 σ = some q) : Met l yX11_matches (.code yX11_matches cX11_matches 3 (some .int) :: pw) ({ frames := 686, cells := 0, slots := 0, locals := 17436 } : Room) (va_Pc [.ref (a 0), .int p0, .int p1] (vPre dC dI (wB a k σ) (tB k) sz)) (qBi dC dI a k (va_A (wB a k σ) sz) q) 0 0 (va_A (wB a k σ) sz) := metB (fun A => qBi dC dI a k A q) (plainFor_of_name (by decide)) (Nat.le_of_ble_eq_true rfl) (fun _ _ _ _ _ _ _ _ hC => b_X11_matches_e hC h)

def f_X11_message (p0 : Int32) (p1 : Int32) (σ : ST) : Option (Int32 × ST) := (f_X11_isMessage  p0 (stI σ 0 0 0)).bind fun q1 => if q1.1 = 0 then (some ((-1), q1.2)) else ((f_X11_within  (p1.toInt64) 0 1 q1.2).bind fun q3 => if q3.1 = 0 then (some ((-1), q3.2)) else (if p1 = 0 then (if 0 ≤ p0.toInt ∧ p0.toInt < 4 then (some ((q3.2.1 33 p0.toNatClampNeg), q3.2)) else none) else (if 0 ≤ p0.toInt ∧ p0.toInt < 4 then (some ((q3.2.1 32 p0.toNatClampNeg), q3.2)) else none)))

set_option maxRecDepth 100000 in
set_option maxHeartbeats 4000000 in
theorem b_X11_message_e {p : Program} {l : Launch} {e : Env} {s : State} {m : MethodId} {args : Array Value} {below : List Frame} {meth : Method} {c : Code} {dC : Nat → ClassId} {dI : Nat → Nat → Nat} {a : Nat → Nat} {k : Nat → ClassId} {A : Nat → Prop} {q : Int32 × ST} (hC : CxB p s m args meth c dC dI k A cX11_message RX11 (some .int) 3)   {p0 : Int32} {p1 : Int32} {σ : ST} (h : f_X11_message  p0 p1 σ = some q) : GoB p l e ({ frames := 2, cells := 0, slots := 0, locals := 46 } : Room) s m args below meth c (MQ below (qBi dC dI a k A q) args s 0 0 A) dC dI a k A 3 0 σ (lv_args 0 [.ref (a 0), .int p0, .int p1]) [] := by
  have hC0 := hC
  obtain ⟨hx, hb, hr, hml, hown, hts, hlocks, hA, hN, hK⟩ := hC0
  intro H locs ls hP hD hS hl
  have hD0 : ∀ σ1 : ST, va_D A (wB a k σ1) := fun σ1 => wB_D hD
  replace hl : lv_has ls 3 [(0, .ref (a 0)), (1, .int p0), (2, .int p1)] := hl
  unfold f_X11_message at h
  refine lv_aload_n hx hb dX11_message_0 rfl (lv_at hl 0 rfl) ?_
  refine lv_iconst (v := 0) hx hb dX11_message_1 (by decide) ?_
  refine va_put (D := (dC, dI)) (ci := 11) (ty := .int) (C := RX11) (T := TX11) (N := 95) hx hb hts inlX11 tyX11 tyX11_ok nmX11 hown hK hP hD hS 0 gB_0 rfl 0 (by decide) (hts (.fieldLink RX11 178 "ShapeReaderModel" "thrown" "I") mw_28_22) (fun _ h9 => h9) rfl (by decide +kernel) rfl rfl (Nat.le_of_ble_eq_true rfl) dX11_message_2 (fun H locs hP hD hS => ?_)
  replace hP := uB_0_0 hP
  replace hD := hD0 ((stI σ 0 0 0))
  refine lv_aload_n hx hb dX11_message_5 rfl (lv_at hl 0 rfl) ?_
  refine lv_iload_n hx hb dX11_message_6 rfl (lv_at hl 1 rfl) ?_
  obtain ⟨q1, hc, h⟩ := ib h
  have hF := va_frees hD hS hA
  refine va_calli (va_runV (As := [.int p0]) (rest := []) ⟨hx, hb, hml, hown, hts⟩ (s_X11_isMessage hc) (cwV 1 hts (gV mw_35_24 mw_35_25 mw_35_26 mw_0_15 mw_55_26) rfl rfl rfl (by decide +kernel) ⟨(Nat.le_of_ble_eq_true rfl), (Nat.le_of_ble_eq_true rfl)⟩) (vV (ci := 11) (q0 := 0) hK hP hD hN rfl gB_0) rfl rfl hl.1 rfl (lv_room (Nat.le_of_ble_eq_true rfl)) dX11_message_7 ⟨(Nat.le_of_ble_eq_true rfl), (Nat.le_of_ble_eq_true rfl)⟩) hS (fun q _ h => hF q h) hF (fun r2 u t H locs ht hvm hw hB _ _ hS => ?_)
  obtain rfl : r2 = q1.1 := hw
  replace hP : va_P (dC, dI) vwCl (wB a k q1.2) H := by rw [← ht]; exact hB.1
  replace hD := hD0 (q1.2)
  clear hB hF
  refine lv_if_eq (tgt := 45) hx hb dX11_message_10 (by decide) (fun hc => ?_) (fun hc => ?_)
  · replace h := ip hc h
    refine lv_iconst (v := (-1)) hx hb dX11_message_45 (by decide) ?_
    obtain rfl := Option.some.inj h
    exact W.iret hx hb hr (fun t ht hW => ⟨⟨_, (), rfl, rfl, ⟨by rw [ht]; exact hP, va_K.moved hW.alike hK, hD⟩⟩, hS.F ht⟩) hS.2.2 dX11_message_46
  · replace h := iq hc h
    refine lv_iload_n hx hb dX11_message_13 rfl (lv_at hl 2 rfl) ?_
    refine lv_i2l (v := p1.toInt64) hx hb dX11_message_14 rfl ?_
    refine lv_lconst (v := 0) hx hb dX11_message_15 (by decide) ?_
    refine lv_lconst (v := 1) hx hb dX11_message_16 (by decide) ?_
    obtain ⟨q3, hc, h⟩ := ib h
    have hF := va_frees hD hS hA
    refine va_calli (va_runS (As := [.long (p1.toInt64), .long 0, .long 1]) (rest := []) ⟨hx, hb, hml, hown, hts⟩ (s_X11_within hc) (va_cwS 3 hts (gS mw_29_0 mw_29_1 mw_0_15 mw_53_26) rfl rfl rfl (by decide +kernel) ⟨(Nat.le_of_ble_eq_true rfl), (Nat.le_of_ble_eq_true rfl)⟩) (vS hK hP hD hN) rfl rfl hl.1 rfl (lv_room (Nat.le_of_ble_eq_true rfl)) dX11_message_17 ⟨(Nat.le_of_ble_eq_true rfl), (Nat.le_of_ble_eq_true rfl)⟩) hS (fun q _ h => hF q h) hF (fun r4 u t H locs ht hvm hw hB _ _ hS => ?_)
    obtain rfl : r4 = q3.1 := hw
    replace hP : va_P (dC, dI) vwCl (wB a k q3.2) H := by rw [← ht]; exact hB.1
    replace hD := hD0 (q3.2)
    clear hB hF
    refine lv_if_eq (tgt := 45) hx hb dX11_message_20 (by decide) (fun hc => ?_) (fun hc => ?_)
    · replace h := ip hc h
      refine lv_iconst (v := (-1)) hx hb dX11_message_45 (by decide) ?_
      obtain rfl := Option.some.inj h
      exact W.iret hx hb hr (fun t ht hW => ⟨⟨_, (), rfl, rfl, ⟨by rw [ht]; exact hP, va_K.moved hW.alike hK, hD⟩⟩, hS.F ht⟩) hS.2.2 dX11_message_46
    · replace h := iq hc h
      refine lv_iload_n hx hb dX11_message_23 rfl (lv_at hl 2 rfl) ?_
      refine lv_if_ne (tgt := 36) hx hb dX11_message_24 (by decide) (fun hc => ?_) (fun hc => ?_)
      · replace h := iq hc h
        refine lv_aload_n hx hb dX11_message_36 rfl (lv_at hl 0 rfl) ?_
        refine va_get (D := (dC, dI)) (ci := 11) (C := RX11) (T := TX11) (N := 95) hx hb hts inlX11 hown hK hP 0 gB_0 rfl 50 (by decide) (hts (.fieldLink RX11 106 "ShapeReaderModel" "messagePlan" "[I") mw_27_28) (fun _ h9 => h9) rfl dX11_message_37 ?_
        refine lv_iload_n hx hb dX11_message_40 rfl (lv_at hl 1 rfl) ?_
        obtain ⟨hg5, h⟩ := ig h
        refine va_iald hx hb hK hP 32 31 gB_32 yB_32 (vp_in_iff.mpr hg5) dX11_message_41 ?_
        refine lv_goto (tgt := 46) hx hb dX11_message_42 (by decide) ?_
        obtain rfl := Option.some.inj h
        exact W.iret hx hb hr (fun t ht hW => ⟨⟨_, (), rfl, rfl, ⟨by rw [ht]; exact hP, va_K.moved hW.alike hK, hD⟩⟩, hS.F ht⟩) hS.2.2 dX11_message_46
      · replace h := ip hc h
        refine lv_aload_n hx hb dX11_message_27 rfl (lv_at hl 0 rfl) ?_
        refine va_get (D := (dC, dI)) (ci := 11) (C := RX11) (T := TX11) (N := 95) hx hb hts inlX11 hown hK hP 0 gB_0 rfl 51 (by decide) (hts (.fieldLink RX11 109 "ShapeReaderModel" "messageMany" "[I") mw_27_29) (fun _ h9 => h9) rfl dX11_message_28 ?_
        refine lv_iload_n hx hb dX11_message_31 rfl (lv_at hl 1 rfl) ?_
        obtain ⟨hg6, h⟩ := ig h
        refine va_iald hx hb hK hP 33 32 gB_33 yB_33 (vp_in_iff.mpr hg6) dX11_message_32 ?_
        refine lv_goto (tgt := 46) hx hb dX11_message_33 (by decide) ?_
        obtain rfl := Option.some.inj h
        exact W.iret hx hb hr (fun t ht hW => ⟨⟨_, (), rfl, rfl, ⟨by rw [ht]; exact hP, va_K.moved hW.alike hK, hD⟩⟩, hS.F ht⟩) hS.2.2 dX11_message_46

theorem s_X11_message {l : Launch} {dC : Nat → ClassId} {dI : Nat → Nat → Nat} {a : Nat → Nat} {k : Nat → ClassId} {sz : Nat} {p0 : Int32} {p1 : Int32} {σ : ST} {q : Int32 × ST} (h : f_X11_message  p0 p1 σ = some q) : Met l yX11_message (.code yX11_message cX11_message 3 (some .int) :: pw) ({ frames := 2, cells := 0, slots := 0, locals := 46 } : Room) (va_Pc [.ref (a 0), .int p0, .int p1] (vPre dC dI (wB a k σ) (tB k) sz)) (qBi dC dI a k (va_A (wB a k σ) sz) q) 0 0 (va_A (wB a k σ) sz) := metB (fun A => qBi dC dI a k A q) (plainFor_of_name (by decide)) (Nat.le_of_ble_eq_true rfl) (fun _ _ _ _ _ _ _ _ hC => b_X11_message_e hC h)

def f_X11_miss (p0 : Int32) (p1 : Int32) (p2 : Int32) (p3 : Int32) (σ : ST) : Option (Int32 × ST) := (f_X11_isPlanAt  p0 (stI σ 0 0 0)).bind fun q1 => if q1.1 = 0 then (some ((-1), q1.2)) else ((f_X11_isPlanAt  p1 q1.2).bind fun q3 => if q3.1 = 0 then (some ((-1), q3.2)) else ((f_X11_within  (p3.toInt64) 0 1 q3.2).bind fun q5 => if q5.1 = 0 then (some ((-1), q5.2)) else ((f_X11_laysMisses  p0 p1 q5.2).bind fun q7 => if p2 = (-1) then (some ((q7.1 0 61), q7)) else ((f_X11_within  (p2.toInt64) 0 (((q7.1 0 61) - 1).toInt64) q7).bind fun q9 => if q9.1 = 0 then (some ((-1), q9.2)) else (if p3 = 0 then (if 0 ≤ p2.toInt ∧ p2.toInt < 20 then (some ((q9.2.1 37 p2.toNatClampNeg), q9.2)) else none) else (if 0 ≤ p2.toInt ∧ p2.toInt < 20 then (some ((q9.2.1 38 p2.toNatClampNeg), q9.2)) else none))))))

set_option maxRecDepth 100000 in
set_option maxHeartbeats 4000000 in
theorem b_X11_miss_e {p : Program} {l : Launch} {e : Env} {s : State} {m : MethodId} {args : Array Value} {below : List Frame} {meth : Method} {c : Code} {dC : Nat → ClassId} {dI : Nat → Nat → Nat} {a : Nat → Nat} {k : Nat → ClassId} {A : Nat → Prop} {q : Int32 × ST} (hC : CxB p s m args meth c dC dI k A cX11_miss RX11 (some .int) 5)   {p0 : Int32} {p1 : Int32} {p2 : Int32} {p3 : Int32} {σ : ST} (h : f_X11_miss  p0 p1 p2 p3 σ = some q) : GoB p l e ({ frames := 685, cells := 0, slots := 0, locals := 17414 } : Room) s m args below meth c (MQ below (qBi dC dI a k A q) args s 0 0 A) dC dI a k A 5 0 σ (lv_args 0 [.ref (a 0), .int p0, .int p1, .int p2, .int p3]) [] := by
  have hC0 := hC
  obtain ⟨hx, hb, hr, hml, hown, hts, hlocks, hA, hN, hK⟩ := hC0
  intro H locs ls hP hD hS hl
  have hD0 : ∀ σ1 : ST, va_D A (wB a k σ1) := fun σ1 => wB_D hD
  replace hl : lv_has ls 5 [(0, .ref (a 0)), (1, .int p0), (2, .int p1), (3, .int p2), (4, .int p3)] := hl
  unfold f_X11_miss at h
  refine lv_aload_n hx hb dX11_miss_0 rfl (lv_at hl 0 rfl) ?_
  refine lv_iconst (v := 0) hx hb dX11_miss_1 (by decide) ?_
  refine va_put (D := (dC, dI)) (ci := 11) (ty := .int) (C := RX11) (T := TX11) (N := 95) hx hb hts inlX11 tyX11 tyX11_ok nmX11 hown hK hP hD hS 0 gB_0 rfl 0 (by decide) (hts (.fieldLink RX11 178 "ShapeReaderModel" "thrown" "I") mw_28_22) (fun _ h9 => h9) rfl (by decide +kernel) rfl rfl (Nat.le_of_ble_eq_true rfl) dX11_miss_2 (fun H locs hP hD hS => ?_)
  replace hP := uB_0_0 hP
  replace hD := hD0 ((stI σ 0 0 0))
  refine lv_aload_n hx hb dX11_miss_5 rfl (lv_at hl 0 rfl) ?_
  refine lv_iload_n hx hb dX11_miss_6 rfl (lv_at hl 1 rfl) ?_
  obtain ⟨q1, hc, h⟩ := ib h
  have hF := va_frees hD hS hA
  refine va_calli (va_runV (As := [.int p0]) (rest := []) ⟨hx, hb, hml, hown, hts⟩ (s_X11_isPlanAt hc) (cwV 1 hts (gV mw_33_22 mw_33_23 mw_33_24 mw_0_15 mw_55_9) rfl rfl rfl (by decide +kernel) ⟨(Nat.le_of_ble_eq_true rfl), (Nat.le_of_ble_eq_true rfl)⟩) (vV (ci := 11) (q0 := 0) hK hP hD hN rfl gB_0) rfl rfl hl.1 rfl (lv_room (Nat.le_of_ble_eq_true rfl)) dX11_miss_7 ⟨(Nat.le_of_ble_eq_true rfl), (Nat.le_of_ble_eq_true rfl)⟩) hS (fun q _ h => hF q h) hF (fun r2 u t H locs ht hvm hw hB _ _ hS => ?_)
  obtain rfl : r2 = q1.1 := hw
  replace hP : va_P (dC, dI) vwCl (wB a k q1.2) H := by rw [← ht]; exact hB.1
  replace hD := hD0 (q1.2)
  clear hB hF
  refine lv_if_eq (tgt := 32) hx hb dX11_miss_10 (by decide) (fun hc => ?_) (fun hc => ?_)
  · replace h := ip hc h
    refine lv_iconst (v := (-1)) hx hb dX11_miss_32 (by decide) ?_
    obtain rfl := Option.some.inj h
    exact W.iret hx hb hr (fun t ht hW => ⟨⟨_, (), rfl, rfl, ⟨by rw [ht]; exact hP, va_K.moved hW.alike hK, hD⟩⟩, hS.F ht⟩) hS.2.2 dX11_miss_33
  · replace h := iq hc h
    refine lv_aload_n hx hb dX11_miss_13 rfl (lv_at hl 0 rfl) ?_
    refine lv_iload_n hx hb dX11_miss_14 rfl (lv_at hl 2 rfl) ?_
    obtain ⟨q3, hc, h⟩ := ib h
    have hF := va_frees hD hS hA
    refine va_calli (va_runV (As := [.int p1]) (rest := []) ⟨hx, hb, hml, hown, hts⟩ (s_X11_isPlanAt hc) (cwV 1 hts (gV mw_33_22 mw_33_23 mw_33_24 mw_0_15 mw_55_9) rfl rfl rfl (by decide +kernel) ⟨(Nat.le_of_ble_eq_true rfl), (Nat.le_of_ble_eq_true rfl)⟩) (vV (ci := 11) (q0 := 0) hK hP hD hN rfl gB_0) rfl rfl hl.1 rfl (lv_room (Nat.le_of_ble_eq_true rfl)) dX11_miss_15 ⟨(Nat.le_of_ble_eq_true rfl), (Nat.le_of_ble_eq_true rfl)⟩) hS (fun q _ h => hF q h) hF (fun r4 u t H locs ht hvm hw hB _ _ hS => ?_)
    obtain rfl : r4 = q3.1 := hw
    replace hP : va_P (dC, dI) vwCl (wB a k q3.2) H := by rw [← ht]; exact hB.1
    replace hD := hD0 (q3.2)
    clear hB hF
    refine lv_if_eq (tgt := 32) hx hb dX11_miss_18 (by decide) (fun hc => ?_) (fun hc => ?_)
    · replace h := ip hc h
      refine lv_iconst (v := (-1)) hx hb dX11_miss_32 (by decide) ?_
      obtain rfl := Option.some.inj h
      exact W.iret hx hb hr (fun t ht hW => ⟨⟨_, (), rfl, rfl, ⟨by rw [ht]; exact hP, va_K.moved hW.alike hK, hD⟩⟩, hS.F ht⟩) hS.2.2 dX11_miss_33
    · replace h := iq hc h
      refine lv_iload hx hb dX11_miss_21 (lv_at hl 4 rfl) ?_
      refine lv_i2l (v := p3.toInt64) hx hb dX11_miss_23 rfl ?_
      refine lv_lconst (v := 0) hx hb dX11_miss_24 (by decide) ?_
      refine lv_lconst (v := 1) hx hb dX11_miss_25 (by decide) ?_
      obtain ⟨q5, hc, h⟩ := ib h
      have hF := va_frees hD hS hA
      refine va_calli (va_runS (As := [.long (p3.toInt64), .long 0, .long 1]) (rest := []) ⟨hx, hb, hml, hown, hts⟩ (s_X11_within hc) (va_cwS 3 hts (gS mw_29_0 mw_29_1 mw_0_15 mw_53_26) rfl rfl rfl (by decide +kernel) ⟨(Nat.le_of_ble_eq_true rfl), (Nat.le_of_ble_eq_true rfl)⟩) (vS hK hP hD hN) rfl rfl hl.1 rfl (lv_room (Nat.le_of_ble_eq_true rfl)) dX11_miss_26 ⟨(Nat.le_of_ble_eq_true rfl), (Nat.le_of_ble_eq_true rfl)⟩) hS (fun q _ h => hF q h) hF (fun r6 u t H locs ht hvm hw hB _ _ hS => ?_)
      obtain rfl : r6 = q5.1 := hw
      replace hP : va_P (dC, dI) vwCl (wB a k q5.2) H := by rw [← ht]; exact hB.1
      replace hD := hD0 (q5.2)
      clear hB hF
      refine lv_if_ne (tgt := 34) hx hb dX11_miss_29 (by decide) (fun hc => ?_) (fun hc => ?_)
      · replace h := iq hc h
        refine lv_aload_n hx hb dX11_miss_34 rfl (lv_at hl 0 rfl) ?_
        refine lv_iload_n hx hb dX11_miss_35 rfl (lv_at hl 1 rfl) ?_
        refine lv_iload_n hx hb dX11_miss_36 rfl (lv_at hl 2 rfl) ?_
        obtain ⟨q7, hc, h⟩ := ib h
        have hF := va_frees hD hS hA
        refine va_callv (va_runV (As := [.int p0, .int p1]) (rest := []) ⟨hx, hb, hml, hown, hts⟩ (s_X11_laysMisses hc) (cwV 2 hts (gV mw_37_4 mw_37_5 mw_37_6 mw_0_15 mw_56_16) rfl rfl rfl (by decide +kernel) ⟨(Nat.le_of_ble_eq_true rfl), (Nat.le_of_ble_eq_true rfl)⟩) (vV (ci := 11) (q0 := 0) hK hP hD hN rfl gB_0) rfl rfl hl.1 rfl (lv_room (Nat.le_of_ble_eq_true rfl)) dX11_miss_37 ⟨(Nat.le_of_ble_eq_true rfl), (Nat.le_of_ble_eq_true rfl)⟩) hS (fun q _ h => hF q h) hF (fun u t H locs ht hvm hw hB _ _ hS => ?_)
        replace hP : va_P (dC, dI) vwCl (wB a k q7) H := by rw [← ht]; exact hB.1
        replace hD := hD0 (q7)
        clear hB hF
        refine lv_iload_n hx hb dX11_miss_40 rfl (lv_at hl 3 rfl) ?_
        refine lv_iconst (v := (-1)) hx hb dX11_miss_41 (by decide) ?_
        refine lv_icmp_ne (tgt := 52) hx hb dX11_miss_42 (by decide) (fun hc => ?_) (fun hc => ?_)
        · replace h := iq hc h
          refine lv_iload_n hx hb dX11_miss_52 rfl (lv_at hl 3 rfl) ?_
          refine lv_i2l (v := p2.toInt64) hx hb dX11_miss_53 rfl ?_
          refine lv_lconst (v := 0) hx hb dX11_miss_54 (by decide) ?_
          refine lv_aload_n hx hb dX11_miss_55 rfl (lv_at hl 0 rfl) ?_
          refine va_get (D := (dC, dI)) (ci := 11) (C := RX11) (T := TX11) (N := 95) hx hb hts inlX11 hown hK hP 0 gB_0 rfl 61 (by decide) (hts (.fieldLink RX11 513 "ShapeReaderModel" "misses" "I") mw_36_17) (fun _ h9 => h9) rfl dX11_miss_56 ?_
          refine lv_iconst (v := 1) hx hb dX11_miss_59 (by decide) ?_
          refine lv_isub hx hb dX11_miss_60 ?_
          refine lv_i2l (v := ((q7.1 0 61) - 1).toInt64) hx hb dX11_miss_61 rfl ?_
          obtain ⟨q9, hc, h⟩ := ib h
          have hF := va_frees hD hS hA
          refine va_calli (va_runS (As := [.long (p2.toInt64), .long 0, .long (((q7.1 0 61) - 1).toInt64)]) (rest := []) ⟨hx, hb, hml, hown, hts⟩ (s_X11_within hc) (va_cwS 3 hts (gS mw_29_0 mw_29_1 mw_0_15 mw_53_26) rfl rfl rfl (by decide +kernel) ⟨(Nat.le_of_ble_eq_true rfl), (Nat.le_of_ble_eq_true rfl)⟩) (vS hK hP hD hN) rfl rfl hl.1 rfl (lv_room (Nat.le_of_ble_eq_true rfl)) dX11_miss_62 ⟨(Nat.le_of_ble_eq_true rfl), (Nat.le_of_ble_eq_true rfl)⟩) hS (fun q _ h => hF q h) hF (fun r10 u t H locs ht hvm hw hB _ _ hS => ?_)
          obtain rfl : r10 = q9.1 := hw
          replace hP : va_P (dC, dI) vwCl (wB a k q9.2) H := by rw [← ht]; exact hB.1
          replace hD := hD0 (q9.2)
          clear hB hF
          refine lv_if_ne (tgt := 72) hx hb dX11_miss_65 (by decide) (fun hc => ?_) (fun hc => ?_)
          · replace h := iq hc h
            refine lv_iload hx hb dX11_miss_72 (lv_at hl 4 rfl) ?_
            refine lv_if_ne (tgt := 86) hx hb dX11_miss_74 (by decide) (fun hc => ?_) (fun hc => ?_)
            · replace h := iq hc h
              refine lv_aload_n hx hb dX11_miss_86 rfl (lv_at hl 0 rfl) ?_
              refine va_get (D := (dC, dI)) (ci := 11) (C := RX11) (T := TX11) (N := 95) hx hb hts inlX11 hown hK hP 0 gB_0 rfl 59 (by decide) (hts (.fieldLink RX11 124 "ShapeReaderModel" "missSteps" "[I") mw_28_4) (fun _ h9 => h9) rfl dX11_miss_87 ?_
              refine lv_iload_n hx hb dX11_miss_90 rfl (lv_at hl 3 rfl) ?_
              obtain ⟨hg11, h⟩ := ig h
              refine va_iald hx hb hK hP 38 37 gB_38 yB_38 (vp_in_iff.mpr hg11) dX11_miss_91 ?_
              obtain rfl := Option.some.inj h
              exact W.iret hx hb hr (fun t ht hW => ⟨⟨_, (), rfl, rfl, ⟨by rw [ht]; exact hP, va_K.moved hW.alike hK, hD⟩⟩, hS.F ht⟩) hS.2.2 dX11_miss_92
            · replace h := ip hc h
              refine lv_aload_n hx hb dX11_miss_77 rfl (lv_at hl 0 rfl) ?_
              refine va_get (D := (dC, dI)) (ci := 11) (C := RX11) (T := TX11) (N := 95) hx hb hts inlX11 hown hK hP 0 gB_0 rfl 58 (by decide) (hts (.fieldLink RX11 121 "ShapeReaderModel" "missKind" "[I") mw_28_3) (fun _ h9 => h9) rfl dX11_miss_78 ?_
              refine lv_iload_n hx hb dX11_miss_81 rfl (lv_at hl 3 rfl) ?_
              obtain ⟨hg12, h⟩ := ig h
              refine va_iald hx hb hK hP 37 36 gB_37 yB_37 (vp_in_iff.mpr hg12) dX11_miss_82 ?_
              refine lv_goto (tgt := 92) hx hb dX11_miss_83 (by decide) ?_
              obtain rfl := Option.some.inj h
              exact W.iret hx hb hr (fun t ht hW => ⟨⟨_, (), rfl, rfl, ⟨by rw [ht]; exact hP, va_K.moved hW.alike hK, hD⟩⟩, hS.F ht⟩) hS.2.2 dX11_miss_92
          · replace h := ip hc h
            refine lv_iconst (v := (-1)) hx hb dX11_miss_68 (by decide) ?_
            refine lv_goto (tgt := 92) hx hb dX11_miss_69 (by decide) ?_
            obtain rfl := Option.some.inj h
            exact W.iret hx hb hr (fun t ht hW => ⟨⟨_, (), rfl, rfl, ⟨by rw [ht]; exact hP, va_K.moved hW.alike hK, hD⟩⟩, hS.F ht⟩) hS.2.2 dX11_miss_92
        · replace h := ip hc h
          refine lv_aload_n hx hb dX11_miss_45 rfl (lv_at hl 0 rfl) ?_
          refine va_get (D := (dC, dI)) (ci := 11) (C := RX11) (T := TX11) (N := 95) hx hb hts inlX11 hown hK hP 0 gB_0 rfl 61 (by decide) (hts (.fieldLink RX11 513 "ShapeReaderModel" "misses" "I") mw_36_17) (fun _ h9 => h9) rfl dX11_miss_46 ?_
          refine lv_goto (tgt := 92) hx hb dX11_miss_49 (by decide) ?_
          obtain rfl := Option.some.inj h
          exact W.iret hx hb hr (fun t ht hW => ⟨⟨_, (), rfl, rfl, ⟨by rw [ht]; exact hP, va_K.moved hW.alike hK, hD⟩⟩, hS.F ht⟩) hS.2.2 dX11_miss_92
      · replace h := ip hc h
        refine lv_iconst (v := (-1)) hx hb dX11_miss_32 (by decide) ?_
        obtain rfl := Option.some.inj h
        exact W.iret hx hb hr (fun t ht hW => ⟨⟨_, (), rfl, rfl, ⟨by rw [ht]; exact hP, va_K.moved hW.alike hK, hD⟩⟩, hS.F ht⟩) hS.2.2 dX11_miss_33

theorem s_X11_miss {l : Launch} {dC : Nat → ClassId} {dI : Nat → Nat → Nat} {a : Nat → Nat} {k : Nat → ClassId} {sz : Nat} {p0 : Int32} {p1 : Int32} {p2 : Int32} {p3 : Int32} {σ : ST} {q : Int32 × ST} (h : f_X11_miss  p0 p1 p2 p3 σ = some q) : Met l yX11_miss (.code yX11_miss cX11_miss 5 (some .int) :: pw) ({ frames := 685, cells := 0, slots := 0, locals := 17414 } : Room) (va_Pc [.ref (a 0), .int p0, .int p1, .int p2, .int p3] (vPre dC dI (wB a k σ) (tB k) sz)) (qBi dC dI a k (va_A (wB a k σ) sz) q) 0 0 (va_A (wB a k σ) sz) := metB (fun A => qBi dC dI a k A q) (plainFor_of_name (by decide)) (Nat.le_of_ble_eq_true rfl) (fun _ _ _ _ _ _ _ _ hC => b_X11_miss_e hC h)
