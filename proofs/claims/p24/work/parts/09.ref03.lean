theorem dX11_becomes_0 : decode cX11_becomes 0 = .ok (.aload_n 0, 1) := by decide +kernel
theorem dX11_becomes_1 : decode cX11_becomes 1 = .ok (.getfield 106, 3) := by decide +kernel
theorem dX11_becomes_4 : decode cX11_becomes 4 = .ok (.iload_n 1, 1) := by decide +kernel
theorem dX11_becomes_5 : decode cX11_becomes 5 = .ok (.iload_n 2, 1) := by decide +kernel
theorem dX11_becomes_6 : decode cX11_becomes 6 = .ok (.iastore, 1) := by decide +kernel
theorem dX11_becomes_7 : decode cX11_becomes 7 = .ok (.aload_n 0, 1) := by decide +kernel
theorem dX11_becomes_8 : decode cX11_becomes 8 = .ok (.getfield 109, 3) := by decide +kernel
theorem dX11_becomes_11 : decode cX11_becomes 11 = .ok (.iload_n 1, 1) := by decide +kernel
theorem dX11_becomes_12 : decode cX11_becomes 12 = .ok (.aload_n 0, 1) := by decide +kernel
theorem dX11_becomes_13 : decode cX11_becomes 13 = .ok (.getfield 448, 3) := by decide +kernel
theorem dX11_becomes_16 : decode cX11_becomes 16 = .ok (.iastore, 1) := by decide +kernel
theorem dX11_becomes_17 : decode cX11_becomes 17 = .ok (.iconst 0, 1) := by decide +kernel
theorem dX11_becomes_18 : decode cX11_becomes 18 = .ok (.istore_n 3, 1) := by decide +kernel
theorem dX11_becomes_19 : decode cX11_becomes 19 = .ok (.iload_n 3, 1) := by decide +kernel
theorem dX11_becomes_20 : decode cX11_becomes 20 = .ok (.aload_n 0, 1) := by decide +kernel
theorem dX11_becomes_21 : decode cX11_becomes 21 = .ok (.getfield 448, 3) := by decide +kernel
theorem dX11_becomes_24 : decode cX11_becomes 24 = .ok (.if_icmp .ge 27, 3) := by decide +kernel
theorem dX11_becomes_27 : decode cX11_becomes 27 = .ok (.aload_n 0, 1) := by decide +kernel
theorem dX11_becomes_28 : decode cX11_becomes 28 = .ok (.getfield 112, 3) := by decide +kernel
theorem dX11_becomes_31 : decode cX11_becomes 31 = .ok (.sipush 400, 3) := by decide +kernel
theorem dX11_becomes_34 : decode cX11_becomes 34 = .ok (.iload_n 1, 1) := by decide +kernel
theorem dX11_becomes_35 : decode cX11_becomes 35 = .ok (.imul, 1) := by decide +kernel
theorem dX11_becomes_36 : decode cX11_becomes 36 = .ok (.iload_n 3, 1) := by decide +kernel
theorem dX11_becomes_37 : decode cX11_becomes 37 = .ok (.iadd, 1) := by decide +kernel
theorem dX11_becomes_38 : decode cX11_becomes 38 = .ok (.aload_n 0, 1) := by decide +kernel
theorem dX11_becomes_39 : decode cX11_becomes 39 = .ok (.getfield 103, 3) := by decide +kernel
theorem dX11_becomes_42 : decode cX11_becomes 42 = .ok (.iload_n 3, 1) := by decide +kernel
theorem dX11_becomes_43 : decode cX11_becomes 43 = .ok (.baload, 1) := by decide +kernel
theorem dX11_becomes_44 : decode cX11_becomes 44 = .ok (.bastore, 1) := by decide +kernel
theorem dX11_becomes_45 : decode cX11_becomes 45 = .ok (.iinc 3 1, 3) := by decide +kernel
theorem dX11_becomes_48 : decode cX11_becomes 48 = .ok (.goto (-29), 3) := by decide +kernel
theorem dX11_becomes_51 : decode cX11_becomes 51 = .ok (.return_, 1) := by decide +kernel
theorem dX11_begins_0 : decode cX11_begins 0 = .ok (.aload_n 0, 1) := by decide +kernel
theorem dX11_begins_1 : decode cX11_begins 1 = .ok (.iload_n 1, 1) := by decide +kernel
theorem dX11_begins_2 : decode cX11_begins 2 = .ok (.putfield 189, 3) := by decide +kernel
theorem dX11_begins_5 : decode cX11_begins 5 = .ok (.aload_n 0, 1) := by decide +kernel
theorem dX11_begins_6 : decode cX11_begins 6 = .ok (.iconst 0, 1) := by decide +kernel
theorem dX11_begins_7 : decode cX11_begins 7 = .ok (.putfield 182, 3) := by decide +kernel
theorem dX11_begins_10 : decode cX11_begins 10 = .ok (.aload_n 0, 1) := by decide +kernel
theorem dX11_begins_11 : decode cX11_begins 11 = .ok (.iconst 0, 1) := by decide +kernel
theorem dX11_begins_12 : decode cX11_begins 12 = .ok (.putfield 211, 3) := by decide +kernel
theorem dX11_begins_15 : decode cX11_begins 15 = .ok (.aload_n 0, 1) := by decide +kernel
theorem dX11_begins_16 : decode cX11_begins 16 = .ok (.iconst 0, 1) := by decide +kernel
theorem dX11_begins_17 : decode cX11_begins 17 = .ok (.putfield 265, 3) := by decide +kernel
theorem dX11_begins_20 : decode cX11_begins 20 = .ok (.aload_n 0, 1) := by decide +kernel
theorem dX11_begins_21 : decode cX11_begins 21 = .ok (.invokevirtual 275, 3) := by decide +kernel
theorem dX11_begins_24 : decode cX11_begins 24 = .ok (.return_, 1) := by decide +kernel
theorem dX11_byteAt_0 : decode cX11_byteAt 0 = .ok (.iload_n 1, 1) := by decide +kernel
theorem dX11_byteAt_1 : decode cX11_byteAt 1 = .ok (.aload_n 0, 1) := by decide +kernel
theorem dX11_byteAt_2 : decode cX11_byteAt 2 = .ok (.getfield 189, 3) := by decide +kernel
theorem dX11_byteAt_5 : decode cX11_byteAt 5 = .ok (.if_icmp .ge 16, 3) := by decide +kernel
theorem dX11_byteAt_8 : decode cX11_byteAt 8 = .ok (.aload_n 0, 1) := by decide +kernel
theorem dX11_byteAt_9 : decode cX11_byteAt 9 = .ok (.getfield 7, 3) := by decide +kernel
theorem dX11_byteAt_12 : decode cX11_byteAt 12 = .ok (.iload_n 1, 1) := by decide +kernel
theorem dX11_byteAt_13 : decode cX11_byteAt 13 = .ok (.baload, 1) := by decide +kernel
theorem dX11_byteAt_14 : decode cX11_byteAt 14 = .ok (.sipush 255, 3) := by decide +kernel
theorem dX11_byteAt_17 : decode cX11_byteAt 17 = .ok (.iand, 1) := by decide +kernel
theorem dX11_byteAt_18 : decode cX11_byteAt 18 = .ok (.goto 4, 3) := by decide +kernel
theorem dX11_byteAt_21 : decode cX11_byteAt 21 = .ok (.iconst (-1), 1) := by decide +kernel
theorem dX11_byteAt_22 : decode cX11_byteAt 22 = .ok (.ireturn, 1) := by decide +kernel
theorem dX11_go_0 : decode cX11_go 0 = .ok (.aload_n 0, 1) := by decide +kernel
theorem dX11_go_1 : decode cX11_go 1 = .ok (.aload_n 0, 1) := by decide +kernel
theorem dX11_go_2 : decode cX11_go 2 = .ok (.getfield 211, 3) := by decide +kernel
theorem dX11_go_5 : decode cX11_go 5 = .ok (.invokevirtual 214, 3) := by decide +kernel
theorem dX11_go_8 : decode cX11_go 8 = .ok (.bipush 32, 2) := by decide +kernel
theorem dX11_go_10 : decode cX11_go 10 = .ok (.if_icmp .eq 16, 3) := by decide +kernel
theorem dX11_go_13 : decode cX11_go 13 = .ok (.aload_n 0, 1) := by decide +kernel
theorem dX11_go_14 : decode cX11_go 14 = .ok (.aload_n 0, 1) := by decide +kernel
theorem dX11_go_15 : decode cX11_go 15 = .ok (.getfield 211, 3) := by decide +kernel
theorem dX11_go_18 : decode cX11_go 18 = .ok (.invokevirtual 214, 3) := by decide +kernel
theorem dX11_go_21 : decode cX11_go 21 = .ok (.bipush 10, 2) := by decide +kernel
theorem dX11_go_23 : decode cX11_go 23 = .ok (.if_icmp .ne 16, 3) := by decide +kernel
theorem dX11_go_26 : decode cX11_go 26 = .ok (.aload_n 0, 1) := by decide +kernel
theorem dX11_go_27 : decode cX11_go 27 = .ok (.dup, 1) := by decide +kernel
theorem dX11_go_28 : decode cX11_go 28 = .ok (.getfield 211, 3) := by decide +kernel
theorem dX11_go_31 : decode cX11_go 31 = .ok (.iconst 1, 1) := by decide +kernel
theorem dX11_go_32 : decode cX11_go 32 = .ok (.iadd, 1) := by decide +kernel
theorem dX11_go_33 : decode cX11_go 33 = .ok (.putfield 211, 3) := by decide +kernel
theorem dX11_go_36 : decode cX11_go 36 = .ok (.goto (-36), 3) := by decide +kernel
theorem dX11_go_39 : decode cX11_go 39 = .ok (.aload_n 0, 1) := by decide +kernel
theorem dX11_go_40 : decode cX11_go 40 = .ok (.aload_n 0, 1) := by decide +kernel
theorem dX11_go_41 : decode cX11_go 41 = .ok (.getfield 211, 3) := by decide +kernel
theorem dX11_go_44 : decode cX11_go 44 = .ok (.putfield 250, 3) := by decide +kernel
theorem dX11_go_47 : decode cX11_go 47 = .ok (.aload_n 0, 1) := by decide +kernel
theorem dX11_go_48 : decode cX11_go 48 = .ok (.aload_n 0, 1) := by decide +kernel
theorem dX11_go_49 : decode cX11_go 49 = .ok (.getfield 211, 3) := by decide +kernel
theorem dX11_go_52 : decode cX11_go 52 = .ok (.invokevirtual 214, 3) := by decide +kernel
theorem dX11_go_55 : decode cX11_go 55 = .ok (.istore_n 1, 1) := by decide +kernel
theorem dX11_go_56 : decode cX11_go 56 = .ok (.aload_n 0, 1) := by decide +kernel
theorem dX11_go_57 : decode cX11_go 57 = .ok (.iconst 0, 1) := by decide +kernel
theorem dX11_go_58 : decode cX11_go 58 = .ok (.putfield 253, 3) := by decide +kernel
theorem dX11_go_61 : decode cX11_go 61 = .ok (.iload_n 1, 1) := by decide +kernel
theorem dX11_go_62 : decode cX11_go 62 = .ok (.ifCond .ge 11, 3) := by decide +kernel
theorem dX11_go_65 : decode cX11_go 65 = .ok (.aload_n 0, 1) := by decide +kernel
theorem dX11_go_66 : decode cX11_go 66 = .ok (.iconst 0, 1) := by decide +kernel
theorem dX11_go_67 : decode cX11_go 67 = .ok (.putfield 244, 3) := by decide +kernel
theorem dX11_go_70 : decode cX11_go 70 = .ok (.goto 128, 3) := by decide +kernel
theorem dX11_go_73 : decode cX11_go 73 = .ok (.iload_n 1, 1) := by decide +kernel
theorem dX11_go_74 : decode cX11_go 74 = .ok (.invokestatic 218, 3) := by decide +kernel
theorem dX11_go_77 : decode cX11_go 77 = .ok (.ifCond .eq 30, 3) := by decide +kernel
theorem dX11_go_80 : decode cX11_go 80 = .ok (.aload_n 0, 1) := by decide +kernel
theorem dX11_go_81 : decode cX11_go 81 = .ok (.bipush 8, 2) := by decide +kernel
theorem dX11_go_83 : decode cX11_go 83 = .ok (.invokevirtual 247, 3) := by decide +kernel
theorem dX11_go_86 : decode cX11_go 86 = .ok (.aload_n 0, 1) := by decide +kernel
theorem dX11_go_87 : decode cX11_go 87 = .ok (.aload_n 0, 1) := by decide +kernel
theorem dX11_go_88 : decode cX11_go 88 = .ok (.getfield 208, 3) := by decide +kernel
theorem dX11_go_91 : decode cX11_go 91 = .ok (.bipush 8, 2) := by decide +kernel
theorem dX11_go_93 : decode cX11_go 93 = .ok (.if_icmp .gt 7, 3) := by decide +kernel
theorem dX11_go_96 : decode cX11_go 96 = .ok (.iconst 1, 1) := by decide +kernel
theorem dX11_go_97 : decode cX11_go 97 = .ok (.goto 4, 3) := by decide +kernel
theorem dX11_go_100 : decode cX11_go 100 = .ok (.iconst 5, 1) := by decide +kernel
theorem dX11_go_101 : decode cX11_go 101 = .ok (.putfield 244, 3) := by decide +kernel
theorem dX11_go_104 : decode cX11_go 104 = .ok (.goto 94, 3) := by decide +kernel
theorem dX11_go_107 : decode cX11_go 107 = .ok (.iload_n 1, 1) := by decide +kernel
theorem dX11_go_108 : decode cX11_go 108 = .ok (.invokestatic 229, 3) := by decide +kernel
theorem dX11_go_111 : decode cX11_go 111 = .ok (.ifCond .ne 25, 3) := by decide +kernel
theorem dX11_go_114 : decode cX11_go 114 = .ok (.iload_n 1, 1) := by decide +kernel
theorem dX11_go_115 : decode cX11_go 115 = .ok (.bipush 45, 2) := by decide +kernel
theorem dX11_go_117 : decode cX11_go 117 = .ok (.if_icmp .ne 26, 3) := by decide +kernel
theorem dX11_go_120 : decode cX11_go 120 = .ok (.aload_n 0, 1) := by decide +kernel
theorem dX11_go_121 : decode cX11_go 121 = .ok (.aload_n 0, 1) := by decide +kernel
theorem dX11_go_122 : decode cX11_go 122 = .ok (.getfield 211, 3) := by decide +kernel
theorem dX11_go_125 : decode cX11_go 125 = .ok (.iconst 1, 1) := by decide +kernel
theorem dX11_go_126 : decode cX11_go 126 = .ok (.iadd, 1) := by decide +kernel
theorem dX11_go_127 : decode cX11_go 127 = .ok (.invokevirtual 214, 3) := by decide +kernel
theorem dX11_go_130 : decode cX11_go 130 = .ok (.invokestatic 229, 3) := by decide +kernel
theorem dX11_go_133 : decode cX11_go 133 = .ok (.ifCond .eq 10, 3) := by decide +kernel
theorem dX11_go_136 : decode cX11_go 136 = .ok (.aload_n 0, 1) := by decide +kernel
theorem dX11_go_137 : decode cX11_go 137 = .ok (.invokevirtual 256, 3) := by decide +kernel
theorem dX11_go_140 : decode cX11_go 140 = .ok (.goto 58, 3) := by decide +kernel
theorem dX11_go_143 : decode cX11_go 143 = .ok (.iload_n 1, 1) := by decide +kernel
theorem dX11_go_144 : decode cX11_go 144 = .ok (.bipush 34, 2) := by decide +kernel
theorem dX11_go_146 : decode cX11_go 146 = .ok (.if_icmp .ne 10, 3) := by decide +kernel
theorem dX11_go_149 : decode cX11_go 149 = .ok (.aload_n 0, 1) := by decide +kernel
theorem dX11_go_150 : decode cX11_go 150 = .ok (.invokevirtual 259, 3) := by decide +kernel
theorem dX11_go_153 : decode cX11_go 153 = .ok (.goto 45, 3) := by decide +kernel
theorem dX11_go_156 : decode cX11_go 156 = .ok (.aload_n 0, 1) := by decide +kernel
theorem dX11_go_157 : decode cX11_go 157 = .ok (.iload_n 1, 1) := by decide +kernel
theorem dX11_go_158 : decode cX11_go 158 = .ok (.invokestatic 262, 3) := by decide +kernel
theorem dX11_go_161 : decode cX11_go 161 = .ok (.ifCond .eq 7, 3) := by decide +kernel
theorem dX11_go_164 : decode cX11_go 164 = .ok (.iload_n 1, 1) := by decide +kernel
theorem dX11_go_165 : decode cX11_go 165 = .ok (.goto 4, 3) := by decide +kernel
theorem dX11_go_168 : decode cX11_go 168 = .ok (.iconst 0, 1) := by decide +kernel
theorem dX11_go_169 : decode cX11_go 169 = .ok (.putfield 253, 3) := by decide +kernel
theorem dX11_go_172 : decode cX11_go 172 = .ok (.aload_n 0, 1) := by decide +kernel
theorem dX11_go_173 : decode cX11_go 173 = .ok (.aload_n 0, 1) := by decide +kernel
theorem dX11_go_174 : decode cX11_go 174 = .ok (.getfield 253, 3) := by decide +kernel
theorem dX11_go_177 : decode cX11_go 177 = .ok (.ifCond .le 7, 3) := by decide +kernel
theorem dX11_go_180 : decode cX11_go 180 = .ok (.iconst 4, 1) := by decide +kernel
theorem dX11_go_181 : decode cX11_go 181 = .ok (.goto 4, 3) := by decide +kernel
theorem dX11_go_184 : decode cX11_go 184 = .ok (.iconst 5, 1) := by decide +kernel
theorem dX11_go_185 : decode cX11_go 185 = .ok (.putfield 244, 3) := by decide +kernel
theorem dX11_go_188 : decode cX11_go 188 = .ok (.aload_n 0, 1) := by decide +kernel
theorem dX11_go_189 : decode cX11_go 189 = .ok (.dup, 1) := by decide +kernel
theorem dX11_go_190 : decode cX11_go 190 = .ok (.getfield 211, 3) := by decide +kernel
theorem dX11_go_193 : decode cX11_go 193 = .ok (.iconst 1, 1) := by decide +kernel
theorem dX11_go_194 : decode cX11_go 194 = .ok (.iadd, 1) := by decide +kernel
theorem dX11_go_195 : decode cX11_go 195 = .ok (.putfield 211, 3) := by decide +kernel
theorem dX11_go_198 : decode cX11_go 198 = .ok (.return_, 1) := by decide +kernel
theorem dX11_isDigit_0 : decode cX11_isDigit 0 = .ok (.iload_n 0, 1) := by decide +kernel
theorem dX11_isDigit_1 : decode cX11_isDigit 1 = .ok (.i2l, 1) := by decide +kernel
theorem dX11_isDigit_2 : decode cX11_isDigit 2 = .ok (.ldc2_w 200, 3) := by decide +kernel
theorem dX11_isDigit_5 : decode cX11_isDigit 5 = .ok (.ldc2_w 202, 3) := by decide +kernel
theorem dX11_isDigit_8 : decode cX11_isDigit 8 = .ok (.invokestatic 196, 3) := by decide +kernel
theorem dX11_isDigit_11 : decode cX11_isDigit 11 = .ok (.ireturn, 1) := by decide +kernel
theorem dX11_isSign_0 : decode cX11_isSign 0 = .ok (.iload_n 0, 1) := by decide +kernel
theorem dX11_isSign_1 : decode cX11_isSign 1 = .ok (.bipush 123, 2) := by decide +kernel
theorem dX11_isSign_3 : decode cX11_isSign 3 = .ok (.if_icmp .eq 33, 3) := by decide +kernel
theorem dX11_isSign_6 : decode cX11_isSign 6 = .ok (.iload_n 0, 1) := by decide +kernel
theorem dX11_isSign_7 : decode cX11_isSign 7 = .ok (.bipush 125, 2) := by decide +kernel
theorem dX11_isSign_9 : decode cX11_isSign 9 = .ok (.if_icmp .eq 27, 3) := by decide +kernel
theorem dX11_isSign_12 : decode cX11_isSign 12 = .ok (.iload_n 0, 1) := by decide +kernel
theorem dX11_isSign_13 : decode cX11_isSign 13 = .ok (.bipush 91, 2) := by decide +kernel
theorem dX11_isSign_15 : decode cX11_isSign 15 = .ok (.if_icmp .eq 21, 3) := by decide +kernel
theorem dX11_isSign_18 : decode cX11_isSign 18 = .ok (.iload_n 0, 1) := by decide +kernel
theorem dX11_isSign_19 : decode cX11_isSign 19 = .ok (.bipush 93, 2) := by decide +kernel
theorem dX11_isSign_21 : decode cX11_isSign 21 = .ok (.if_icmp .eq 15, 3) := by decide +kernel
theorem dX11_isSign_24 : decode cX11_isSign 24 = .ok (.iload_n 0, 1) := by decide +kernel
theorem dX11_isSign_25 : decode cX11_isSign 25 = .ok (.bipush 44, 2) := by decide +kernel
theorem dX11_isSign_27 : decode cX11_isSign 27 = .ok (.if_icmp .eq 9, 3) := by decide +kernel
theorem dX11_isSign_30 : decode cX11_isSign 30 = .ok (.iload_n 0, 1) := by decide +kernel
theorem dX11_isSign_31 : decode cX11_isSign 31 = .ok (.bipush 59, 2) := by decide +kernel
theorem dX11_isSign_33 : decode cX11_isSign 33 = .ok (.if_icmp .ne 7, 3) := by decide +kernel
theorem dX11_isSign_36 : decode cX11_isSign 36 = .ok (.iconst 1, 1) := by decide +kernel
theorem dX11_isSign_37 : decode cX11_isSign 37 = .ok (.goto 4, 3) := by decide +kernel
theorem dX11_isSign_40 : decode cX11_isSign 40 = .ok (.iconst 0, 1) := by decide +kernel
theorem dX11_isSign_41 : decode cX11_isSign 41 = .ok (.ireturn, 1) := by decide +kernel
theorem dX11_number_0 : decode cX11_number 0 = .ok (.aload_n 0, 1) := by decide +kernel
theorem dX11_number_1 : decode cX11_number 1 = .ok (.aload_n 0, 1) := by decide +kernel
theorem dX11_number_2 : decode cX11_number 2 = .ok (.getfield 211, 3) := by decide +kernel
theorem dX11_number_5 : decode cX11_number 5 = .ok (.invokevirtual 214, 3) := by decide +kernel
theorem dX11_number_8 : decode cX11_number 8 = .ok (.bipush 45, 2) := by decide +kernel
theorem dX11_number_10 : decode cX11_number 10 = .ok (.if_icmp .ne 7, 3) := by decide +kernel
theorem dX11_number_13 : decode cX11_number 13 = .ok (.iconst 1, 1) := by decide +kernel
theorem dX11_number_14 : decode cX11_number 14 = .ok (.goto 4, 3) := by decide +kernel
theorem dX11_number_17 : decode cX11_number 17 = .ok (.iconst 0, 1) := by decide +kernel
theorem dX11_number_18 : decode cX11_number 18 = .ok (.istore_n 1, 1) := by decide +kernel
theorem dX11_number_19 : decode cX11_number 19 = .ok (.aload_n 0, 1) := by decide +kernel
theorem dX11_number_20 : decode cX11_number 20 = .ok (.dup, 1) := by decide +kernel
theorem dX11_number_21 : decode cX11_number 21 = .ok (.getfield 211, 3) := by decide +kernel
theorem dX11_number_24 : decode cX11_number 24 = .ok (.iload_n 1, 1) := by decide +kernel
theorem dX11_number_25 : decode cX11_number 25 = .ok (.ifCond .eq 7, 3) := by decide +kernel
theorem dX11_number_28 : decode cX11_number 28 = .ok (.iconst 1, 1) := by decide +kernel
theorem dX11_number_29 : decode cX11_number 29 = .ok (.goto 4, 3) := by decide +kernel
theorem dX11_number_32 : decode cX11_number 32 = .ok (.iconst 0, 1) := by decide +kernel
theorem dX11_number_33 : decode cX11_number 33 = .ok (.iadd, 1) := by decide +kernel
theorem dX11_number_34 : decode cX11_number 34 = .ok (.putfield 211, 3) := by decide +kernel
theorem dX11_number_37 : decode cX11_number 37 = .ok (.aload_n 0, 1) := by decide +kernel
theorem dX11_number_38 : decode cX11_number 38 = .ok (.getfield 211, 3) := by decide +kernel
theorem dX11_number_41 : decode cX11_number 41 = .ok (.istore_n 2, 1) := by decide +kernel
theorem dX11_number_42 : decode cX11_number 42 = .ok (.aload_n 0, 1) := by decide +kernel
theorem dX11_number_43 : decode cX11_number 43 = .ok (.lconst 0, 1) := by decide +kernel
theorem dX11_number_44 : decode cX11_number 44 = .ok (.putfield 226, 3) := by decide +kernel
theorem dX11_number_47 : decode cX11_number 47 = .ok (.aload_n 0, 1) := by decide +kernel
theorem dX11_number_48 : decode cX11_number 48 = .ok (.aload_n 0, 1) := by decide +kernel
theorem dX11_number_49 : decode cX11_number 49 = .ok (.getfield 211, 3) := by decide +kernel
theorem dX11_number_52 : decode cX11_number 52 = .ok (.invokevirtual 214, 3) := by decide +kernel
theorem dX11_number_55 : decode cX11_number 55 = .ok (.invokestatic 229, 3) := by decide +kernel
theorem dX11_number_58 : decode cX11_number 58 = .ok (.ifCond .eq 60, 3) := by decide +kernel
theorem dX11_number_61 : decode cX11_number 61 = .ok (.aload_n 0, 1) := by decide +kernel
theorem dX11_number_62 : decode cX11_number 62 = .ok (.aload_n 0, 1) := by decide +kernel
theorem dX11_number_63 : decode cX11_number 63 = .ok (.getfield 211, 3) := by decide +kernel
theorem dX11_number_66 : decode cX11_number 66 = .ok (.iload_n 2, 1) := by decide +kernel
theorem dX11_number_67 : decode cX11_number 67 = .ok (.isub, 1) := by decide +kernel
theorem dX11_number_68 : decode cX11_number 68 = .ok (.bipush 18, 2) := by decide +kernel
theorem dX11_number_70 : decode cX11_number 70 = .ok (.if_icmp .ge 28, 3) := by decide +kernel
theorem dX11_number_73 : decode cX11_number 73 = .ok (.ldc2_w 232, 3) := by decide +kernel
theorem dX11_number_76 : decode cX11_number 76 = .ok (.aload_n 0, 1) := by decide +kernel
theorem dX11_number_77 : decode cX11_number 77 = .ok (.getfield 226, 3) := by decide +kernel
theorem dX11_number_80 : decode cX11_number 80 = .ok (.lmul, 1) := by decide +kernel
theorem dX11_number_81 : decode cX11_number 81 = .ok (.aload_n 0, 1) := by decide +kernel
theorem dX11_number_82 : decode cX11_number 82 = .ok (.aload_n 0, 1) := by decide +kernel
theorem dX11_number_83 : decode cX11_number 83 = .ok (.getfield 211, 3) := by decide +kernel
theorem dX11_number_86 : decode cX11_number 86 = .ok (.invokevirtual 214, 3) := by decide +kernel
theorem dX11_number_89 : decode cX11_number 89 = .ok (.i2l, 1) := by decide +kernel
theorem dX11_number_90 : decode cX11_number 90 = .ok (.ladd, 1) := by decide +kernel
theorem dX11_number_91 : decode cX11_number 91 = .ok (.ldc2_w 200, 3) := by decide +kernel
theorem dX11_number_94 : decode cX11_number 94 = .ok (.lsub, 1) := by decide +kernel
theorem dX11_number_95 : decode cX11_number 95 = .ok (.goto 7, 3) := by decide +kernel
theorem dX11_number_98 : decode cX11_number 98 = .ok (.aload_n 0, 1) := by decide +kernel
theorem dX11_number_99 : decode cX11_number 99 = .ok (.getfield 226, 3) := by decide +kernel
theorem dX11_number_102 : decode cX11_number 102 = .ok (.putfield 226, 3) := by decide +kernel
theorem dX11_number_105 : decode cX11_number 105 = .ok (.aload_n 0, 1) := by decide +kernel
theorem dX11_number_106 : decode cX11_number 106 = .ok (.dup, 1) := by decide +kernel
theorem dX11_number_107 : decode cX11_number 107 = .ok (.getfield 211, 3) := by decide +kernel
theorem dX11_number_110 : decode cX11_number 110 = .ok (.iconst 1, 1) := by decide +kernel
theorem dX11_number_111 : decode cX11_number 111 = .ok (.iadd, 1) := by decide +kernel
theorem dX11_number_112 : decode cX11_number 112 = .ok (.putfield 211, 3) := by decide +kernel
theorem dX11_number_115 : decode cX11_number 115 = .ok (.goto (-68), 3) := by decide +kernel
theorem dX11_number_118 : decode cX11_number 118 = .ok (.aload_n 0, 1) := by decide +kernel
theorem dX11_number_119 : decode cX11_number 119 = .ok (.getfield 211, 3) := by decide +kernel
theorem dX11_number_122 : decode cX11_number 122 = .ok (.iload_n 2, 1) := by decide +kernel
theorem dX11_number_123 : decode cX11_number 123 = .ok (.isub, 1) := by decide +kernel
theorem dX11_number_124 : decode cX11_number 124 = .ok (.bipush 18, 2) := by decide +kernel
theorem dX11_number_126 : decode cX11_number 126 = .ok (.if_icmp .gt 7, 3) := by decide +kernel
theorem dX11_number_129 : decode cX11_number 129 = .ok (.iconst 1, 1) := by decide +kernel
theorem dX11_number_130 : decode cX11_number 130 = .ok (.goto 4, 3) := by decide +kernel
theorem dX11_number_133 : decode cX11_number 133 = .ok (.iconst 0, 1) := by decide +kernel
theorem dX11_number_134 : decode cX11_number 134 = .ok (.istore_n 3, 1) := by decide +kernel
theorem dX11_number_135 : decode cX11_number 135 = .ok (.aload_n 0, 1) := by decide +kernel
theorem dX11_number_136 : decode cX11_number 136 = .ok (.aload_n 0, 1) := by decide +kernel
theorem dX11_number_137 : decode cX11_number 137 = .ok (.aload_n 0, 1) := by decide +kernel
theorem dX11_number_138 : decode cX11_number 138 = .ok (.getfield 211, 3) := by decide +kernel
theorem dX11_number_141 : decode cX11_number 141 = .ok (.invokevirtual 214, 3) := by decide +kernel
theorem dX11_number_144 : decode cX11_number 144 = .ok (.bipush 46, 2) := by decide +kernel
theorem dX11_number_146 : decode cX11_number 146 = .ok (.if_icmp .ne 23, 3) := by decide +kernel
theorem dX11_number_149 : decode cX11_number 149 = .ok (.aload_n 0, 1) := by decide +kernel
theorem dX11_number_150 : decode cX11_number 150 = .ok (.aload_n 0, 1) := by decide +kernel
theorem dX11_number_151 : decode cX11_number 151 = .ok (.getfield 211, 3) := by decide +kernel
theorem dX11_number_154 : decode cX11_number 154 = .ok (.iconst 1, 1) := by decide +kernel
theorem dX11_number_155 : decode cX11_number 155 = .ok (.iadd, 1) := by decide +kernel
theorem dX11_number_156 : decode cX11_number 156 = .ok (.invokevirtual 214, 3) := by decide +kernel
theorem dX11_number_159 : decode cX11_number 159 = .ok (.invokestatic 229, 3) := by decide +kernel
theorem dX11_number_162 : decode cX11_number 162 = .ok (.ifCond .eq 7, 3) := by decide +kernel
theorem dX11_number_165 : decode cX11_number 165 = .ok (.iconst 1, 1) := by decide +kernel
theorem dX11_number_166 : decode cX11_number 166 = .ok (.goto 4, 3) := by decide +kernel
theorem dX11_number_169 : decode cX11_number 169 = .ok (.iconst 0, 1) := by decide +kernel
theorem dX11_number_170 : decode cX11_number 170 = .ok (.putfield 234, 3) := by decide +kernel
theorem dX11_number_173 : decode cX11_number 173 = .ok (.aload_n 0, 1) := by decide +kernel
theorem dX11_number_174 : decode cX11_number 174 = .ok (.getfield 234, 3) := by decide +kernel
theorem dX11_number_177 : decode cX11_number 177 = .ok (.ifCond .eq 85, 3) := by decide +kernel
theorem dX11_number_180 : decode cX11_number 180 = .ok (.aload_n 0, 1) := by decide +kernel
theorem dX11_number_181 : decode cX11_number 181 = .ok (.aload_n 0, 1) := by decide +kernel
theorem dX11_number_182 : decode cX11_number 182 = .ok (.getfield 226, 3) := by decide +kernel
theorem dX11_number_185 : decode cX11_number 185 = .ok (.l2d, 1) := by decide +kernel
theorem dX11_number_186 : decode cX11_number 186 = .ok (.aload_n 0, 1) := by decide +kernel
theorem dX11_number_187 : decode cX11_number 187 = .ok (.aload_n 0, 1) := by decide +kernel
theorem dX11_number_188 : decode cX11_number 188 = .ok (.getfield 211, 3) := by decide +kernel
theorem dX11_number_191 : decode cX11_number 191 = .ok (.iconst 1, 1) := by decide +kernel
theorem dX11_number_192 : decode cX11_number 192 = .ok (.iadd, 1) := by decide +kernel
theorem dX11_number_193 : decode cX11_number 193 = .ok (.invokevirtual 214, 3) := by decide +kernel
theorem dX11_number_196 : decode cX11_number 196 = .ok (.bipush 48, 2) := by decide +kernel
theorem dX11_number_198 : decode cX11_number 198 = .ok (.isub, 1) := by decide +kernel
theorem dX11_number_199 : decode cX11_number 199 = .ok (.i2d, 1) := by decide +kernel
theorem dX11_number_200 : decode cX11_number 200 = .ok (.ldc2_w 238, 3) := by decide +kernel
theorem dX11_number_203 : decode cX11_number 203 = .ok (.ddiv, 1) := by decide +kernel
theorem dX11_number_204 : decode cX11_number 204 = .ok (.dadd, 1) := by decide +kernel
theorem dX11_number_205 : decode cX11_number 205 = .ok (.putfield 240, 3) := by decide +kernel
theorem dX11_number_208 : decode cX11_number 208 = .ok (.aload_n 0, 1) := by decide +kernel
theorem dX11_number_209 : decode cX11_number 209 = .ok (.iload_n 1, 1) := by decide +kernel
theorem dX11_number_210 : decode cX11_number 210 = .ok (.ifCond .eq 11, 3) := by decide +kernel
theorem dX11_number_213 : decode cX11_number 213 = .ok (.aload_n 0, 1) := by decide +kernel
theorem dX11_number_214 : decode cX11_number 214 = .ok (.getfield 240, 3) := by decide +kernel
theorem dX11_number_217 : decode cX11_number 217 = .ok (.dneg, 1) := by decide +kernel
theorem dX11_number_218 : decode cX11_number 218 = .ok (.goto 7, 3) := by decide +kernel
theorem dX11_number_221 : decode cX11_number 221 = .ok (.aload_n 0, 1) := by decide +kernel
theorem dX11_number_222 : decode cX11_number 222 = .ok (.getfield 240, 3) := by decide +kernel
theorem dX11_number_225 : decode cX11_number 225 = .ok (.putfield 240, 3) := by decide +kernel
theorem dX11_number_228 : decode cX11_number 228 = .ok (.aload_n 0, 1) := by decide +kernel
theorem dX11_number_229 : decode cX11_number 229 = .ok (.dup, 1) := by decide +kernel
theorem dX11_number_230 : decode cX11_number 230 = .ok (.getfield 211, 3) := by decide +kernel
theorem dX11_number_233 : decode cX11_number 233 = .ok (.iconst 2, 1) := by decide +kernel
theorem dX11_number_234 : decode cX11_number 234 = .ok (.iadd, 1) := by decide +kernel
theorem dX11_number_235 : decode cX11_number 235 = .ok (.putfield 211, 3) := by decide +kernel
theorem dX11_number_238 : decode cX11_number 238 = .ok (.iload_n 3, 1) := by decide +kernel
theorem dX11_number_239 : decode cX11_number 239 = .ok (.ifCond .eq 21, 3) := by decide +kernel
theorem dX11_number_242 : decode cX11_number 242 = .ok (.aload_n 0, 1) := by decide +kernel
theorem dX11_number_243 : decode cX11_number 243 = .ok (.aload_n 0, 1) := by decide +kernel
theorem dX11_number_244 : decode cX11_number 244 = .ok (.getfield 211, 3) := by decide +kernel
theorem dX11_number_247 : decode cX11_number 247 = .ok (.invokevirtual 214, 3) := by decide +kernel
theorem dX11_number_250 : decode cX11_number 250 = .ok (.invokestatic 229, 3) := by decide +kernel
theorem dX11_number_253 : decode cX11_number 253 = .ok (.ifCond .ne 7, 3) := by decide +kernel
theorem dX11_number_256 : decode cX11_number 256 = .ok (.iconst 1, 1) := by decide +kernel
theorem dX11_number_257 : decode cX11_number 257 = .ok (.goto 4, 3) := by decide +kernel
theorem dX11_number_260 : decode cX11_number 260 = .ok (.iconst 0, 1) := by decide +kernel
theorem dX11_number_261 : decode cX11_number 261 = .ok (.istore_n 3, 1) := by decide +kernel
theorem dX11_number_262 : decode cX11_number 262 = .ok (.aload_n 0, 1) := by decide +kernel
theorem dX11_number_263 : decode cX11_number 263 = .ok (.iload_n 1, 1) := by decide +kernel
theorem dX11_number_264 : decode cX11_number 264 = .ok (.ifCond .eq 11, 3) := by decide +kernel
theorem dX11_number_267 : decode cX11_number 267 = .ok (.aload_n 0, 1) := by decide +kernel
theorem dX11_number_268 : decode cX11_number 268 = .ok (.getfield 226, 3) := by decide +kernel
theorem dX11_number_271 : decode cX11_number 271 = .ok (.lneg, 1) := by decide +kernel
theorem dX11_number_272 : decode cX11_number 272 = .ok (.goto 7, 3) := by decide +kernel
theorem dX11_number_275 : decode cX11_number 275 = .ok (.aload_n 0, 1) := by decide +kernel
theorem dX11_number_276 : decode cX11_number 276 = .ok (.getfield 226, 3) := by decide +kernel
theorem dX11_number_279 : decode cX11_number 279 = .ok (.putfield 226, 3) := by decide +kernel
theorem dX11_number_282 : decode cX11_number 282 = .ok (.aload_n 0, 1) := by decide +kernel
theorem dX11_number_283 : decode cX11_number 283 = .ok (.iload_n 3, 1) := by decide +kernel
theorem dX11_number_284 : decode cX11_number 284 = .ok (.ifCond .eq 7, 3) := by decide +kernel
theorem dX11_number_287 : decode cX11_number 287 = .ok (.iconst 2, 1) := by decide +kernel
theorem dX11_number_288 : decode cX11_number 288 = .ok (.goto 4, 3) := by decide +kernel
theorem dX11_number_291 : decode cX11_number 291 = .ok (.iconst 5, 1) := by decide +kernel
theorem dX11_number_292 : decode cX11_number 292 = .ok (.putfield 244, 3) := by decide +kernel
theorem dX11_number_295 : decode cX11_number 295 = .ok (.return_, 1) := by decide +kernel
theorem dX11_quoted_0 : decode cX11_quoted 0 = .ok (.aload_n 0, 1) := by decide +kernel
theorem dX11_quoted_1 : decode cX11_quoted 1 = .ok (.dup, 1) := by decide +kernel
theorem dX11_quoted_2 : decode cX11_quoted 2 = .ok (.getfield 211, 3) := by decide +kernel
theorem dX11_quoted_5 : decode cX11_quoted 5 = .ok (.iconst 1, 1) := by decide +kernel
theorem dX11_quoted_6 : decode cX11_quoted 6 = .ok (.iadd, 1) := by decide +kernel
theorem dX11_quoted_7 : decode cX11_quoted 7 = .ok (.putfield 211, 3) := by decide +kernel
theorem dX11_quoted_10 : decode cX11_quoted 10 = .ok (.aload_n 0, 1) := by decide +kernel
theorem dX11_quoted_11 : decode cX11_quoted 11 = .ok (.bipush 12, 2) := by decide +kernel
theorem dX11_quoted_13 : decode cX11_quoted 13 = .ok (.invokevirtual 247, 3) := by decide +kernel
theorem dX11_quoted_16 : decode cX11_quoted 16 = .ok (.aload_n 0, 1) := by decide +kernel
theorem dX11_quoted_17 : decode cX11_quoted 17 = .ok (.getfield 208, 3) := by decide +kernel
theorem dX11_quoted_20 : decode cX11_quoted 20 = .ok (.bipush 12, 2) := by decide +kernel
theorem dX11_quoted_22 : decode cX11_quoted 22 = .ok (.if_icmp .gt 20, 3) := by decide +kernel
theorem dX11_quoted_25 : decode cX11_quoted 25 = .ok (.aload_n 0, 1) := by decide +kernel
theorem dX11_quoted_26 : decode cX11_quoted 26 = .ok (.aload_n 0, 1) := by decide +kernel
theorem dX11_quoted_27 : decode cX11_quoted 27 = .ok (.getfield 211, 3) := by decide +kernel
theorem dX11_quoted_30 : decode cX11_quoted 30 = .ok (.invokevirtual 214, 3) := by decide +kernel
theorem dX11_quoted_33 : decode cX11_quoted 33 = .ok (.bipush 34, 2) := by decide +kernel
theorem dX11_quoted_35 : decode cX11_quoted 35 = .ok (.if_icmp .ne 7, 3) := by decide +kernel
theorem dX11_quoted_38 : decode cX11_quoted 38 = .ok (.iconst 1, 1) := by decide +kernel
theorem dX11_quoted_39 : decode cX11_quoted 39 = .ok (.goto 4, 3) := by decide +kernel
theorem dX11_quoted_42 : decode cX11_quoted 42 = .ok (.iconst 0, 1) := by decide +kernel
theorem dX11_quoted_43 : decode cX11_quoted 43 = .ok (.istore_n 1, 1) := by decide +kernel
theorem dX11_quoted_44 : decode cX11_quoted 44 = .ok (.aload_n 0, 1) := by decide +kernel
theorem dX11_quoted_45 : decode cX11_quoted 45 = .ok (.dup, 1) := by decide +kernel
theorem dX11_quoted_46 : decode cX11_quoted 46 = .ok (.getfield 211, 3) := by decide +kernel
theorem dX11_quoted_49 : decode cX11_quoted 49 = .ok (.iconst 1, 1) := by decide +kernel
theorem dX11_quoted_50 : decode cX11_quoted 50 = .ok (.iadd, 1) := by decide +kernel
theorem dX11_quoted_51 : decode cX11_quoted 51 = .ok (.putfield 211, 3) := by decide +kernel
theorem dX11_quoted_54 : decode cX11_quoted 54 = .ok (.aload_n 0, 1) := by decide +kernel
theorem dX11_quoted_55 : decode cX11_quoted 55 = .ok (.iload_n 1, 1) := by decide +kernel
theorem dX11_quoted_56 : decode cX11_quoted 56 = .ok (.ifCond .eq 7, 3) := by decide +kernel
theorem dX11_quoted_59 : decode cX11_quoted 59 = .ok (.iconst 3, 1) := by decide +kernel
theorem dX11_quoted_60 : decode cX11_quoted 60 = .ok (.goto 4, 3) := by decide +kernel
theorem dX11_quoted_63 : decode cX11_quoted 63 = .ok (.iconst 5, 1) := by decide +kernel
theorem dX11_quoted_64 : decode cX11_quoted 64 = .ok (.putfield 244, 3) := by decide +kernel
theorem dX11_quoted_67 : decode cX11_quoted 67 = .ok (.return_, 1) := by decide +kernel
theorem dX11_rootType_0 : decode cX11_rootType 0 = .ok (.aload_n 0, 1) := by decide +kernel
theorem dX11_rootType_1 : decode cX11_rootType 1 = .ok (.getfield 13, 3) := by decide +kernel
theorem dX11_rootType_4 : decode cX11_rootType 4 = .ok (.sipush 799, 3) := by decide +kernel
theorem dX11_rootType_7 : decode cX11_rootType 7 = .ok (.bipush 7, 2) := by decide +kernel
theorem dX11_rootType_9 : decode cX11_rootType 9 = .ok (.iastore, 1) := by decide +kernel
theorem dX11_rootType_10 : decode cX11_rootType 10 = .ok (.aload_n 0, 1) := by decide +kernel
theorem dX11_rootType_11 : decode cX11_rootType 11 = .ok (.getfield 17, 3) := by decide +kernel
theorem dX11_rootType_14 : decode cX11_rootType 14 = .ok (.sipush 799, 3) := by decide +kernel
theorem dX11_rootType_17 : decode cX11_rootType 17 = .ok (.iconst 0, 1) := by decide +kernel
theorem dX11_rootType_18 : decode cX11_rootType 18 = .ok (.iastore, 1) := by decide +kernel
theorem dX11_rootType_19 : decode cX11_rootType 19 = .ok (.sipush 799, 3) := by decide +kernel
theorem dX11_rootType_22 : decode cX11_rootType 22 = .ok (.ireturn, 1) := by decide +kernel
theorem dX11_word_0 : decode cX11_word 0 = .ok (.aload_n 0, 1) := by decide +kernel
theorem dX11_word_1 : decode cX11_word 1 = .ok (.lconst 0, 1) := by decide +kernel
theorem dX11_word_2 : decode cX11_word 2 = .ok (.putfield 204, 3) := by decide +kernel
theorem dX11_word_5 : decode cX11_word 5 = .ok (.aload_n 0, 1) := by decide +kernel
theorem dX11_word_6 : decode cX11_word 6 = .ok (.iconst 0, 1) := by decide +kernel
theorem dX11_word_7 : decode cX11_word 7 = .ok (.putfield 208, 3) := by decide +kernel
theorem dX11_word_10 : decode cX11_word 10 = .ok (.aload_n 0, 1) := by decide +kernel
theorem dX11_word_11 : decode cX11_word 11 = .ok (.aload_n 0, 1) := by decide +kernel
theorem dX11_word_12 : decode cX11_word 12 = .ok (.getfield 211, 3) := by decide +kernel
theorem dX11_word_15 : decode cX11_word 15 = .ok (.invokevirtual 214, 3) := by decide +kernel
theorem dX11_word_18 : decode cX11_word 18 = .ok (.invokestatic 218, 3) := by decide +kernel
theorem dX11_word_21 : decode cX11_word 21 = .ok (.ifCond .eq 67, 3) := by decide +kernel
theorem dX11_word_24 : decode cX11_word 24 = .ok (.aload_n 0, 1) := by decide +kernel
theorem dX11_word_25 : decode cX11_word 25 = .ok (.aload_n 0, 1) := by decide +kernel
theorem dX11_word_26 : decode cX11_word 26 = .ok (.getfield 208, 3) := by decide +kernel
theorem dX11_word_29 : decode cX11_word 29 = .ok (.iload_n 1, 1) := by decide +kernel
theorem dX11_word_30 : decode cX11_word 30 = .ok (.if_icmp .ge 28, 3) := by decide +kernel
theorem dX11_word_33 : decode cX11_word 33 = .ok (.ldc2_w 222, 3) := by decide +kernel
theorem dX11_word_36 : decode cX11_word 36 = .ok (.aload_n 0, 1) := by decide +kernel
theorem dX11_word_37 : decode cX11_word 37 = .ok (.getfield 204, 3) := by decide +kernel
theorem dX11_word_40 : decode cX11_word 40 = .ok (.lmul, 1) := by decide +kernel
theorem dX11_word_41 : decode cX11_word 41 = .ok (.aload_n 0, 1) := by decide +kernel
theorem dX11_word_42 : decode cX11_word 42 = .ok (.aload_n 0, 1) := by decide +kernel
theorem dX11_word_43 : decode cX11_word 43 = .ok (.getfield 211, 3) := by decide +kernel
theorem dX11_word_46 : decode cX11_word 46 = .ok (.invokevirtual 214, 3) := by decide +kernel
theorem dX11_word_49 : decode cX11_word 49 = .ok (.i2l, 1) := by decide +kernel
theorem dX11_word_50 : decode cX11_word 50 = .ok (.ladd, 1) := by decide +kernel
theorem dX11_word_51 : decode cX11_word 51 = .ok (.ldc2_w 224, 3) := by decide +kernel
theorem dX11_word_54 : decode cX11_word 54 = .ok (.lsub, 1) := by decide +kernel
theorem dX11_word_55 : decode cX11_word 55 = .ok (.goto 7, 3) := by decide +kernel
theorem dX11_word_58 : decode cX11_word 58 = .ok (.aload_n 0, 1) := by decide +kernel
theorem dX11_word_59 : decode cX11_word 59 = .ok (.getfield 204, 3) := by decide +kernel
theorem dX11_word_62 : decode cX11_word 62 = .ok (.putfield 204, 3) := by decide +kernel
theorem dX11_word_65 : decode cX11_word 65 = .ok (.aload_n 0, 1) := by decide +kernel
theorem dX11_word_66 : decode cX11_word 66 = .ok (.dup, 1) := by decide +kernel
theorem dX11_word_67 : decode cX11_word 67 = .ok (.getfield 208, 3) := by decide +kernel
theorem dX11_word_70 : decode cX11_word 70 = .ok (.iconst 1, 1) := by decide +kernel
theorem dX11_word_71 : decode cX11_word 71 = .ok (.iadd, 1) := by decide +kernel
theorem dX11_word_72 : decode cX11_word 72 = .ok (.putfield 208, 3) := by decide +kernel
theorem dX11_word_75 : decode cX11_word 75 = .ok (.aload_n 0, 1) := by decide +kernel
theorem dX11_word_76 : decode cX11_word 76 = .ok (.dup, 1) := by decide +kernel
theorem dX11_word_77 : decode cX11_word 77 = .ok (.getfield 211, 3) := by decide +kernel
theorem dX11_word_80 : decode cX11_word 80 = .ok (.iconst 1, 1) := by decide +kernel
theorem dX11_word_81 : decode cX11_word 81 = .ok (.iadd, 1) := by decide +kernel
theorem dX11_word_82 : decode cX11_word 82 = .ok (.putfield 211, 3) := by decide +kernel
theorem dX11_word_85 : decode cX11_word 85 = .ok (.goto (-75), 3) := by decide +kernel
theorem dX11_word_88 : decode cX11_word 88 = .ok (.return_, 1) := by decide +kernel
def f_X11_fills_103 (x6 : Int32) (y0 : Int32) (y1 : Int32) (σ : ST) : Option (ST) := if 0 ≤ y1.toInt ∧ y1.toInt < 4096 then (if 0 ≤ x6.toInt ∧ x6.toInt < 4096 then (some (stI (stI σ 23 y1.toNatClampNeg y0) 27 x6.toNatClampNeg (vp_nar .boolean 1))) else none) else none
def f_X11_fills_45 (x1 : Int32) (x5 : Int32) (y0 : Int32) (y1 : Int32) (y2 : Int32) (y3 : Int32) (σ : ST) : Option (ST) := (f_X11_laysNode  y3 y2 y1 y0 σ).bind fun q1 => if 0 ≤ x1.toInt ∧ x1.toInt < 576 then (if 0 ≤ q1.1.toInt ∧ q1.1.toInt < 4096 then ((some (stL (stL q1.2 21 q1.1.toNatClampNeg (q1.2.2.1 17 x1.toNatClampNeg)) 22 q1.1.toNatClampNeg ((stL q1.2 21 q1.1.toNatClampNeg (q1.2.2.1 17 x1.toNatClampNeg)).2.1 18 x1.toNatClampNeg))).bind fun z5 => if 0 ≤ x5.toInt ∧ x5.toInt < 800 then (if (z5.1 2 x5.toNatClampNeg) = 5 then (f_X11_fills_103  q1.1 (z5.1 19 x1.toNatClampNeg) q1.1 z5) else (f_X11_fills_103  q1.1 0 q1.1 z5)) else none) else none) else none
def f_X11_fills (p0 : Int32) (p1 : Int32) (p2 : Int32) (σ : ST) : Option (ST) := if 0 ≤ p0.toInt ∧ p0.toInt < 576 then ((f_X11_firstOf  (σ.1 15 p0.toNatClampNeg) σ).bind fun q2 => if 0 ≤ q2.1.toInt ∧ q2.1.toInt < 800 then (if q2.1 = (σ.1 15 p0.toNatClampNeg) then (f_X11_fills_45  p0 q2.1 (-1) p2 p1 (q2.2.1 2 q2.1.toNatClampNeg) q2.2) else (f_X11_fills_45  p0 q2.1 0 p2 p1 (q2.2.1 2 q2.1.toNatClampNeg) q2.2)) else none) else none

set_option maxRecDepth 100000 in
set_option maxHeartbeats 4000000 in
theorem b_X11_fills_103 {p : Program} {l : Launch} {e : Env} {s : State} {m : MethodId} {args : Array Value} {below : List Frame} {meth : Method} {c : Code} {dC : Nat → ClassId} {dI : Nat → Nat → Nat} {a : Nat → Nat} {k : Nat → ClassId} {A : Nat → Prop} {q : ST} (hC : CxB p s m args meth c dC dI k A cX11_fills RX11 none 7)   {x6 : Int32} {y0 : Int32} {y1 : Int32} {σ : ST} (h : f_X11_fills_103  x6 y0 y1 σ = some q) : GoB p l e ({ frames := 2, cells := 0, slots := 0, locals := 49 } : Room) s m args below meth c (MQ below (qBv dC dI a k A q) args s 0 0 A) dC dI a k A 7 103 σ [(0, .ref (a 0)), (6, .int x6)] [.int y0, .int y1, .ref (a 23)] := by
  have hC0 := hC
  obtain ⟨hx, hb, hr, hml, hown, hts, hlocks, hA, hN, hK⟩ := hC0
  intro H locs ls hP hD hS hl
  have hD0 : ∀ σ1 : ST, va_D A (wB a k σ1) := fun σ1 => wB_D hD
  unfold f_X11_fills_103 at h
  obtain ⟨hg1, h⟩ := ig h
  refine va_iast hx hb hK hP hD hS 23 22 gB_23 yB_23 (vp_in_iff.mpr hg1) dX11_fills_103 (fun H locs hP hD hS => ?_)
  replace hP := uB_23 hP
  replace hD := hD0 ((stI σ 23 y1.toNatClampNeg y0))
  refine lv_aload_n hx hb dX11_fills_104 rfl (lv_at hl 0 rfl) ?_
  refine va_get (D := (dC, dI)) (ci := 11) (C := RX11) (T := TX11) (N := 95) hx hb hts inlX11 hown hK hP 0 gB_0 rfl 42 (by decide) (hts (.fieldLink RX11 91 "ShapeReaderModel" "nodeFilled" "[Z") mw_27_23) (fun _ h9 => h9) rfl dX11_fills_105 ?_
  refine lv_iload hx hb dX11_fills_108 (lv_at hl 1 rfl) ?_
  refine lv_iconst (v := 1) hx hb dX11_fills_110 (by decide) ?_
  obtain ⟨hg2, h⟩ := ig h
  refine va_zast hx hb hK hP hD hS 27 26 gB_27 yB_27 (vp_in_iff.mpr hg2) dX11_fills_111 (fun H locs hP hD hS => ?_)
  replace hP := uB_27 hP
  replace hD := hD0 ((stI (stI σ 23 y1.toNatClampNeg y0) 27 x6.toNatClampNeg (vp_nar .boolean 1)))
  obtain rfl := Option.some.inj h
  exact W.vret hx hb hr (fun t ht hW => ⟨⟨(), rfl, trivial, ⟨by rw [ht]; exact hP, va_K.moved hW.alike hK, hD⟩⟩, hS.F ht⟩) hS.2.2 dX11_fills_112

set_option maxRecDepth 100000 in
set_option maxHeartbeats 4000000 in
theorem b_X11_fills_45 {p : Program} {l : Launch} {e : Env} {s : State} {m : MethodId} {args : Array Value} {below : List Frame} {meth : Method} {c : Code} {dC : Nat → ClassId} {dI : Nat → Nat → Nat} {a : Nat → Nat} {k : Nat → ClassId} {A : Nat → Prop} {q : ST} (hC : CxB p s m args meth c dC dI k A cX11_fills RX11 none 7)   {x1 : Int32} {x5 : Int32} {y0 : Int32} {y1 : Int32} {y2 : Int32} {y3 : Int32} {σ : ST} (h : f_X11_fills_45  x1 x5 y0 y1 y2 y3 σ = some q) : GoB p l e ({ frames := 2, cells := 0, slots := 0, locals := 49 } : Room) s m args below meth c (MQ below (qBv dC dI a k A q) args s 0 0 A) dC dI a k A 7 45 σ [(0, .ref (a 0)), (1, .int x1), (5, .int x5)] [.int y0, .int y1, .int y2, .int y3, .ref (a 0)] := by
  have hC0 := hC
  obtain ⟨hx, hb, hr, hml, hown, hts, hlocks, hA, hN, hK⟩ := hC0
  intro H locs ls hP hD hS hl
  have hD0 : ∀ σ1 : ST, va_D A (wB a k σ1) := fun σ1 => wB_D hD
  unfold f_X11_fills_45 at h
  obtain ⟨q1, hc, h⟩ := ib h
  have hF := va_frees hD hS hA
  refine va_calli (va_runV (As := [.int y3, .int y2, .int y1, .int y0]) (rest := []) ⟨hx, hb, hml, hown, hts⟩ (s_X11_laysNode hc) (cwV 4 hts (gV mw_34_2 mw_34_3 mw_34_4 mw_0_15 mw_55_13) rfl rfl rfl (by decide +kernel) ⟨(Nat.le_of_ble_eq_true rfl), (Nat.le_of_ble_eq_true rfl)⟩) (vV (ci := 11) (q0 := 0) hK hP hD hN rfl gB_0) rfl rfl hl.1 rfl (lv_room (Nat.le_of_ble_eq_true rfl)) dX11_fills_45 ⟨(Nat.le_of_ble_eq_true rfl), (Nat.le_of_ble_eq_true rfl)⟩) hS (fun q _ h => hF q h) hF (fun r2 u t H locs ht hvm hw hB _ _ hS => ?_)
  obtain rfl : r2 = q1.1 := hw
  replace hP : va_P (dC, dI) vwCl (wB a k q1.2) H := by rw [← ht]; exact hB.1
  replace hD := hD0 (q1.2)
  clear hB hF
  refine lv_istore (lv' := [(6, .int q1.1), (0, .ref (a 0)), (1, .int x1), (5, .int x5)]) hx hb dX11_fills_48 hl (by decide) rfl (fun ls hl => ?_)
  refine lv_aload_n hx hb dX11_fills_50 rfl (lv_at hl 1 rfl) ?_
  refine va_get (D := (dC, dI)) (ci := 11) (C := RX11) (T := TX11) (N := 95) hx hb hts inlX11 hown hK hP 0 gB_0 rfl 36 (by decide) (hts (.fieldLink RX11 73 "ShapeReaderModel" "nodeBits" "[J") mw_27_17) (fun _ h9 => h9) rfl dX11_fills_51 ?_
  refine lv_iload hx hb dX11_fills_54 (lv_at hl 0 rfl) ?_
  refine lv_aload_n hx hb dX11_fills_56 rfl (lv_at hl 1 rfl) ?_
  refine va_get (D := (dC, dI)) (ci := 11) (C := RX11) (T := TX11) (N := 95) hx hb hts inlX11 hown hK hP 0 gB_0 rfl 29 (by decide) (hts (.fieldLink RX11 61 "ShapeReaderModel" "elseBits" "[J") mw_27_13) (fun _ h9 => h9) rfl dX11_fills_57 ?_
  refine lv_iload_n hx hb dX11_fills_60 rfl (lv_at hl 2 rfl) ?_
  obtain ⟨hg3, h⟩ := ig h
  refine va_lald hx hb hK hP 17 16 gB_17 yB_17 (vp_in_iff.mpr hg3) dX11_fills_61 ?_
  obtain ⟨hg4, h⟩ := ig h
  refine va_last hx hb hK hP hD hS 21 20 gB_21 yB_21 (vp_in_iff.mpr hg4) dX11_fills_62 (fun H locs hP hD hS => ?_)
  replace hP := uB_21 hP
  replace hD := hD0 ((stL q1.2 21 q1.1.toNatClampNeg (q1.2.2.1 17 x1.toNatClampNeg)))
  refine lv_aload_n hx hb dX11_fills_63 rfl (lv_at hl 1 rfl) ?_
  refine va_get (D := (dC, dI)) (ci := 11) (C := RX11) (T := TX11) (N := 95) hx hb hts inlX11 hown hK hP 0 gB_0 rfl 37 (by decide) (hts (.fieldLink RX11 76 "ShapeReaderModel" "nodeText" "[J") mw_27_18) (fun _ h9 => h9) rfl dX11_fills_64 ?_
  refine lv_iload hx hb dX11_fills_67 (lv_at hl 0 rfl) ?_
  refine lv_aload_n hx hb dX11_fills_69 rfl (lv_at hl 1 rfl) ?_
  refine va_get (D := (dC, dI)) (ci := 11) (C := RX11) (T := TX11) (N := 95) hx hb hts inlX11 hown hK hP 0 gB_0 rfl 30 (by decide) (hts (.fieldLink RX11 64 "ShapeReaderModel" "elseText" "[J") mw_27_14) (fun _ h9 => h9) rfl dX11_fills_70 ?_
  refine lv_iload_n hx hb dX11_fills_73 rfl (lv_at hl 2 rfl) ?_
  refine va_lald hx hb hK hP 18 17 gB_18 yB_18 (vp_in_iff.mpr hg3) dX11_fills_74 ?_
  refine va_last hx hb hK hP hD hS 22 21 gB_22 yB_22 (vp_in_iff.mpr hg4) dX11_fills_75 (fun H locs hP hD hS => ?_)
  replace hP := uB_22 hP
  replace hD := hD0 ((stL (stL q1.2 21 q1.1.toNatClampNeg (q1.2.2.1 17 x1.toNatClampNeg)) 22 q1.1.toNatClampNeg ((stL q1.2 21 q1.1.toNatClampNeg (q1.2.2.1 17 x1.toNatClampNeg)).2.1 18 x1.toNatClampNeg)))
  obtain ⟨z5, hs, h⟩ := ib h
  replace hs := Option.some.inj hs
  replace hP : va_P (dC, dI) vwCl (wB a k z5) H := by rw [← hs]; exact hP
  replace hD := hD0 z5
  clear hs
  refine lv_aload_n hx hb dX11_fills_76 rfl (lv_at hl 1 rfl) ?_
  refine va_get (D := (dC, dI)) (ci := 11) (C := RX11) (T := TX11) (N := 95) hx hb hts inlX11 hown hK hP 0 gB_0 rfl 38 (by decide) (hts (.fieldLink RX11 79 "ShapeReaderModel" "nodeHas" "[I") mw_27_19) (fun _ h9 => h9) rfl dX11_fills_77 ?_
  refine lv_iload hx hb dX11_fills_80 (lv_at hl 0 rfl) ?_
  refine lv_aload_n hx hb dX11_fills_82 rfl (lv_at hl 1 rfl) ?_
  refine va_get (D := (dC, dI)) (ci := 11) (C := RX11) (T := TX11) (N := 95) hx hb hts inlX11 hown hK hP 0 gB_0 rfl 14 (by decide) (hts (.fieldLink RX11 13 "ShapeReaderModel" "typeSort" "[I") mw_26_28) (fun _ h9 => h9) rfl dX11_fills_83 ?_
  refine lv_iload hx hb dX11_fills_86 (lv_at hl 3 rfl) ?_
  obtain ⟨hg6, h⟩ := ig h
  refine va_iald hx hb hK hP 2 1 gB_2 yB_2 (vp_in_iff.mpr hg6) dX11_fills_88 ?_
  refine lv_iconst (v := 5) hx hb dX11_fills_89 (by decide) ?_
  refine lv_icmp_ne (tgt := 102) hx hb dX11_fills_90 (by decide) (fun hc => ?_) (fun hc => ?_)
  · replace h := iq hc h
    refine lv_iconst (v := 0) hx hb dX11_fills_102 (by decide) ?_
    exact b_X11_fills_103 hC h _ _ _ hP hD hS (lv_sub hl [1, 0] rfl)
  · replace h := ip hc h
    refine lv_aload_n hx hb dX11_fills_93 rfl (lv_at hl 1 rfl) ?_
    refine va_get (D := (dC, dI)) (ci := 11) (C := RX11) (T := TX11) (N := 95) hx hb hts inlX11 hown hK hP 0 gB_0 rfl 31 (by decide) (hts (.fieldLink RX11 67 "ShapeReaderModel" "elseLetters" "[I") mw_27_15) (fun _ h9 => h9) rfl dX11_fills_94 ?_
    refine lv_iload_n hx hb dX11_fills_97 rfl (lv_at hl 2 rfl) ?_
    refine va_iald hx hb hK hP 19 18 gB_19 yB_19 (vp_in_iff.mpr hg3) dX11_fills_98 ?_
    refine lv_goto (tgt := 103) hx hb dX11_fills_99 (by decide) ?_
    exact b_X11_fills_103 hC h _ _ _ hP hD hS (lv_sub hl [1, 0] rfl)

set_option maxRecDepth 100000 in
set_option maxHeartbeats 4000000 in
theorem b_X11_fills_e {p : Program} {l : Launch} {e : Env} {s : State} {m : MethodId} {args : Array Value} {below : List Frame} {meth : Method} {c : Code} {dC : Nat → ClassId} {dI : Nat → Nat → Nat} {a : Nat → Nat} {k : Nat → ClassId} {A : Nat → Prop} {q : ST} (hC : CxB p s m args meth c dC dI k A cX11_fills RX11 none 7)   {p0 : Int32} {p1 : Int32} {p2 : Int32} {σ : ST} (h : f_X11_fills  p0 p1 p2 σ = some q) : GoB p l e ({ frames := 2, cells := 0, slots := 0, locals := 49 } : Room) s m args below meth c (MQ below (qBv dC dI a k A q) args s 0 0 A) dC dI a k A 7 0 σ (lv_args 0 [.ref (a 0), .int p0, .int p1, .int p2]) [] := by
  have hC0 := hC
  obtain ⟨hx, hb, hr, hml, hown, hts, hlocks, hA, hN, hK⟩ := hC0
  intro H locs ls hP hD hS hl
  have hD0 : ∀ σ1 : ST, va_D A (wB a k σ1) := fun σ1 => wB_D hD
  replace hl : lv_has ls 7 [(0, .ref (a 0)), (1, .int p0), (2, .int p1), (3, .int p2)] := hl
  unfold f_X11_fills at h
  refine lv_aload_n hx hb dX11_fills_0 rfl (lv_at hl 0 rfl) ?_
  refine va_get (D := (dC, dI)) (ci := 11) (C := RX11) (T := TX11) (N := 95) hx hb hts inlX11 hown hK hP 0 gB_0 rfl 27 (by decide) (hts (.fieldLink RX11 54 "ShapeReaderModel" "fieldType" "[I") mw_27_11) (fun _ h9 => h9) rfl dX11_fills_1 ?_
  refine lv_iload_n hx hb dX11_fills_4 rfl (lv_at hl 1 rfl) ?_
  obtain ⟨hg1, h⟩ := ig h
  refine va_iald hx hb hK hP 15 14 gB_15 yB_15 (vp_in_iff.mpr hg1) dX11_fills_5 ?_
  refine lv_istore (lv' := [(4, .int (σ.1 15 p0.toNatClampNeg)), (0, .ref (a 0)), (1, .int p0), (2, .int p1), (3, .int p2)]) hx hb dX11_fills_6 hl (by decide) rfl (fun ls hl => ?_)
  refine lv_iload hx hb dX11_fills_8 (lv_at hl 0 rfl) ?_
  refine lv_aload_n hx hb dX11_fills_10 rfl (lv_at hl 1 rfl) ?_
  refine va_get (D := (dC, dI)) (ci := 11) (C := RX11) (T := TX11) (N := 95) hx hb hts inlX11 hown hK hP 0 gB_0 rfl 14 (by decide) (hts (.fieldLink RX11 13 "ShapeReaderModel" "typeSort" "[I") mw_26_28) (fun _ h9 => h9) rfl dX11_fills_11 ?_
  refine lv_aload_n hx hb dX11_fills_14 rfl (lv_at hl 1 rfl) ?_
  refine va_get (D := (dC, dI)) (ci := 11) (C := RX11) (T := TX11) (N := 95) hx hb hts inlX11 hown hK hP 0 gB_0 rfl 17 (by decide) (hts (.fieldLink RX11 23 "ShapeReaderModel" "branch" "[I") mw_27_1) (fun _ h9 => h9) rfl dX11_fills_15 ?_
  obtain ⟨q2, hc, h⟩ := ib h
  have hF := va_frees hD hS hA
  refine va_calli (va_runS (As := [.int (σ.1 15 p0.toNatClampNeg), .ref (a 2), .ref (a 5)]) (rest := []) ⟨hx, hb, hml, hown, hts⟩ (s_X11_firstOf hc) (va_cwS 3 hts (gS mw_32_5 mw_32_6 mw_0_15 mw_54_27) rfl rfl rfl (by decide +kernel) ⟨(Nat.le_of_ble_eq_true rfl), (Nat.le_of_ble_eq_true rfl)⟩) (vS hK hP hD hN) rfl rfl hl.1 rfl (lv_room (Nat.le_of_ble_eq_true rfl)) dX11_fills_18 ⟨(Nat.le_of_ble_eq_true rfl), (Nat.le_of_ble_eq_true rfl)⟩) hS (fun q _ h => hF q h) hF (fun r3 u t H locs ht hvm hw hB _ _ hS => ?_)
  obtain rfl : r3 = q2.1 := hw
  replace hP : va_P (dC, dI) vwCl (wB a k q2.2) H := by rw [← ht]; exact hB.1
  replace hD := hD0 (q2.2)
  clear hB hF
  refine lv_istore (lv' := [(5, .int q2.1), (4, .int (σ.1 15 p0.toNatClampNeg)), (0, .ref (a 0)), (1, .int p0), (2, .int p1), (3, .int p2)]) hx hb dX11_fills_21 hl (by decide) rfl (fun ls hl => ?_)
  refine lv_aload_n hx hb dX11_fills_23 rfl (lv_at hl 2 rfl) ?_
  refine lv_aload_n hx hb dX11_fills_24 rfl (lv_at hl 2 rfl) ?_
  refine va_get (D := (dC, dI)) (ci := 11) (C := RX11) (T := TX11) (N := 95) hx hb hts inlX11 hown hK hP 0 gB_0 rfl 14 (by decide) (hts (.fieldLink RX11 13 "ShapeReaderModel" "typeSort" "[I") mw_26_28) (fun _ h9 => h9) rfl dX11_fills_25 ?_
  refine lv_iload hx hb dX11_fills_28 (lv_at hl 0 rfl) ?_
  obtain ⟨hg4, h⟩ := ig h
  refine va_iald hx hb hK hP 2 1 gB_2 yB_2 (vp_in_iff.mpr hg4) dX11_fills_30 ?_
  refine lv_iload_n hx hb dX11_fills_31 rfl (lv_at hl 4 rfl) ?_
  refine lv_iload_n hx hb dX11_fills_32 rfl (lv_at hl 5 rfl) ?_
  refine lv_iload hx hb dX11_fills_33 (lv_at hl 0 rfl) ?_
  refine lv_iload hx hb dX11_fills_35 (lv_at hl 1 rfl) ?_
  refine lv_icmp_ne (tgt := 44) hx hb dX11_fills_37 (by decide) (fun hc => ?_) (fun hc => ?_)
  · replace h := iq hc h
    refine lv_iconst (v := 0) hx hb dX11_fills_44 (by decide) ?_
    exact b_X11_fills_45 hC h _ _ _ hP hD hS (lv_sub hl [2, 3, 0] rfl)
  · replace h := ip hc h
    refine lv_iconst (v := (-1)) hx hb dX11_fills_40 (by decide) ?_
    refine lv_goto (tgt := 45) hx hb dX11_fills_41 (by decide) ?_
    exact b_X11_fills_45 hC h _ _ _ hP hD hS (lv_sub hl [2, 3, 0] rfl)

theorem s_X11_fills {l : Launch} {dC : Nat → ClassId} {dI : Nat → Nat → Nat} {a : Nat → Nat} {k : Nat → ClassId} {sz : Nat} {p0 : Int32} {p1 : Int32} {p2 : Int32} {σ : ST} {q : ST} (h : f_X11_fills  p0 p1 p2 σ = some q) : Met l yX11_fills (.code yX11_fills cX11_fills 7 none :: pw) ({ frames := 2, cells := 0, slots := 0, locals := 49 } : Room) (va_Pc [.ref (a 0), .int p0, .int p1, .int p2] (vPre dC dI (wB a k σ) (tB k) sz)) (qBv dC dI a k (va_A (wB a k σ) sz) q) 0 0 (va_A (wB a k σ) sz) := metB (fun A => qBv dC dI a k A q) (plainFor_of_name (by decide)) (Nat.le_of_ble_eq_true rfl) (fun _ _ _ _ _ _ _ _ hC => b_X11_fills_e hC h)

def f_X11_rootType (σ : ST) : Option (Int32 × ST) := some (799, (stI (stI σ 2 (799 : Int32).toNatClampNeg 7) 3 (799 : Int32).toNatClampNeg 0))

set_option maxRecDepth 100000 in
set_option maxHeartbeats 4000000 in
theorem b_X11_rootType_e {p : Program} {l : Launch} {e : Env} {s : State} {m : MethodId} {args : Array Value} {below : List Frame} {meth : Method} {c : Code} {dC : Nat → ClassId} {dI : Nat → Nat → Nat} {a : Nat → Nat} {k : Nat → ClassId} {A : Nat → Prop} {q : Int32 × ST} (hC : CxB p s m args meth c dC dI k A cX11_rootType RX11 (some .int) 1)    {σ : ST} (h : f_X11_rootType   σ = some q) : GoB p l e ({ frames := 0, cells := 0, slots := 0, locals := 0 } : Room) s m args below meth c (MQ below (qBi dC dI a k A q) args s 0 0 A) dC dI a k A 1 0 σ (lv_args 0 [.ref (a 0)]) [] := by
  have hC0 := hC
  obtain ⟨hx, hb, hr, hml, hown, hts, hlocks, hA, hN, hK⟩ := hC0
  intro H locs ls hP hD hS hl
  have hD0 : ∀ σ1 : ST, va_D A (wB a k σ1) := fun σ1 => wB_D hD
  replace hl : lv_has ls 1 [(0, .ref (a 0))] := hl
  unfold f_X11_rootType at h
  refine lv_aload_n hx hb dX11_rootType_0 rfl (lv_at hl 0 rfl) ?_
  refine va_get (D := (dC, dI)) (ci := 11) (C := RX11) (T := TX11) (N := 95) hx hb hts inlX11 hown hK hP 0 gB_0 rfl 14 (by decide) (hts (.fieldLink RX11 13 "ShapeReaderModel" "typeSort" "[I") mw_26_28) (fun _ h9 => h9) rfl dX11_rootType_1 ?_
  refine lv_sipush (v := 799) hx hb dX11_rootType_4 (by decide) ?_
  refine lv_bipush (v := 7) hx hb dX11_rootType_7 (by decide) ?_
  refine va_iast hx hb hK hP hD hS 2 1 gB_2 yB_2 (vp_in_iff.mpr (by decide)) dX11_rootType_9 (fun H locs hP hD hS => ?_)
  replace hP := uB_2 hP
  replace hD := hD0 ((stI σ 2 (799 : Int32).toNatClampNeg 7))
  refine lv_aload_n hx hb dX11_rootType_10 rfl (lv_at hl 0 rfl) ?_
  refine va_get (D := (dC, dI)) (ci := 11) (C := RX11) (T := TX11) (N := 95) hx hb hts inlX11 hown hK hP 0 gB_0 rfl 15 (by decide) (hts (.fieldLink RX11 17 "ShapeReaderModel" "typeArg" "[I") mw_26_29) (fun _ h9 => h9) rfl dX11_rootType_11 ?_
  refine lv_sipush (v := 799) hx hb dX11_rootType_14 (by decide) ?_
  refine lv_iconst (v := 0) hx hb dX11_rootType_17 (by decide) ?_
  refine va_iast hx hb hK hP hD hS 3 2 gB_3 yB_3 (vp_in_iff.mpr (by decide)) dX11_rootType_18 (fun H locs hP hD hS => ?_)
  replace hP := uB_3 hP
  replace hD := hD0 ((stI (stI σ 2 (799 : Int32).toNatClampNeg 7) 3 (799 : Int32).toNatClampNeg 0))
  refine lv_sipush (v := 799) hx hb dX11_rootType_19 (by decide) ?_
  obtain rfl := Option.some.inj h
  exact W.iret hx hb hr (fun t ht hW => ⟨⟨_, (), rfl, rfl, ⟨by rw [ht]; exact hP, va_K.moved hW.alike hK, hD⟩⟩, hS.F ht⟩) hS.2.2 dX11_rootType_22

theorem s_X11_rootType {l : Launch} {dC : Nat → ClassId} {dI : Nat → Nat → Nat} {a : Nat → Nat} {k : Nat → ClassId} {sz : Nat}  {σ : ST} {q : Int32 × ST} (h : f_X11_rootType   σ = some q) : Met l yX11_rootType (.code yX11_rootType cX11_rootType 1 (some .int) :: pw) ({ frames := 0, cells := 0, slots := 0, locals := 0 } : Room) (va_Pc [.ref (a 0)] (vPre dC dI (wB a k σ) (tB k) sz)) (qBi dC dI a k (va_A (wB a k σ) sz) q) 0 0 (va_A (wB a k σ) sz) := metB (fun A => qBi dC dI a k A q) (plainFor_of_name (by decide)) (Nat.le_of_ble_eq_true rfl) (fun _ _ _ _ _ _ _ _ hC => b_X11_rootType_e hC h)

def f_X11_becomes_19  : Nat → Int32 → Int32 → ST → Option (ST)
  | 0, _, _, _ => none
  | n + 1, x1, x3, σ => if (σ.1 0 48) ≤ x3 then (some σ) else (if 0 ≤ x3.toInt ∧ x3.toInt < 400 then (if 0 ≤ ((400 * x1) + x3).toInt ∧ ((400 * x1) + x3).toInt < 1600 then (f_X11_becomes_19  n x1 (x3 + 1) (stI σ 34 ((400 * x1) + x3).toNatClampNeg (vp_nar .byte (σ.1 31 x3.toNatClampNeg)))) else none) else none)
def f_X11_becomes (p0 : Int32) (p1 : Int32) (σ : ST) : Option (ST) := if 0 ≤ p0.toInt ∧ p0.toInt < 4 then ((some (stI (stI σ 32 p0.toNatClampNeg p1) 33 p0.toNatClampNeg ((stI σ 32 p0.toNatClampNeg p1).1 0 48))).bind fun z2 => f_X11_becomes_19  FU p0 0 z2) else none

set_option maxRecDepth 100000 in
set_option maxHeartbeats 4000000 in
theorem b_X11_becomes_19 {p : Program} {l : Launch} {e : Env} {s : State} {m : MethodId} {args : Array Value} {below : List Frame} {meth : Method} {c : Code} {dC : Nat → ClassId} {dI : Nat → Nat → Nat} {a : Nat → Nat} {k : Nat → ClassId} {A : Nat → Prop} {q : ST} (hC : CxB p s m args meth c dC dI k A cX11_becomes RX11 none 4)   : ∀ (n : Nat) (x1 : Int32) (x3 : Int32) (σ : ST), f_X11_becomes_19  n x1 x3 σ = some q → GoB p l e ({ frames := 0, cells := 0, slots := 0, locals := 0 } : Room) s m args below meth c (MQ below (qBv dC dI a k A q) args s 0 0 A) dC dI a k A 4 19 σ [(0, .ref (a 0)), (1, .int x1), (3, .int x3)] [] := by
  intro n
  induction n with
  | zero =>
    intro x1 x3 σ h
    rw [f_X11_becomes_19] at h
    cases h
  | succ n ih =>
    intro x1 x3 σ h
    have hC0 := hC
    obtain ⟨hx, hb, hr, hml, hown, hts, hlocks, hA, hN, hK⟩ := hC0
    intro H locs ls hP hD hS hl
    have hD0 : ∀ σ1 : ST, va_D A (wB a k σ1) := fun σ1 => wB_D hD
    rw [f_X11_becomes_19] at h
    refine lv_iload_n hx hb dX11_becomes_19 rfl (lv_at hl 2 rfl) ?_
    refine lv_aload_n hx hb dX11_becomes_20 rfl (lv_at hl 0 rfl) ?_
    refine va_get (D := (dC, dI)) (ci := 11) (C := RX11) (T := TX11) (N := 95) hx hb hts inlX11 hown hK hP 0 gB_0 rfl 48 (by decide) (hts (.fieldLink RX11 448 "ShapeReaderModel" "writtenMany" "I") mw_34_26) (fun _ h9 => h9) rfl dX11_becomes_21 ?_
    refine lv_icmp_ge (tgt := 51) hx hb dX11_becomes_24 (by decide) (fun hc => ?_) (fun hc => ?_)
    · replace h := ip hc h
      obtain rfl := Option.some.inj h
      exact W.vret hx hb hr (fun t ht hW => ⟨⟨(), rfl, trivial, ⟨by rw [ht]; exact hP, va_K.moved hW.alike hK, hD⟩⟩, hS.F ht⟩) hS.2.2 dX11_becomes_51
    · replace h := iq hc h
      refine lv_aload_n hx hb dX11_becomes_27 rfl (lv_at hl 0 rfl) ?_
      refine va_get (D := (dC, dI)) (ci := 11) (C := RX11) (T := TX11) (N := 95) hx hb hts inlX11 hown hK hP 0 gB_0 rfl 52 (by decide) (hts (.fieldLink RX11 112 "ShapeReaderModel" "bytes" "[B") mw_28_0) (fun _ h9 => h9) rfl dX11_becomes_28 ?_
      refine lv_sipush (v := 400) hx hb dX11_becomes_31 (by decide) ?_
      refine lv_iload_n hx hb dX11_becomes_34 rfl (lv_at hl 1 rfl) ?_
      refine lv_imul hx hb dX11_becomes_35 ?_
      refine lv_iload_n hx hb dX11_becomes_36 rfl (lv_at hl 2 rfl) ?_
      refine lv_iadd hx hb dX11_becomes_37 ?_
      refine lv_aload_n hx hb dX11_becomes_38 rfl (lv_at hl 0 rfl) ?_
      refine va_get (D := (dC, dI)) (ci := 11) (C := RX11) (T := TX11) (N := 95) hx hb hts inlX11 hown hK hP 0 gB_0 rfl 47 (by decide) (hts (.fieldLink RX11 103 "ShapeReaderModel" "written" "[B") mw_27_27) (fun _ h9 => h9) rfl dX11_becomes_39 ?_
      refine lv_iload_n hx hb dX11_becomes_42 rfl (lv_at hl 2 rfl) ?_
      obtain ⟨hg1, h⟩ := ig h
      refine va_bald hx hb hK hP 31 30 gB_31 yB_31 (vp_in_iff.mpr hg1) dX11_becomes_43 ?_
      obtain ⟨hg2, h⟩ := ig h
      refine va_bast hx hb hK hP hD hS 34 33 gB_34 yB_34 (vp_in_iff.mpr hg2) dX11_becomes_44 (fun H locs hP hD hS => ?_)
      replace hP := uB_34 hP
      replace hD := hD0 ((stI σ 34 ((400 * x1) + x3).toNatClampNeg (vp_nar .byte (σ.1 31 x3.toNatClampNeg))))
      refine lv_iinc (v := (x3 + 1)) (lv' := [(3, .int (x3 + 1)), (0, .ref (a 0)), (1, .int x1)]) hx hb dX11_becomes_45 hl (k := 2) rfl rfl (by decide) rfl (fun ls hl => ?_)
      refine lv_goto (tgt := 19) hx hb dX11_becomes_48 (by decide) ?_
      exact ih _ _ _ h _ _ _ hP hD hS (lv_sub hl [1, 2, 0] rfl)

set_option maxRecDepth 100000 in
set_option maxHeartbeats 4000000 in
theorem b_X11_becomes_e {p : Program} {l : Launch} {e : Env} {s : State} {m : MethodId} {args : Array Value} {below : List Frame} {meth : Method} {c : Code} {dC : Nat → ClassId} {dI : Nat → Nat → Nat} {a : Nat → Nat} {k : Nat → ClassId} {A : Nat → Prop} {q : ST} (hC : CxB p s m args meth c dC dI k A cX11_becomes RX11 none 4)   {p0 : Int32} {p1 : Int32} {σ : ST} (h : f_X11_becomes  p0 p1 σ = some q) : GoB p l e ({ frames := 0, cells := 0, slots := 0, locals := 0 } : Room) s m args below meth c (MQ below (qBv dC dI a k A q) args s 0 0 A) dC dI a k A 4 0 σ (lv_args 0 [.ref (a 0), .int p0, .int p1]) [] := by
  have hC0 := hC
  obtain ⟨hx, hb, hr, hml, hown, hts, hlocks, hA, hN, hK⟩ := hC0
  intro H locs ls hP hD hS hl
  have hD0 : ∀ σ1 : ST, va_D A (wB a k σ1) := fun σ1 => wB_D hD
  replace hl : lv_has ls 4 [(0, .ref (a 0)), (1, .int p0), (2, .int p1)] := hl
  unfold f_X11_becomes at h
  refine lv_aload_n hx hb dX11_becomes_0 rfl (lv_at hl 0 rfl) ?_
  refine va_get (D := (dC, dI)) (ci := 11) (C := RX11) (T := TX11) (N := 95) hx hb hts inlX11 hown hK hP 0 gB_0 rfl 50 (by decide) (hts (.fieldLink RX11 106 "ShapeReaderModel" "messagePlan" "[I") mw_27_28) (fun _ h9 => h9) rfl dX11_becomes_1 ?_
  refine lv_iload_n hx hb dX11_becomes_4 rfl (lv_at hl 1 rfl) ?_
  refine lv_iload_n hx hb dX11_becomes_5 rfl (lv_at hl 2 rfl) ?_
  obtain ⟨hg1, h⟩ := ig h
  refine va_iast hx hb hK hP hD hS 32 31 gB_32 yB_32 (vp_in_iff.mpr hg1) dX11_becomes_6 (fun H locs hP hD hS => ?_)
  replace hP := uB_32 hP
  replace hD := hD0 ((stI σ 32 p0.toNatClampNeg p1))
  refine lv_aload_n hx hb dX11_becomes_7 rfl (lv_at hl 0 rfl) ?_
  refine va_get (D := (dC, dI)) (ci := 11) (C := RX11) (T := TX11) (N := 95) hx hb hts inlX11 hown hK hP 0 gB_0 rfl 51 (by decide) (hts (.fieldLink RX11 109 "ShapeReaderModel" "messageMany" "[I") mw_27_29) (fun _ h9 => h9) rfl dX11_becomes_8 ?_
  refine lv_iload_n hx hb dX11_becomes_11 rfl (lv_at hl 1 rfl) ?_
  refine lv_aload_n hx hb dX11_becomes_12 rfl (lv_at hl 0 rfl) ?_
  refine va_get (D := (dC, dI)) (ci := 11) (C := RX11) (T := TX11) (N := 95) hx hb hts inlX11 hown hK hP 0 gB_0 rfl 48 (by decide) (hts (.fieldLink RX11 448 "ShapeReaderModel" "writtenMany" "I") mw_34_26) (fun _ h9 => h9) rfl dX11_becomes_13 ?_
  refine va_iast hx hb hK hP hD hS 33 32 gB_33 yB_33 (vp_in_iff.mpr hg1) dX11_becomes_16 (fun H locs hP hD hS => ?_)
  replace hP := uB_33 hP
  replace hD := hD0 ((stI (stI σ 32 p0.toNatClampNeg p1) 33 p0.toNatClampNeg ((stI σ 32 p0.toNatClampNeg p1).1 0 48)))
  obtain ⟨z2, hs, h⟩ := ib h
  replace hs := Option.some.inj hs
  replace hP : va_P (dC, dI) vwCl (wB a k z2) H := by rw [← hs]; exact hP
  replace hD := hD0 z2
  clear hs
  refine lv_iconst (v := 0) hx hb dX11_becomes_17 (by decide) ?_
  refine lv_istore_n (lv' := [(3, .int 0), (0, .ref (a 0)), (1, .int p0), (2, .int p1)]) hx hb dX11_becomes_18 rfl hl (by decide) rfl (fun ls hl => ?_)
  exact b_X11_becomes_19 hC FU _ _ _ h _ _ _ hP hD hS (lv_sub hl [1, 2, 0] rfl)

theorem s_X11_becomes {l : Launch} {dC : Nat → ClassId} {dI : Nat → Nat → Nat} {a : Nat → Nat} {k : Nat → ClassId} {sz : Nat} {p0 : Int32} {p1 : Int32} {σ : ST} {q : ST} (h : f_X11_becomes  p0 p1 σ = some q) : Met l yX11_becomes (.code yX11_becomes cX11_becomes 4 none :: pw) ({ frames := 0, cells := 0, slots := 0, locals := 0 } : Room) (va_Pc [.ref (a 0), .int p0, .int p1] (vPre dC dI (wB a k σ) (tB k) sz)) (qBv dC dI a k (va_A (wB a k σ) sz) q) 0 0 (va_A (wB a k σ) sz) := metB (fun A => qBv dC dI a k A q) (plainFor_of_name (by decide)) (Nat.le_of_ble_eq_true rfl) (fun _ _ _ _ _ _ _ _ hC => b_X11_becomes_e hC h)

def f_X11_byteAt (p0 : Int32) (σ : ST) : Option (Int32 × ST) := if (σ.1 0 3) ≤ p0 then (some ((-1), σ)) else (if 0 ≤ p0.toInt ∧ p0.toInt < 1000 then (some (((σ.1 1 p0.toNatClampNeg) &&& 255), σ)) else none)

set_option maxRecDepth 100000 in
set_option maxHeartbeats 4000000 in
theorem b_X11_byteAt_e {p : Program} {l : Launch} {e : Env} {s : State} {m : MethodId} {args : Array Value} {below : List Frame} {meth : Method} {c : Code} {dC : Nat → ClassId} {dI : Nat → Nat → Nat} {a : Nat → Nat} {k : Nat → ClassId} {A : Nat → Prop} {q : Int32 × ST} (hC : CxB p s m args meth c dC dI k A cX11_byteAt RX11 (some .int) 2)   {p0 : Int32} {σ : ST} (h : f_X11_byteAt  p0 σ = some q) : GoB p l e ({ frames := 0, cells := 0, slots := 0, locals := 0 } : Room) s m args below meth c (MQ below (qBi dC dI a k A q) args s 0 0 A) dC dI a k A 2 0 σ (lv_args 0 [.ref (a 0), .int p0]) [] := by
  have hC0 := hC
  obtain ⟨hx, hb, hr, hml, hown, hts, hlocks, hA, hN, hK⟩ := hC0
  intro H locs ls hP hD hS hl
  have hD0 : ∀ σ1 : ST, va_D A (wB a k σ1) := fun σ1 => wB_D hD
  replace hl : lv_has ls 2 [(0, .ref (a 0)), (1, .int p0)] := hl
  unfold f_X11_byteAt at h
  refine lv_iload_n hx hb dX11_byteAt_0 rfl (lv_at hl 1 rfl) ?_
  refine lv_aload_n hx hb dX11_byteAt_1 rfl (lv_at hl 0 rfl) ?_
  refine va_get (D := (dC, dI)) (ci := 11) (C := RX11) (T := TX11) (N := 95) hx hb hts inlX11 hown hK hP 0 gB_0 rfl 3 (by decide) (hts (.fieldLink RX11 189 "ShapeReaderModel" "size" "I") mw_28_27) (fun _ h9 => h9) rfl dX11_byteAt_2 ?_
  refine lv_icmp_ge (tgt := 21) hx hb dX11_byteAt_5 (by decide) (fun hc => ?_) (fun hc => ?_)
  · replace h := ip hc h
    refine lv_iconst (v := (-1)) hx hb dX11_byteAt_21 (by decide) ?_
    obtain rfl := Option.some.inj h
    exact W.iret hx hb hr (fun t ht hW => ⟨⟨_, (), rfl, rfl, ⟨by rw [ht]; exact hP, va_K.moved hW.alike hK, hD⟩⟩, hS.F ht⟩) hS.2.2 dX11_byteAt_22
  · replace h := iq hc h
    refine lv_aload_n hx hb dX11_byteAt_8 rfl (lv_at hl 0 rfl) ?_
    refine va_get (D := (dC, dI)) (ci := 11) (C := RX11) (T := TX11) (N := 95) hx hb hts inlX11 hown hK hP 0 gB_0 rfl 1 (by decide) (hts (.fieldLink RX11 7 "ShapeReaderModel" "tape" "[B") mw_26_27) (fun _ h9 => h9) rfl dX11_byteAt_9 ?_
    refine lv_iload_n hx hb dX11_byteAt_12 rfl (lv_at hl 1 rfl) ?_
    obtain ⟨hg1, h⟩ := ig h
    refine va_bald hx hb hK hP 1 0 gB_1 yB_1 (vp_in_iff.mpr hg1) dX11_byteAt_13 ?_
    refine lv_sipush (v := 255) hx hb dX11_byteAt_14 (by decide) ?_
    refine lv_iand hx hb dX11_byteAt_17 ?_
    refine lv_goto (tgt := 22) hx hb dX11_byteAt_18 (by decide) ?_
    obtain rfl := Option.some.inj h
    exact W.iret hx hb hr (fun t ht hW => ⟨⟨_, (), rfl, rfl, ⟨by rw [ht]; exact hP, va_K.moved hW.alike hK, hD⟩⟩, hS.F ht⟩) hS.2.2 dX11_byteAt_22

theorem s_X11_byteAt {l : Launch} {dC : Nat → ClassId} {dI : Nat → Nat → Nat} {a : Nat → Nat} {k : Nat → ClassId} {sz : Nat} {p0 : Int32} {σ : ST} {q : Int32 × ST} (h : f_X11_byteAt  p0 σ = some q) : Met l yX11_byteAt (.code yX11_byteAt cX11_byteAt 2 (some .int) :: pw) ({ frames := 0, cells := 0, slots := 0, locals := 0 } : Room) (va_Pc [.ref (a 0), .int p0] (vPre dC dI (wB a k σ) (tB k) sz)) (qBi dC dI a k (va_A (wB a k σ) sz) q) 0 0 (va_A (wB a k σ) sz) := metB (fun A => qBi dC dI a k A q) (plainFor_of_name (by decide)) (Nat.le_of_ble_eq_true rfl) (fun _ _ _ _ _ _ _ _ hC => b_X11_byteAt_e hC h)

def f_X11_isDigit (p0 : Int32) (σ : ST) : Option (Int32 × ST) := (f_X11_within  (p0.toInt64) 48 57 σ).bind fun q1 => if q1.1 = 0 ∨ q1.1 = 1 then some (q1.1, q1.2) else none

set_option maxRecDepth 100000 in
set_option maxHeartbeats 4000000 in
theorem b_X11_isDigit_e {p : Program} {l : Launch} {e : Env} {s : State} {m : MethodId} {args : Array Value} {below : List Frame} {meth : Method} {c : Code} {dC : Nat → ClassId} {dI : Nat → Nat → Nat} {a : Nat → Nat} {k : Nat → ClassId} {A : Nat → Prop} {q : Int32 × ST} (hC : CxB p s m args meth c dC dI k A cX11_isDigit RX11 (some .boolean) 1)   {p0 : Int32} {σ : ST} (h : f_X11_isDigit  p0 σ = some q) : GoB p l e ({ frames := 1, cells := 0, slots := 0, locals := 25 } : Room) s m args below meth c (MQ below (qBi dC dI a k A q) args s 0 0 A) dC dI a k A 1 0 σ (lv_args 0 [.int p0]) [] := by
  have hC0 := hC
  obtain ⟨hx, hb, hr, hml, hown, hts, hlocks, hA, hN, hK⟩ := hC0
  intro H locs ls hP hD hS hl
  have hD0 : ∀ σ1 : ST, va_D A (wB a k σ1) := fun σ1 => wB_D hD
  replace hl : lv_has ls 1 [(0, .int p0)] := hl
  unfold f_X11_isDigit at h
  refine lv_iload_n hx hb dX11_isDigit_0 rfl (lv_at hl 0 rfl) ?_
  refine lv_i2l (v := p0.toInt64) hx hb dX11_isDigit_1 rfl ?_
  refine lv_ldc2 (v := 48) hx hb hown (hts (.constantLong RX11 200 (48)) mw_29_2) dX11_isDigit_2 ?_
  refine lv_ldc2 (v := 57) hx hb hown (hts (.constantLong RX11 202 (57)) mw_29_3) dX11_isDigit_5 ?_
  obtain ⟨q1, hc, h⟩ := ib h
  have hF := va_frees hD hS hA
  refine va_calli (va_runS (As := [.long (p0.toInt64), .long 48, .long 57]) (rest := []) ⟨hx, hb, hml, hown, hts⟩ (s_X11_within hc) (va_cwS 3 hts (gS mw_29_0 mw_29_1 mw_0_15 mw_53_26) rfl rfl rfl (by decide +kernel) ⟨(Nat.le_of_ble_eq_true rfl), (Nat.le_of_ble_eq_true rfl)⟩) (vS hK hP hD hN) rfl rfl hl.1 rfl (lv_room (Nat.le_of_ble_eq_true rfl)) dX11_isDigit_8 ⟨(Nat.le_of_ble_eq_true rfl), (Nat.le_of_ble_eq_true rfl)⟩) hS (fun q _ h => hF q h) hF (fun r2 u t H locs ht hvm hw hB _ _ hS => ?_)
  obtain rfl : r2 = q1.1 := hw
  replace hP : va_P (dC, dI) vwCl (wB a k q1.2) H := by rw [← ht]; exact hB.1
  replace hD := hD0 (q1.2)
  clear hB hF
  obtain ⟨hg, h⟩ := ig h
  obtain rfl := Option.some.inj h
  exact W.zret hx hb hr (zn hg) (fun t ht hW => ⟨⟨_, (), rfl, rfl, ⟨by rw [ht]; exact hP, va_K.moved hW.alike hK, hD⟩⟩, hS.F ht⟩) hS.2.2 dX11_isDigit_11

theorem s_X11_isDigit {l : Launch} {dC : Nat → ClassId} {dI : Nat → Nat → Nat} {a : Nat → Nat} {k : Nat → ClassId} {sz : Nat} {p0 : Int32} {σ : ST} {q : Int32 × ST} (h : f_X11_isDigit  p0 σ = some q) : Met l yX11_isDigit (.code yX11_isDigit cX11_isDigit 1 (some .boolean) :: pw) ({ frames := 1, cells := 0, slots := 0, locals := 25 } : Room) (va_Pc [.int p0] (vPre dC dI (wB a k σ) (tB k) sz)) (qBi dC dI a k (va_A (wB a k σ) sz) q) 0 0 (va_A (wB a k σ) sz) := metB (fun A => qBi dC dI a k A q) (plainFor_of_name (by decide)) (Nat.le_of_ble_eq_true rfl) (fun _ _ _ _ _ _ _ _ hC => b_X11_isDigit_e hC h)

def f_X11_isSign_36 (σ : ST) : Option (Int32 × ST) := some (1, σ)
def f_X11_isSign (p0 : Int32) (σ : ST) : Option (Int32 × ST) := if p0 = 123 then (f_X11_isSign_36   σ) else (if p0 = 125 then (f_X11_isSign_36   σ) else (if p0 = 91 then (f_X11_isSign_36   σ) else (if p0 = 93 then (f_X11_isSign_36   σ) else (if p0 = 44 then (f_X11_isSign_36   σ) else (if p0 = 59 then (f_X11_isSign_36   σ) else (some (0, σ)))))))

set_option maxRecDepth 100000 in
set_option maxHeartbeats 4000000 in
theorem b_X11_isSign_36 {p : Program} {l : Launch} {e : Env} {s : State} {m : MethodId} {args : Array Value} {below : List Frame} {meth : Method} {c : Code} {dC : Nat → ClassId} {dI : Nat → Nat → Nat} {a : Nat → Nat} {k : Nat → ClassId} {A : Nat → Prop} {q : Int32 × ST} (hC : CxB p s m args meth c dC dI k A cX11_isSign RX11 (some .boolean) 1)    {σ : ST} (h : f_X11_isSign_36   σ = some q) : GoB p l e ({ frames := 0, cells := 0, slots := 0, locals := 0 } : Room) s m args below meth c (MQ below (qBi dC dI a k A q) args s 0 0 A) dC dI a k A 1 36 σ [] [] := by
  have hC0 := hC
  obtain ⟨hx, hb, hr, hml, hown, hts, hlocks, hA, hN, hK⟩ := hC0
  intro H locs ls hP hD hS hl
  have hD0 : ∀ σ1 : ST, va_D A (wB a k σ1) := fun σ1 => wB_D hD
  unfold f_X11_isSign_36 at h
  refine lv_iconst (v := 1) hx hb dX11_isSign_36 (by decide) ?_
  refine lv_goto (tgt := 41) hx hb dX11_isSign_37 (by decide) ?_
  obtain rfl := Option.some.inj h
  exact W.zret hx hb hr rfl (fun t ht hW => ⟨⟨_, (), rfl, rfl, ⟨by rw [ht]; exact hP, va_K.moved hW.alike hK, hD⟩⟩, hS.F ht⟩) hS.2.2 dX11_isSign_41

set_option maxRecDepth 100000 in
set_option maxHeartbeats 4000000 in
theorem b_X11_isSign_e {p : Program} {l : Launch} {e : Env} {s : State} {m : MethodId} {args : Array Value} {below : List Frame} {meth : Method} {c : Code} {dC : Nat → ClassId} {dI : Nat → Nat → Nat} {a : Nat → Nat} {k : Nat → ClassId} {A : Nat → Prop} {q : Int32 × ST} (hC : CxB p s m args meth c dC dI k A cX11_isSign RX11 (some .boolean) 1)   {p0 : Int32} {σ : ST} (h : f_X11_isSign  p0 σ = some q) : GoB p l e ({ frames := 0, cells := 0, slots := 0, locals := 0 } : Room) s m args below meth c (MQ below (qBi dC dI a k A q) args s 0 0 A) dC dI a k A 1 0 σ (lv_args 0 [.int p0]) [] := by
  have hC0 := hC
  obtain ⟨hx, hb, hr, hml, hown, hts, hlocks, hA, hN, hK⟩ := hC0
  intro H locs ls hP hD hS hl
  have hD0 : ∀ σ1 : ST, va_D A (wB a k σ1) := fun σ1 => wB_D hD
  replace hl : lv_has ls 1 [(0, .int p0)] := hl
  unfold f_X11_isSign at h
  refine lv_iload_n hx hb dX11_isSign_0 rfl (lv_at hl 0 rfl) ?_
  refine lv_bipush (v := 123) hx hb dX11_isSign_1 (by decide) ?_
  refine lv_icmp_eq (tgt := 36) hx hb dX11_isSign_3 (by decide) (fun hc => ?_) (fun hc => ?_)
  · replace h := ip hc h
    exact b_X11_isSign_36 hC h _ _ _ hP hD hS (lv_sub hl [] rfl)
  · replace h := iq hc h
    refine lv_iload_n hx hb dX11_isSign_6 rfl (lv_at hl 0 rfl) ?_
    refine lv_bipush (v := 125) hx hb dX11_isSign_7 (by decide) ?_
    refine lv_icmp_eq (tgt := 36) hx hb dX11_isSign_9 (by decide) (fun hc => ?_) (fun hc => ?_)
    · replace h := ip hc h
      exact b_X11_isSign_36 hC h _ _ _ hP hD hS (lv_sub hl [] rfl)
    · replace h := iq hc h
      refine lv_iload_n hx hb dX11_isSign_12 rfl (lv_at hl 0 rfl) ?_
      refine lv_bipush (v := 91) hx hb dX11_isSign_13 (by decide) ?_
      refine lv_icmp_eq (tgt := 36) hx hb dX11_isSign_15 (by decide) (fun hc => ?_) (fun hc => ?_)
      · replace h := ip hc h
        exact b_X11_isSign_36 hC h _ _ _ hP hD hS (lv_sub hl [] rfl)
      · replace h := iq hc h
        refine lv_iload_n hx hb dX11_isSign_18 rfl (lv_at hl 0 rfl) ?_
        refine lv_bipush (v := 93) hx hb dX11_isSign_19 (by decide) ?_
        refine lv_icmp_eq (tgt := 36) hx hb dX11_isSign_21 (by decide) (fun hc => ?_) (fun hc => ?_)
        · replace h := ip hc h
          exact b_X11_isSign_36 hC h _ _ _ hP hD hS (lv_sub hl [] rfl)
        · replace h := iq hc h
          refine lv_iload_n hx hb dX11_isSign_24 rfl (lv_at hl 0 rfl) ?_
          refine lv_bipush (v := 44) hx hb dX11_isSign_25 (by decide) ?_
          refine lv_icmp_eq (tgt := 36) hx hb dX11_isSign_27 (by decide) (fun hc => ?_) (fun hc => ?_)
          · replace h := ip hc h
            exact b_X11_isSign_36 hC h _ _ _ hP hD hS (lv_sub hl [] rfl)
          · replace h := iq hc h
            refine lv_iload_n hx hb dX11_isSign_30 rfl (lv_at hl 0 rfl) ?_
            refine lv_bipush (v := 59) hx hb dX11_isSign_31 (by decide) ?_
            refine lv_icmp_ne (tgt := 40) hx hb dX11_isSign_33 (by decide) (fun hc => ?_) (fun hc => ?_)
            · replace h := iq hc h
              refine lv_iconst (v := 0) hx hb dX11_isSign_40 (by decide) ?_
              obtain rfl := Option.some.inj h
              exact W.zret hx hb hr rfl (fun t ht hW => ⟨⟨_, (), rfl, rfl, ⟨by rw [ht]; exact hP, va_K.moved hW.alike hK, hD⟩⟩, hS.F ht⟩) hS.2.2 dX11_isSign_41
            · replace h := ip hc h
              exact b_X11_isSign_36 hC h _ _ _ hP hD hS (lv_sub hl [] rfl)

theorem s_X11_isSign {l : Launch} {dC : Nat → ClassId} {dI : Nat → Nat → Nat} {a : Nat → Nat} {k : Nat → ClassId} {sz : Nat} {p0 : Int32} {σ : ST} {q : Int32 × ST} (h : f_X11_isSign  p0 σ = some q) : Met l yX11_isSign (.code yX11_isSign cX11_isSign 1 (some .boolean) :: pw) ({ frames := 0, cells := 0, slots := 0, locals := 0 } : Room) (va_Pc [.int p0] (vPre dC dI (wB a k σ) (tB k) sz)) (qBi dC dI a k (va_A (wB a k σ) sz) q) 0 0 (va_A (wB a k σ) sz) := metB (fun A => qBi dC dI a k A q) (plainFor_of_name (by decide)) (Nat.le_of_ble_eq_true rfl) (fun _ _ _ _ _ _ _ _ hC => b_X11_isSign_e hC h)

def f_X11_number_102 (k47 : Int32 → Int32 → ST → Option (ST)) (x1 : Int32) (x2 : Int32) (y0 : Int64) (σ : ST) : Option (ST) := k47 x1 x2 (stI (stL σ 0 9 y0) 0 5 (((stL σ 0 9 y0).1 0 5) + 1))
def f_X11_number_292 (y0 : Int32) (σ : ST) : Option (ST) := some (stI σ 0 6 y0)
def f_X11_number_279 (x3 : Int32) (y0 : Int64) (σ : ST) : Option (ST) := if x3 = 0 then (f_X11_number_292  5 (stL σ 0 9 y0)) else (f_X11_number_292  2 (stL σ 0 9 y0))
def f_X11_number_262 (x1 : Int32) (x3 : Int32) (σ : ST) : Option (ST) := if x1 = 0 then (f_X11_number_279  x3 (σ.2.1 0 9) σ) else (f_X11_number_279  x3 (-(σ.2.1 0 9)) σ)
def f_X11_number_261 (x1 : Int32) (y0 : Int32) (σ : ST) : Option (ST) := f_X11_number_262  x1 y0 σ
def f_X11_number_260 (x1 : Int32) (σ : ST) : Option (ST) := f_X11_number_261  x1 0 σ
def f_X11_number_225 (x1 : Int32) (x3 : Int32) (y0 : UInt64) (σ : ST) : Option (ST) := if x3 = 0 then (f_X11_number_260  x1 (stI (stD σ 0 11 y0) 0 5 (((stD σ 0 11 y0).1 0 5) + 2))) else ((f_X11_byteAt  ((stI (stD σ 0 11 y0) 0 5 (((stD σ 0 11 y0).1 0 5) + 2)).1 0 5) (stI (stD σ 0 11 y0) 0 5 (((stD σ 0 11 y0).1 0 5) + 2))).bind fun q1 => (f_X11_isDigit  q1.1 q1.2).bind fun q3 => if q3.1 = 0 then (f_X11_number_261  x1 1 q3.2) else (f_X11_number_260  x1 q3.2))
def f_X11_number_170 (x1 : Int32) (x3 : Int32) (y0 : Int32) (σ : ST) : Option (ST) := if y0 = 0 ∨ y0 = 1 then (if ((stI σ 0 10 y0).1 0 10) = 0 then (f_X11_number_262  x1 x3 (stI σ 0 10 y0)) else ((f_X11_byteAt  (((stI σ 0 10 y0).1 0 5) + 1) (stI σ 0 10 y0)).bind fun q2 => if (FP.ddiv (FP.i2d (q2.1 - 48)) 4621819117588971520) &&& 0x7fffffffffffffff ≤ 0x7ff0000000000000 then (if (FP.dadd (FP.l2d ((stI σ 0 10 y0).2.1 0 9)) (FP.ddiv (FP.i2d (q2.1 - 48)) 4621819117588971520)) &&& 0x7fffffffffffffff ≤ 0x7ff0000000000000 then ((some (stD q2.2 0 11 (FP.dadd (FP.l2d ((stI σ 0 10 y0).2.1 0 9)) (FP.ddiv (FP.i2d (q2.1 - 48)) 4621819117588971520)))).bind fun z6 => if x1 = 0 then (f_X11_number_225  x1 x3 (z6.2.2.1 0 11) z6) else (f_X11_number_225  x1 x3 (FP.dneg (z6.2.2.1 0 11)) z6)) else none) else none)) else none
def f_X11_number_169 (x1 : Int32) (x3 : Int32) (σ : ST) : Option (ST) := f_X11_number_170  x1 x3 0 σ
def f_X11_number_134 (x1 : Int32) (y0 : Int32) (σ : ST) : Option (ST) := (f_X11_byteAt  (σ.1 0 5) σ).bind fun q1 => if q1.1 = 46 then ((f_X11_byteAt  ((q1.2.1 0 5) + 1) q1.2).bind fun q3 => (f_X11_isDigit  q3.1 q3.2).bind fun q5 => if q5.1 = 0 then (f_X11_number_169  x1 y0 q5.2) else (f_X11_number_170  x1 y0 1 q5.2)) else (f_X11_number_169  x1 y0 q1.2)
def f_X11_number_47  : Nat → Int32 → Int32 → ST → Option (ST)
  | 0, _, _, _ => none
  | n + 1, x1, x2, σ => (f_X11_byteAt  (σ.1 0 5) σ).bind fun q1 => (f_X11_isDigit  q1.1 q1.2).bind fun q3 => if q3.1 = 0 then (if 18 < ((q3.2.1 0 5) - x2) then (f_X11_number_134  x1 0 q3.2) else (f_X11_number_134  x1 1 q3.2)) else (if 18 ≤ ((q3.2.1 0 5) - x2) then (f_X11_number_102 (f_X11_number_47  n) x1 x2 (q3.2.2.1 0 9) q3.2) else ((f_X11_byteAt  (q3.2.1 0 5) q3.2).bind fun q5 => f_X11_number_102 (f_X11_number_47  n) x1 x2 (((10 * (q3.2.2.1 0 9)) + (q5.1.toInt64)) - 48) q5.2))
def f_X11_number_33 (x1 : Int32) (y0 : Int32) (y1 : Int32) (σ : ST) : Option (ST) := f_X11_number_47  FU x1 ((stI σ 0 5 (y1 + y0)).1 0 5) (stL (stI σ 0 5 (y1 + y0)) 0 9 0)
def f_X11_number_18 (y0 : Int32) (σ : ST) : Option (ST) := if y0 = 0 then (f_X11_number_33  y0 0 (σ.1 0 5) σ) else (f_X11_number_33  y0 1 (σ.1 0 5) σ)
def f_X11_number (σ : ST) : Option (ST) := (f_X11_byteAt  (σ.1 0 5) σ).bind fun q1 => if q1.1 = 45 then (f_X11_number_18  1 q1.2) else (f_X11_number_18  0 q1.2)

set_option maxRecDepth 100000 in
set_option maxHeartbeats 4000000 in
theorem b_X11_number_102 {p : Program} {l : Launch} {e : Env} {s : State} {m : MethodId} {args : Array Value} {below : List Frame} {meth : Method} {c : Code} {dC : Nat → ClassId} {dI : Nat → Nat → Nat} {a : Nat → Nat} {k : Nat → ClassId} {A : Nat → Prop} {q : ST} (hC : CxB p s m args meth c dC dI k A cX11_number RX11 none 4)  {k47 : Int32 → Int32 → ST → Option (ST)} (hk47 : ∀ (x1 : Int32) (x2 : Int32) (σ : ST), k47 x1 x2 σ = some q → GoB p l e ({ frames := 2, cells := 0, slots := 0, locals := 45 } : Room) s m args below meth c (MQ below (qBv dC dI a k A q) args s 0 0 A) dC dI a k A 4 47 σ [(0, .ref (a 0)), (1, .int x1), (2, .int x2)] []) {x1 : Int32} {x2 : Int32} {y0 : Int64} {σ : ST} (h : f_X11_number_102 k47 x1 x2 y0 σ = some q) : GoB p l e ({ frames := 2, cells := 0, slots := 0, locals := 45 } : Room) s m args below meth c (MQ below (qBv dC dI a k A q) args s 0 0 A) dC dI a k A 4 102 σ [(0, .ref (a 0)), (1, .int x1), (2, .int x2)] [.long y0, .ref (a 0)] := by
  have hC0 := hC
  obtain ⟨hx, hb, hr, hml, hown, hts, hlocks, hA, hN, hK⟩ := hC0
  intro H locs ls hP hD hS hl
  have hD0 : ∀ σ1 : ST, va_D A (wB a k σ1) := fun σ1 => wB_D hD
  unfold f_X11_number_102 at h
  refine va_put (D := (dC, dI)) (ci := 11) (ty := .long) (C := RX11) (T := TX11) (N := 95) hx hb hts inlX11 tyX11 tyX11_ok nmX11 hown hK hP hD hS 0 gB_0 rfl 9 (by decide) (hts (.fieldLink RX11 226 "ShapeReaderModel" "whole" "J") mw_29_14) (fun _ h9 => h9) rfl (by decide +kernel) rfl rfl (Nat.le_of_ble_eq_true rfl) dX11_number_102 (fun H locs hP hD hS => ?_)
  replace hP := uB_0_9 hP
  replace hD := hD0 ((stL σ 0 9 y0))
  refine lv_aload_n hx hb dX11_number_105 rfl (lv_at hl 0 rfl) ?_
  refine lv_dup hx hb dX11_number_106 rfl ?_
  refine va_get (D := (dC, dI)) (ci := 11) (C := RX11) (T := TX11) (N := 95) hx hb hts inlX11 hown hK hP 0 gB_0 rfl 5 (by decide) (hts (.fieldLink RX11 211 "ShapeReaderModel" "next" "I") mw_29_6) (fun _ h9 => h9) rfl dX11_number_107 ?_
  refine lv_iconst (v := 1) hx hb dX11_number_110 (by decide) ?_
  refine lv_iadd hx hb dX11_number_111 ?_
  refine va_put (D := (dC, dI)) (ci := 11) (ty := .int) (C := RX11) (T := TX11) (N := 95) hx hb hts inlX11 tyX11 tyX11_ok nmX11 hown hK hP hD hS 0 gB_0 rfl 5 (by decide) (hts (.fieldLink RX11 211 "ShapeReaderModel" "next" "I") mw_29_6) (fun _ h9 => h9) rfl (by decide +kernel) rfl rfl (Nat.le_of_ble_eq_true rfl) dX11_number_112 (fun H locs hP hD hS => ?_)
  replace hP := uB_0_5 hP
  replace hD := hD0 ((stI (stL σ 0 9 y0) 0 5 (((stL σ 0 9 y0).1 0 5) + 1)))
  refine lv_goto (tgt := 47) hx hb dX11_number_115 (by decide) ?_
  exact hk47 _ _ _ h _ _ _ hP hD hS (lv_sub hl [0, 1, 2] rfl)

set_option maxRecDepth 100000 in
set_option maxHeartbeats 4000000 in
theorem b_X11_number_292 {p : Program} {l : Launch} {e : Env} {s : State} {m : MethodId} {args : Array Value} {below : List Frame} {meth : Method} {c : Code} {dC : Nat → ClassId} {dI : Nat → Nat → Nat} {a : Nat → Nat} {k : Nat → ClassId} {A : Nat → Prop} {q : ST} (hC : CxB p s m args meth c dC dI k A cX11_number RX11 none 4)   {y0 : Int32} {σ : ST} (h : f_X11_number_292  y0 σ = some q) : GoB p l e ({ frames := 2, cells := 0, slots := 0, locals := 45 } : Room) s m args below meth c (MQ below (qBv dC dI a k A q) args s 0 0 A) dC dI a k A 4 292 σ [] [.int y0, .ref (a 0)] := by
  have hC0 := hC
  obtain ⟨hx, hb, hr, hml, hown, hts, hlocks, hA, hN, hK⟩ := hC0
  intro H locs ls hP hD hS hl
  have hD0 : ∀ σ1 : ST, va_D A (wB a k σ1) := fun σ1 => wB_D hD
  unfold f_X11_number_292 at h
  refine va_put (D := (dC, dI)) (ci := 11) (ty := .int) (C := RX11) (T := TX11) (N := 95) hx hb hts inlX11 tyX11 tyX11_ok nmX11 hown hK hP hD hS 0 gB_0 rfl 6 (by decide) (hts (.fieldLink RX11 244 "ShapeReaderModel" "token" "I") mw_29_21) (fun _ h9 => h9) rfl (by decide +kernel) rfl rfl (Nat.le_of_ble_eq_true rfl) dX11_number_292 (fun H locs hP hD hS => ?_)
  replace hP := uB_0_6 hP
  replace hD := hD0 ((stI σ 0 6 y0))
  obtain rfl := Option.some.inj h
  exact W.vret hx hb hr (fun t ht hW => ⟨⟨(), rfl, trivial, ⟨by rw [ht]; exact hP, va_K.moved hW.alike hK, hD⟩⟩, hS.F ht⟩) hS.2.2 dX11_number_295

set_option maxRecDepth 100000 in
set_option maxHeartbeats 4000000 in
theorem b_X11_number_279 {p : Program} {l : Launch} {e : Env} {s : State} {m : MethodId} {args : Array Value} {below : List Frame} {meth : Method} {c : Code} {dC : Nat → ClassId} {dI : Nat → Nat → Nat} {a : Nat → Nat} {k : Nat → ClassId} {A : Nat → Prop} {q : ST} (hC : CxB p s m args meth c dC dI k A cX11_number RX11 none 4)   {x3 : Int32} {y0 : Int64} {σ : ST} (h : f_X11_number_279  x3 y0 σ = some q) : GoB p l e ({ frames := 2, cells := 0, slots := 0, locals := 45 } : Room) s m args below meth c (MQ below (qBv dC dI a k A q) args s 0 0 A) dC dI a k A 4 279 σ [(0, .ref (a 0)), (3, .int x3)] [.long y0, .ref (a 0)] := by
  have hC0 := hC
  obtain ⟨hx, hb, hr, hml, hown, hts, hlocks, hA, hN, hK⟩ := hC0
  intro H locs ls hP hD hS hl
  have hD0 : ∀ σ1 : ST, va_D A (wB a k σ1) := fun σ1 => wB_D hD
  unfold f_X11_number_279 at h
  refine va_put (D := (dC, dI)) (ci := 11) (ty := .long) (C := RX11) (T := TX11) (N := 95) hx hb hts inlX11 tyX11 tyX11_ok nmX11 hown hK hP hD hS 0 gB_0 rfl 9 (by decide) (hts (.fieldLink RX11 226 "ShapeReaderModel" "whole" "J") mw_29_14) (fun _ h9 => h9) rfl (by decide +kernel) rfl rfl (Nat.le_of_ble_eq_true rfl) dX11_number_279 (fun H locs hP hD hS => ?_)
  replace hP := uB_0_9 hP
  replace hD := hD0 ((stL σ 0 9 y0))
  refine lv_aload_n hx hb dX11_number_282 rfl (lv_at hl 0 rfl) ?_
  refine lv_iload_n hx hb dX11_number_283 rfl (lv_at hl 1 rfl) ?_
  refine lv_if_eq (tgt := 291) hx hb dX11_number_284 (by decide) (fun hc => ?_) (fun hc => ?_)
  · replace h := ip hc h
    refine lv_iconst (v := 5) hx hb dX11_number_291 (by decide) ?_
    exact b_X11_number_292 hC h _ _ _ hP hD hS (lv_sub hl [] rfl)
  · replace h := iq hc h
    refine lv_iconst (v := 2) hx hb dX11_number_287 (by decide) ?_
    refine lv_goto (tgt := 292) hx hb dX11_number_288 (by decide) ?_
    exact b_X11_number_292 hC h _ _ _ hP hD hS (lv_sub hl [] rfl)

set_option maxRecDepth 100000 in
set_option maxHeartbeats 4000000 in
theorem b_X11_number_262 {p : Program} {l : Launch} {e : Env} {s : State} {m : MethodId} {args : Array Value} {below : List Frame} {meth : Method} {c : Code} {dC : Nat → ClassId} {dI : Nat → Nat → Nat} {a : Nat → Nat} {k : Nat → ClassId} {A : Nat → Prop} {q : ST} (hC : CxB p s m args meth c dC dI k A cX11_number RX11 none 4)   {x1 : Int32} {x3 : Int32} {σ : ST} (h : f_X11_number_262  x1 x3 σ = some q) : GoB p l e ({ frames := 2, cells := 0, slots := 0, locals := 45 } : Room) s m args below meth c (MQ below (qBv dC dI a k A q) args s 0 0 A) dC dI a k A 4 262 σ [(0, .ref (a 0)), (1, .int x1), (3, .int x3)] [] := by
  have hC0 := hC
  obtain ⟨hx, hb, hr, hml, hown, hts, hlocks, hA, hN, hK⟩ := hC0
  intro H locs ls hP hD hS hl
  have hD0 : ∀ σ1 : ST, va_D A (wB a k σ1) := fun σ1 => wB_D hD
  unfold f_X11_number_262 at h
  refine lv_aload_n hx hb dX11_number_262 rfl (lv_at hl 0 rfl) ?_
  refine lv_iload_n hx hb dX11_number_263 rfl (lv_at hl 1 rfl) ?_
  refine lv_if_eq (tgt := 275) hx hb dX11_number_264 (by decide) (fun hc => ?_) (fun hc => ?_)
  · replace h := ip hc h
    refine lv_aload_n hx hb dX11_number_275 rfl (lv_at hl 0 rfl) ?_
    refine va_get (D := (dC, dI)) (ci := 11) (C := RX11) (T := TX11) (N := 95) hx hb hts inlX11 hown hK hP 0 gB_0 rfl 9 (by decide) (hts (.fieldLink RX11 226 "ShapeReaderModel" "whole" "J") mw_29_14) (fun _ h9 => h9) rfl dX11_number_276 ?_
    exact b_X11_number_279 hC h _ _ _ hP hD hS (lv_sub hl [0, 2] rfl)
  · replace h := iq hc h
    refine lv_aload_n hx hb dX11_number_267 rfl (lv_at hl 0 rfl) ?_
    refine va_get (D := (dC, dI)) (ci := 11) (C := RX11) (T := TX11) (N := 95) hx hb hts inlX11 hown hK hP 0 gB_0 rfl 9 (by decide) (hts (.fieldLink RX11 226 "ShapeReaderModel" "whole" "J") mw_29_14) (fun _ h9 => h9) rfl dX11_number_268 ?_
    refine lv_lneg hx hb dX11_number_271 ?_
    refine lv_goto (tgt := 279) hx hb dX11_number_272 (by decide) ?_
    exact b_X11_number_279 hC h _ _ _ hP hD hS (lv_sub hl [0, 2] rfl)

set_option maxRecDepth 100000 in
set_option maxHeartbeats 4000000 in
theorem b_X11_number_261 {p : Program} {l : Launch} {e : Env} {s : State} {m : MethodId} {args : Array Value} {below : List Frame} {meth : Method} {c : Code} {dC : Nat → ClassId} {dI : Nat → Nat → Nat} {a : Nat → Nat} {k : Nat → ClassId} {A : Nat → Prop} {q : ST} (hC : CxB p s m args meth c dC dI k A cX11_number RX11 none 4)   {x1 : Int32} {y0 : Int32} {σ : ST} (h : f_X11_number_261  x1 y0 σ = some q) : GoB p l e ({ frames := 2, cells := 0, slots := 0, locals := 45 } : Room) s m args below meth c (MQ below (qBv dC dI a k A q) args s 0 0 A) dC dI a k A 4 261 σ [(0, .ref (a 0)), (1, .int x1)] [.int y0] := by
  have hC0 := hC
  obtain ⟨hx, hb, hr, hml, hown, hts, hlocks, hA, hN, hK⟩ := hC0
  intro H locs ls hP hD hS hl
  have hD0 : ∀ σ1 : ST, va_D A (wB a k σ1) := fun σ1 => wB_D hD
  unfold f_X11_number_261 at h
  refine lv_istore_n (lv' := [(3, .int y0), (0, .ref (a 0)), (1, .int x1)]) hx hb dX11_number_261 rfl hl (by decide) rfl (fun ls hl => ?_)
  exact b_X11_number_262 hC h _ _ _ hP hD hS (lv_sub hl [1, 2, 0] rfl)

set_option maxRecDepth 100000 in
set_option maxHeartbeats 4000000 in
theorem b_X11_number_260 {p : Program} {l : Launch} {e : Env} {s : State} {m : MethodId} {args : Array Value} {below : List Frame} {meth : Method} {c : Code} {dC : Nat → ClassId} {dI : Nat → Nat → Nat} {a : Nat → Nat} {k : Nat → ClassId} {A : Nat → Prop} {q : ST} (hC : CxB p s m args meth c dC dI k A cX11_number RX11 none 4)   {x1 : Int32} {σ : ST} (h : f_X11_number_260  x1 σ = some q) : GoB p l e ({ frames := 2, cells := 0, slots := 0, locals := 45 } : Room) s m args below meth c (MQ below (qBv dC dI a k A q) args s 0 0 A) dC dI a k A 4 260 σ [(0, .ref (a 0)), (1, .int x1)] [] := by
  have hC0 := hC
  obtain ⟨hx, hb, hr, hml, hown, hts, hlocks, hA, hN, hK⟩ := hC0
  intro H locs ls hP hD hS hl
  have hD0 : ∀ σ1 : ST, va_D A (wB a k σ1) := fun σ1 => wB_D hD
  unfold f_X11_number_260 at h
  refine lv_iconst (v := 0) hx hb dX11_number_260 (by decide) ?_
  exact b_X11_number_261 hC h _ _ _ hP hD hS (lv_sub hl [0, 1] rfl)

set_option maxRecDepth 100000 in
set_option maxHeartbeats 4000000 in
theorem b_X11_number_225 {p : Program} {l : Launch} {e : Env} {s : State} {m : MethodId} {args : Array Value} {below : List Frame} {meth : Method} {c : Code} {dC : Nat → ClassId} {dI : Nat → Nat → Nat} {a : Nat → Nat} {k : Nat → ClassId} {A : Nat → Prop} {q : ST} (hC : CxB p s m args meth c dC dI k A cX11_number RX11 none 4)   {x1 : Int32} {x3 : Int32} {y0 : UInt64} {σ : ST} (h : f_X11_number_225  x1 x3 y0 σ = some q) : GoB p l e ({ frames := 2, cells := 0, slots := 0, locals := 45 } : Room) s m args below meth c (MQ below (qBv dC dI a k A q) args s 0 0 A) dC dI a k A 4 225 σ [(0, .ref (a 0)), (1, .int x1), (3, .int x3)] [.double y0, .ref (a 0)] := by
  have hC0 := hC
  obtain ⟨hx, hb, hr, hml, hown, hts, hlocks, hA, hN, hK⟩ := hC0
  intro H locs ls hP hD hS hl
  have hD0 : ∀ σ1 : ST, va_D A (wB a k σ1) := fun σ1 => wB_D hD
  unfold f_X11_number_225 at h
  refine va_put (D := (dC, dI)) (ci := 11) (ty := .double) (C := RX11) (T := TX11) (N := 95) hx hb hts inlX11 tyX11 tyX11_ok nmX11 hown hK hP hD hS 0 gB_0 rfl 11 (by decide) (hts (.fieldLink RX11 240 "ShapeReaderModel" "pointed" "D") mw_29_20) (fun _ h9 => h9) rfl (by decide +kernel) rfl rfl (Nat.le_of_ble_eq_true rfl) dX11_number_225 (fun H locs hP hD hS => ?_)
  replace hP := uB_0_11 hP
  replace hD := hD0 ((stD σ 0 11 y0))
  refine lv_aload_n hx hb dX11_number_228 rfl (lv_at hl 0 rfl) ?_
  refine lv_dup hx hb dX11_number_229 rfl ?_
  refine va_get (D := (dC, dI)) (ci := 11) (C := RX11) (T := TX11) (N := 95) hx hb hts inlX11 hown hK hP 0 gB_0 rfl 5 (by decide) (hts (.fieldLink RX11 211 "ShapeReaderModel" "next" "I") mw_29_6) (fun _ h9 => h9) rfl dX11_number_230 ?_
  refine lv_iconst (v := 2) hx hb dX11_number_233 (by decide) ?_
  refine lv_iadd hx hb dX11_number_234 ?_
  refine va_put (D := (dC, dI)) (ci := 11) (ty := .int) (C := RX11) (T := TX11) (N := 95) hx hb hts inlX11 tyX11 tyX11_ok nmX11 hown hK hP hD hS 0 gB_0 rfl 5 (by decide) (hts (.fieldLink RX11 211 "ShapeReaderModel" "next" "I") mw_29_6) (fun _ h9 => h9) rfl (by decide +kernel) rfl rfl (Nat.le_of_ble_eq_true rfl) dX11_number_235 (fun H locs hP hD hS => ?_)
  replace hP := uB_0_5 hP
  replace hD := hD0 ((stI (stD σ 0 11 y0) 0 5 (((stD σ 0 11 y0).1 0 5) + 2)))
  refine lv_iload_n hx hb dX11_number_238 rfl (lv_at hl 2 rfl) ?_
  refine lv_if_eq (tgt := 260) hx hb dX11_number_239 (by decide) (fun hc => ?_) (fun hc => ?_)
  · replace h := ip hc h
    exact b_X11_number_260 hC h _ _ _ hP hD hS (lv_sub hl [0, 1] rfl)
  · replace h := iq hc h
    refine lv_aload_n hx hb dX11_number_242 rfl (lv_at hl 0 rfl) ?_
    refine lv_aload_n hx hb dX11_number_243 rfl (lv_at hl 0 rfl) ?_
    refine va_get (D := (dC, dI)) (ci := 11) (C := RX11) (T := TX11) (N := 95) hx hb hts inlX11 hown hK hP 0 gB_0 rfl 5 (by decide) (hts (.fieldLink RX11 211 "ShapeReaderModel" "next" "I") mw_29_6) (fun _ h9 => h9) rfl dX11_number_244 ?_
    obtain ⟨q1, hc, h⟩ := ib h
    have hF := va_frees hD hS hA
    refine va_calli (va_runV (As := [.int ((stI (stD σ 0 11 y0) 0 5 (((stD σ 0 11 y0).1 0 5) + 2)).1 0 5)]) (rest := []) ⟨hx, hb, hml, hown, hts⟩ (s_X11_byteAt hc) (cwV 1 hts (gV mw_29_7 mw_29_8 mw_29_9 mw_0_15 mw_53_29) rfl rfl rfl (by decide +kernel) ⟨(Nat.le_of_ble_eq_true rfl), (Nat.le_of_ble_eq_true rfl)⟩) (vV (ci := 11) (q0 := 0) hK hP hD hN rfl gB_0) rfl rfl hl.1 rfl (lv_room (Nat.le_of_ble_eq_true rfl)) dX11_number_247 ⟨(Nat.le_of_ble_eq_true rfl), (Nat.le_of_ble_eq_true rfl)⟩) hS (fun q _ h => hF q h) hF (fun r2 u t H locs ht hvm hw hB _ _ hS => ?_)
    obtain rfl : r2 = q1.1 := hw
    replace hP : va_P (dC, dI) vwCl (wB a k q1.2) H := by rw [← ht]; exact hB.1
    replace hD := hD0 (q1.2)
    clear hB hF
    obtain ⟨q3, hc, h⟩ := ib h
    have hF := va_frees hD hS hA
    refine va_calli (va_runS (As := [.int q1.1]) (rest := []) ⟨hx, hb, hml, hown, hts⟩ (s_X11_isDigit hc) (va_cwS 1 hts (gS mw_29_15 mw_29_16 mw_0_15 mw_54_1) rfl rfl rfl (by decide +kernel) ⟨(Nat.le_of_ble_eq_true rfl), (Nat.le_of_ble_eq_true rfl)⟩) (vS hK hP hD hN) rfl rfl hl.1 rfl (lv_room (Nat.le_of_ble_eq_true rfl)) dX11_number_250 ⟨(Nat.le_of_ble_eq_true rfl), (Nat.le_of_ble_eq_true rfl)⟩) hS (fun q _ h => hF q h) hF (fun r4 u t H locs ht hvm hw hB _ _ hS => ?_)
    obtain rfl : r4 = q3.1 := hw
    replace hP : va_P (dC, dI) vwCl (wB a k q3.2) H := by rw [← ht]; exact hB.1
    replace hD := hD0 (q3.2)
    clear hB hF
    refine lv_if_ne (tgt := 260) hx hb dX11_number_253 (by decide) (fun hc => ?_) (fun hc => ?_)
    · replace h := iq hc h
      exact b_X11_number_260 hC h _ _ _ hP hD hS (lv_sub hl [0, 1] rfl)
    · replace h := ip hc h
      refine lv_iconst (v := 1) hx hb dX11_number_256 (by decide) ?_
      refine lv_goto (tgt := 261) hx hb dX11_number_257 (by decide) ?_
      exact b_X11_number_261 hC h _ _ _ hP hD hS (lv_sub hl [0, 1] rfl)

set_option maxRecDepth 100000 in
set_option maxHeartbeats 4000000 in
theorem b_X11_number_170 {p : Program} {l : Launch} {e : Env} {s : State} {m : MethodId} {args : Array Value} {below : List Frame} {meth : Method} {c : Code} {dC : Nat → ClassId} {dI : Nat → Nat → Nat} {a : Nat → Nat} {k : Nat → ClassId} {A : Nat → Prop} {q : ST} (hC : CxB p s m args meth c dC dI k A cX11_number RX11 none 4)   {x1 : Int32} {x3 : Int32} {y0 : Int32} {σ : ST} (h : f_X11_number_170  x1 x3 y0 σ = some q) : GoB p l e ({ frames := 2, cells := 0, slots := 0, locals := 45 } : Room) s m args below meth c (MQ below (qBv dC dI a k A q) args s 0 0 A) dC dI a k A 4 170 σ [(0, .ref (a 0)), (1, .int x1), (3, .int x3)] [.int y0, .ref (a 0)] := by
  have hC0 := hC
  obtain ⟨hx, hb, hr, hml, hown, hts, hlocks, hA, hN, hK⟩ := hC0
  intro H locs ls hP hD hS hl
  have hD0 : ∀ σ1 : ST, va_D A (wB a k σ1) := fun σ1 => wB_D hD
  unfold f_X11_number_170 at h
  obtain ⟨hg1, h⟩ := ig h
  refine va_put (D := (dC, dI)) (ci := 11) (ty := .boolean) (C := RX11) (T := TX11) (N := 95) hx hb hts inlX11 tyX11 tyX11_ok nmX11 hown hK hP hD hS 0 gB_0 rfl 10 (by decide) (hts (.fieldLink RX11 234 "ShapeReaderModel" "isPointed" "Z") mw_29_18) (fun _ h9 => h9) rfl (by decide +kernel) (zn hg1) (zf hg1) (Nat.le_of_ble_eq_true rfl) dX11_number_170 (fun H locs hP hD hS => ?_)
  replace hP := uB_0_10 hP
  replace hD := hD0 ((stI σ 0 10 y0))
  refine lv_aload_n hx hb dX11_number_173 rfl (lv_at hl 0 rfl) ?_
  refine va_get (D := (dC, dI)) (ci := 11) (C := RX11) (T := TX11) (N := 95) hx hb hts inlX11 hown hK hP 0 gB_0 rfl 10 (by decide) (hts (.fieldLink RX11 234 "ShapeReaderModel" "isPointed" "Z") mw_29_18) (fun _ h9 => h9) rfl dX11_number_174 ?_
  refine lv_if_eq (tgt := 262) hx hb dX11_number_177 (by decide) (fun hc => ?_) (fun hc => ?_)
  · replace h := ip hc h
    exact b_X11_number_262 hC h _ _ _ hP hD hS (lv_sub hl [0, 1, 2] rfl)
  · replace h := iq hc h
    refine lv_aload_n hx hb dX11_number_180 rfl (lv_at hl 0 rfl) ?_
    refine lv_aload_n hx hb dX11_number_181 rfl (lv_at hl 0 rfl) ?_
    refine va_get (D := (dC, dI)) (ci := 11) (C := RX11) (T := TX11) (N := 95) hx hb hts inlX11 hown hK hP 0 gB_0 rfl 9 (by decide) (hts (.fieldLink RX11 226 "ShapeReaderModel" "whole" "J") mw_29_14) (fun _ h9 => h9) rfl dX11_number_182 ?_
    refine lv_l2d hx hb dX11_number_185 ?_
    refine lv_aload_n hx hb dX11_number_186 rfl (lv_at hl 0 rfl) ?_
    refine lv_aload_n hx hb dX11_number_187 rfl (lv_at hl 0 rfl) ?_
    refine va_get (D := (dC, dI)) (ci := 11) (C := RX11) (T := TX11) (N := 95) hx hb hts inlX11 hown hK hP 0 gB_0 rfl 5 (by decide) (hts (.fieldLink RX11 211 "ShapeReaderModel" "next" "I") mw_29_6) (fun _ h9 => h9) rfl dX11_number_188 ?_
    refine lv_iconst (v := 1) hx hb dX11_number_191 (by decide) ?_
    refine lv_iadd hx hb dX11_number_192 ?_
    obtain ⟨q2, hc, h⟩ := ib h
    have hF := va_frees hD hS hA
    refine va_calli (va_runV (As := [.int (((stI σ 0 10 y0).1 0 5) + 1)]) (rest := [.double (FP.l2d ((stI σ 0 10 y0).2.1 0 9)), .ref (a 0)]) ⟨hx, hb, hml, hown, hts⟩ (s_X11_byteAt hc) (cwV 1 hts (gV mw_29_7 mw_29_8 mw_29_9 mw_0_15 mw_53_29) rfl rfl rfl (by decide +kernel) ⟨(Nat.le_of_ble_eq_true rfl), (Nat.le_of_ble_eq_true rfl)⟩) (vV (ci := 11) (q0 := 0) hK hP hD hN rfl gB_0) rfl rfl hl.1 rfl (lv_room (Nat.le_of_ble_eq_true rfl)) dX11_number_193 ⟨(Nat.le_of_ble_eq_true rfl), (Nat.le_of_ble_eq_true rfl)⟩) hS (fun q _ h => hF q h) hF (fun r3 u t H locs ht hvm hw hB _ _ hS => ?_)
    obtain rfl : r3 = q2.1 := hw
    replace hP : va_P (dC, dI) vwCl (wB a k q2.2) H := by rw [← ht]; exact hB.1
    replace hD := hD0 (q2.2)
    clear hB hF
    refine lv_bipush (v := 48) hx hb dX11_number_196 (by decide) ?_
    refine lv_isub hx hb dX11_number_198 ?_
    refine lv_i2d hx hb dX11_number_199 ?_
    refine lv_ldc2d (v := 4621819117588971520) hx hb hown (hts (.constantDouble RX11 238 (4621819117588971520)) mw_29_19) dX11_number_200 ?_
    obtain ⟨hg4, h⟩ := ig h
    refine lv_ddiv hx hb dX11_number_203 hg4 ?_
    obtain ⟨hg5, h⟩ := ig h
    refine lv_dadd hx hb dX11_number_204 hg5 ?_
    refine va_put (D := (dC, dI)) (ci := 11) (ty := .double) (C := RX11) (T := TX11) (N := 95) hx hb hts inlX11 tyX11 tyX11_ok nmX11 hown hK hP hD hS 0 gB_0 rfl 11 (by decide) (hts (.fieldLink RX11 240 "ShapeReaderModel" "pointed" "D") mw_29_20) (fun _ h9 => h9) rfl (by decide +kernel) rfl rfl (Nat.le_of_ble_eq_true rfl) dX11_number_205 (fun H locs hP hD hS => ?_)
    replace hP := uB_0_11 hP
    replace hD := hD0 ((stD q2.2 0 11 (FP.dadd (FP.l2d ((stI σ 0 10 y0).2.1 0 9)) (FP.ddiv (FP.i2d (q2.1 - 48)) 4621819117588971520))))
    obtain ⟨z6, hs, h⟩ := ib h
    replace hs := Option.some.inj hs
    replace hP : va_P (dC, dI) vwCl (wB a k z6) H := by rw [← hs]; exact hP
    replace hD := hD0 z6
    clear hs
    refine lv_aload_n hx hb dX11_number_208 rfl (lv_at hl 0 rfl) ?_
    refine lv_iload_n hx hb dX11_number_209 rfl (lv_at hl 1 rfl) ?_
    refine lv_if_eq (tgt := 221) hx hb dX11_number_210 (by decide) (fun hc => ?_) (fun hc => ?_)
    · replace h := ip hc h
      refine lv_aload_n hx hb dX11_number_221 rfl (lv_at hl 0 rfl) ?_
      refine va_get (D := (dC, dI)) (ci := 11) (C := RX11) (T := TX11) (N := 95) hx hb hts inlX11 hown hK hP 0 gB_0 rfl 11 (by decide) (hts (.fieldLink RX11 240 "ShapeReaderModel" "pointed" "D") mw_29_20) (fun _ h9 => h9) rfl dX11_number_222 ?_
      exact b_X11_number_225 hC h _ _ _ hP hD hS (lv_sub hl [0, 1, 2] rfl)
    · replace h := iq hc h
      refine lv_aload_n hx hb dX11_number_213 rfl (lv_at hl 0 rfl) ?_
      refine va_get (D := (dC, dI)) (ci := 11) (C := RX11) (T := TX11) (N := 95) hx hb hts inlX11 hown hK hP 0 gB_0 rfl 11 (by decide) (hts (.fieldLink RX11 240 "ShapeReaderModel" "pointed" "D") mw_29_20) (fun _ h9 => h9) rfl dX11_number_214 ?_
      refine lv_dneg hx hb dX11_number_217 ?_
      refine lv_goto (tgt := 225) hx hb dX11_number_218 (by decide) ?_
      exact b_X11_number_225 hC h _ _ _ hP hD hS (lv_sub hl [0, 1, 2] rfl)

set_option maxRecDepth 100000 in
set_option maxHeartbeats 4000000 in
theorem b_X11_number_169 {p : Program} {l : Launch} {e : Env} {s : State} {m : MethodId} {args : Array Value} {below : List Frame} {meth : Method} {c : Code} {dC : Nat → ClassId} {dI : Nat → Nat → Nat} {a : Nat → Nat} {k : Nat → ClassId} {A : Nat → Prop} {q : ST} (hC : CxB p s m args meth c dC dI k A cX11_number RX11 none 4)   {x1 : Int32} {x3 : Int32} {σ : ST} (h : f_X11_number_169  x1 x3 σ = some q) : GoB p l e ({ frames := 2, cells := 0, slots := 0, locals := 45 } : Room) s m args below meth c (MQ below (qBv dC dI a k A q) args s 0 0 A) dC dI a k A 4 169 σ [(0, .ref (a 0)), (1, .int x1), (3, .int x3)] [.ref (a 0)] := by
  have hC0 := hC
  obtain ⟨hx, hb, hr, hml, hown, hts, hlocks, hA, hN, hK⟩ := hC0
  intro H locs ls hP hD hS hl
  have hD0 : ∀ σ1 : ST, va_D A (wB a k σ1) := fun σ1 => wB_D hD
  unfold f_X11_number_169 at h
  refine lv_iconst (v := 0) hx hb dX11_number_169 (by decide) ?_
  exact b_X11_number_170 hC h _ _ _ hP hD hS (lv_sub hl [0, 1, 2] rfl)

set_option maxRecDepth 100000 in
set_option maxHeartbeats 4000000 in
theorem b_X11_number_134 {p : Program} {l : Launch} {e : Env} {s : State} {m : MethodId} {args : Array Value} {below : List Frame} {meth : Method} {c : Code} {dC : Nat → ClassId} {dI : Nat → Nat → Nat} {a : Nat → Nat} {k : Nat → ClassId} {A : Nat → Prop} {q : ST} (hC : CxB p s m args meth c dC dI k A cX11_number RX11 none 4)   {x1 : Int32} {y0 : Int32} {σ : ST} (h : f_X11_number_134  x1 y0 σ = some q) : GoB p l e ({ frames := 2, cells := 0, slots := 0, locals := 45 } : Room) s m args below meth c (MQ below (qBv dC dI a k A q) args s 0 0 A) dC dI a k A 4 134 σ [(0, .ref (a 0)), (1, .int x1)] [.int y0] := by
  have hC0 := hC
  obtain ⟨hx, hb, hr, hml, hown, hts, hlocks, hA, hN, hK⟩ := hC0
  intro H locs ls hP hD hS hl
  have hD0 : ∀ σ1 : ST, va_D A (wB a k σ1) := fun σ1 => wB_D hD
  unfold f_X11_number_134 at h
  refine lv_istore_n (lv' := [(3, .int y0), (0, .ref (a 0)), (1, .int x1)]) hx hb dX11_number_134 rfl hl (by decide) rfl (fun ls hl => ?_)
  refine lv_aload_n hx hb dX11_number_135 rfl (lv_at hl 1 rfl) ?_
  refine lv_aload_n hx hb dX11_number_136 rfl (lv_at hl 1 rfl) ?_
  refine lv_aload_n hx hb dX11_number_137 rfl (lv_at hl 1 rfl) ?_
  refine va_get (D := (dC, dI)) (ci := 11) (C := RX11) (T := TX11) (N := 95) hx hb hts inlX11 hown hK hP 0 gB_0 rfl 5 (by decide) (hts (.fieldLink RX11 211 "ShapeReaderModel" "next" "I") mw_29_6) (fun _ h9 => h9) rfl dX11_number_138 ?_
  obtain ⟨q1, hc, h⟩ := ib h
  have hF := va_frees hD hS hA
  refine va_calli (va_runV (As := [.int (σ.1 0 5)]) (rest := [.ref (a 0)]) ⟨hx, hb, hml, hown, hts⟩ (s_X11_byteAt hc) (cwV 1 hts (gV mw_29_7 mw_29_8 mw_29_9 mw_0_15 mw_53_29) rfl rfl rfl (by decide +kernel) ⟨(Nat.le_of_ble_eq_true rfl), (Nat.le_of_ble_eq_true rfl)⟩) (vV (ci := 11) (q0 := 0) hK hP hD hN rfl gB_0) rfl rfl hl.1 rfl (lv_room (Nat.le_of_ble_eq_true rfl)) dX11_number_141 ⟨(Nat.le_of_ble_eq_true rfl), (Nat.le_of_ble_eq_true rfl)⟩) hS (fun q _ h => hF q h) hF (fun r2 u t H locs ht hvm hw hB _ _ hS => ?_)
  obtain rfl : r2 = q1.1 := hw
  replace hP : va_P (dC, dI) vwCl (wB a k q1.2) H := by rw [← ht]; exact hB.1
  replace hD := hD0 (q1.2)
  clear hB hF
  refine lv_bipush (v := 46) hx hb dX11_number_144 (by decide) ?_
  refine lv_icmp_ne (tgt := 169) hx hb dX11_number_146 (by decide) (fun hc => ?_) (fun hc => ?_)
  · replace h := iq hc h
    exact b_X11_number_169 hC h _ _ _ hP hD hS (lv_sub hl [1, 2, 0] rfl)
  · replace h := ip hc h
    refine lv_aload_n hx hb dX11_number_149 rfl (lv_at hl 1 rfl) ?_
    refine lv_aload_n hx hb dX11_number_150 rfl (lv_at hl 1 rfl) ?_
    refine va_get (D := (dC, dI)) (ci := 11) (C := RX11) (T := TX11) (N := 95) hx hb hts inlX11 hown hK hP 0 gB_0 rfl 5 (by decide) (hts (.fieldLink RX11 211 "ShapeReaderModel" "next" "I") mw_29_6) (fun _ h9 => h9) rfl dX11_number_151 ?_
    refine lv_iconst (v := 1) hx hb dX11_number_154 (by decide) ?_
    refine lv_iadd hx hb dX11_number_155 ?_
    obtain ⟨q3, hc, h⟩ := ib h
    have hF := va_frees hD hS hA
    refine va_calli (va_runV (As := [.int ((q1.2.1 0 5) + 1)]) (rest := [.ref (a 0)]) ⟨hx, hb, hml, hown, hts⟩ (s_X11_byteAt hc) (cwV 1 hts (gV mw_29_7 mw_29_8 mw_29_9 mw_0_15 mw_53_29) rfl rfl rfl (by decide +kernel) ⟨(Nat.le_of_ble_eq_true rfl), (Nat.le_of_ble_eq_true rfl)⟩) (vV (ci := 11) (q0 := 0) hK hP hD hN rfl gB_0) rfl rfl hl.1 rfl (lv_room (Nat.le_of_ble_eq_true rfl)) dX11_number_156 ⟨(Nat.le_of_ble_eq_true rfl), (Nat.le_of_ble_eq_true rfl)⟩) hS (fun q _ h => hF q h) hF (fun r4 u t H locs ht hvm hw hB _ _ hS => ?_)
    obtain rfl : r4 = q3.1 := hw
    replace hP : va_P (dC, dI) vwCl (wB a k q3.2) H := by rw [← ht]; exact hB.1
    replace hD := hD0 (q3.2)
    clear hB hF
    obtain ⟨q5, hc, h⟩ := ib h
    have hF := va_frees hD hS hA
    refine va_calli (va_runS (As := [.int q3.1]) (rest := [.ref (a 0)]) ⟨hx, hb, hml, hown, hts⟩ (s_X11_isDigit hc) (va_cwS 1 hts (gS mw_29_15 mw_29_16 mw_0_15 mw_54_1) rfl rfl rfl (by decide +kernel) ⟨(Nat.le_of_ble_eq_true rfl), (Nat.le_of_ble_eq_true rfl)⟩) (vS hK hP hD hN) rfl rfl hl.1 rfl (lv_room (Nat.le_of_ble_eq_true rfl)) dX11_number_159 ⟨(Nat.le_of_ble_eq_true rfl), (Nat.le_of_ble_eq_true rfl)⟩) hS (fun q _ h => hF q h) hF (fun r6 u t H locs ht hvm hw hB _ _ hS => ?_)
    obtain rfl : r6 = q5.1 := hw
    replace hP : va_P (dC, dI) vwCl (wB a k q5.2) H := by rw [← ht]; exact hB.1
    replace hD := hD0 (q5.2)
    clear hB hF
    refine lv_if_eq (tgt := 169) hx hb dX11_number_162 (by decide) (fun hc => ?_) (fun hc => ?_)
    · replace h := ip hc h
      exact b_X11_number_169 hC h _ _ _ hP hD hS (lv_sub hl [1, 2, 0] rfl)
    · replace h := iq hc h
      refine lv_iconst (v := 1) hx hb dX11_number_165 (by decide) ?_
      refine lv_goto (tgt := 170) hx hb dX11_number_166 (by decide) ?_
      exact b_X11_number_170 hC h _ _ _ hP hD hS (lv_sub hl [1, 2, 0] rfl)

set_option maxRecDepth 100000 in
set_option maxHeartbeats 4000000 in
theorem b_X11_number_47 {p : Program} {l : Launch} {e : Env} {s : State} {m : MethodId} {args : Array Value} {below : List Frame} {meth : Method} {c : Code} {dC : Nat → ClassId} {dI : Nat → Nat → Nat} {a : Nat → Nat} {k : Nat → ClassId} {A : Nat → Prop} {q : ST} (hC : CxB p s m args meth c dC dI k A cX11_number RX11 none 4)   : ∀ (n : Nat) (x1 : Int32) (x2 : Int32) (σ : ST), f_X11_number_47  n x1 x2 σ = some q → GoB p l e ({ frames := 2, cells := 0, slots := 0, locals := 45 } : Room) s m args below meth c (MQ below (qBv dC dI a k A q) args s 0 0 A) dC dI a k A 4 47 σ [(0, .ref (a 0)), (1, .int x1), (2, .int x2)] [] := by
  intro n
  induction n with
  | zero =>
    intro x1 x2 σ h
    rw [f_X11_number_47] at h
    cases h
  | succ n ih =>
    intro x1 x2 σ h
    have hC0 := hC
    obtain ⟨hx, hb, hr, hml, hown, hts, hlocks, hA, hN, hK⟩ := hC0
    intro H locs ls hP hD hS hl
    have hD0 : ∀ σ1 : ST, va_D A (wB a k σ1) := fun σ1 => wB_D hD
    rw [f_X11_number_47] at h
    refine lv_aload_n hx hb dX11_number_47 rfl (lv_at hl 0 rfl) ?_
    refine lv_aload_n hx hb dX11_number_48 rfl (lv_at hl 0 rfl) ?_
    refine va_get (D := (dC, dI)) (ci := 11) (C := RX11) (T := TX11) (N := 95) hx hb hts inlX11 hown hK hP 0 gB_0 rfl 5 (by decide) (hts (.fieldLink RX11 211 "ShapeReaderModel" "next" "I") mw_29_6) (fun _ h9 => h9) rfl dX11_number_49 ?_
    obtain ⟨q1, hc, h⟩ := ib h
    have hF := va_frees hD hS hA
    refine va_calli (va_runV (As := [.int (σ.1 0 5)]) (rest := []) ⟨hx, hb, hml, hown, hts⟩ (s_X11_byteAt hc) (cwV 1 hts (gV mw_29_7 mw_29_8 mw_29_9 mw_0_15 mw_53_29) rfl rfl rfl (by decide +kernel) ⟨(Nat.le_of_ble_eq_true rfl), (Nat.le_of_ble_eq_true rfl)⟩) (vV (ci := 11) (q0 := 0) hK hP hD hN rfl gB_0) rfl rfl hl.1 rfl (lv_room (Nat.le_of_ble_eq_true rfl)) dX11_number_52 ⟨(Nat.le_of_ble_eq_true rfl), (Nat.le_of_ble_eq_true rfl)⟩) hS (fun q _ h => hF q h) hF (fun r2 u t H locs ht hvm hw hB _ _ hS => ?_)
    obtain rfl : r2 = q1.1 := hw
    replace hP : va_P (dC, dI) vwCl (wB a k q1.2) H := by rw [← ht]; exact hB.1
    replace hD := hD0 (q1.2)
    clear hB hF
    obtain ⟨q3, hc, h⟩ := ib h
    have hF := va_frees hD hS hA
    refine va_calli (va_runS (As := [.int q1.1]) (rest := []) ⟨hx, hb, hml, hown, hts⟩ (s_X11_isDigit hc) (va_cwS 1 hts (gS mw_29_15 mw_29_16 mw_0_15 mw_54_1) rfl rfl rfl (by decide +kernel) ⟨(Nat.le_of_ble_eq_true rfl), (Nat.le_of_ble_eq_true rfl)⟩) (vS hK hP hD hN) rfl rfl hl.1 rfl (lv_room (Nat.le_of_ble_eq_true rfl)) dX11_number_55 ⟨(Nat.le_of_ble_eq_true rfl), (Nat.le_of_ble_eq_true rfl)⟩) hS (fun q _ h => hF q h) hF (fun r4 u t H locs ht hvm hw hB _ _ hS => ?_)
    obtain rfl : r4 = q3.1 := hw
    replace hP : va_P (dC, dI) vwCl (wB a k q3.2) H := by rw [← ht]; exact hB.1
    replace hD := hD0 (q3.2)
    clear hB hF
    refine lv_if_eq (tgt := 118) hx hb dX11_number_58 (by decide) (fun hc => ?_) (fun hc => ?_)
    · replace h := ip hc h
      refine lv_aload_n hx hb dX11_number_118 rfl (lv_at hl 0 rfl) ?_
      refine va_get (D := (dC, dI)) (ci := 11) (C := RX11) (T := TX11) (N := 95) hx hb hts inlX11 hown hK hP 0 gB_0 rfl 5 (by decide) (hts (.fieldLink RX11 211 "ShapeReaderModel" "next" "I") mw_29_6) (fun _ h9 => h9) rfl dX11_number_119 ?_
      refine lv_iload_n hx hb dX11_number_122 rfl (lv_at hl 2 rfl) ?_
      refine lv_isub hx hb dX11_number_123 ?_
      refine lv_bipush (v := 18) hx hb dX11_number_124 (by decide) ?_
      refine lv_icmp_gt (tgt := 133) hx hb dX11_number_126 (by decide) (fun hc => ?_) (fun hc => ?_)
      · replace h := ip hc h
        refine lv_iconst (v := 0) hx hb dX11_number_133 (by decide) ?_
        exact b_X11_number_134 hC h _ _ _ hP hD hS (lv_sub hl [0, 1] rfl)
      · replace h := iq hc h
        refine lv_iconst (v := 1) hx hb dX11_number_129 (by decide) ?_
        refine lv_goto (tgt := 134) hx hb dX11_number_130 (by decide) ?_
        exact b_X11_number_134 hC h _ _ _ hP hD hS (lv_sub hl [0, 1] rfl)
    · replace h := iq hc h
      refine lv_aload_n hx hb dX11_number_61 rfl (lv_at hl 0 rfl) ?_
      refine lv_aload_n hx hb dX11_number_62 rfl (lv_at hl 0 rfl) ?_
      refine va_get (D := (dC, dI)) (ci := 11) (C := RX11) (T := TX11) (N := 95) hx hb hts inlX11 hown hK hP 0 gB_0 rfl 5 (by decide) (hts (.fieldLink RX11 211 "ShapeReaderModel" "next" "I") mw_29_6) (fun _ h9 => h9) rfl dX11_number_63 ?_
      refine lv_iload_n hx hb dX11_number_66 rfl (lv_at hl 2 rfl) ?_
      refine lv_isub hx hb dX11_number_67 ?_
      refine lv_bipush (v := 18) hx hb dX11_number_68 (by decide) ?_
      refine lv_icmp_ge (tgt := 98) hx hb dX11_number_70 (by decide) (fun hc => ?_) (fun hc => ?_)
      · replace h := ip hc h
        refine lv_aload_n hx hb dX11_number_98 rfl (lv_at hl 0 rfl) ?_
        refine va_get (D := (dC, dI)) (ci := 11) (C := RX11) (T := TX11) (N := 95) hx hb hts inlX11 hown hK hP 0 gB_0 rfl 9 (by decide) (hts (.fieldLink RX11 226 "ShapeReaderModel" "whole" "J") mw_29_14) (fun _ h9 => h9) rfl dX11_number_99 ?_
        exact b_X11_number_102 hC ih h _ _ _ hP hD hS (lv_sub hl [0, 1, 2] rfl)
      · replace h := iq hc h
        refine lv_ldc2 (v := 10) hx hb hown (hts (.constantLong RX11 232 (10)) mw_29_17) dX11_number_73 ?_
        refine lv_aload_n hx hb dX11_number_76 rfl (lv_at hl 0 rfl) ?_
        refine va_get (D := (dC, dI)) (ci := 11) (C := RX11) (T := TX11) (N := 95) hx hb hts inlX11 hown hK hP 0 gB_0 rfl 9 (by decide) (hts (.fieldLink RX11 226 "ShapeReaderModel" "whole" "J") mw_29_14) (fun _ h9 => h9) rfl dX11_number_77 ?_
        refine lv_lmul hx hb dX11_number_80 ?_
        refine lv_aload_n hx hb dX11_number_81 rfl (lv_at hl 0 rfl) ?_
        refine lv_aload_n hx hb dX11_number_82 rfl (lv_at hl 0 rfl) ?_
        refine va_get (D := (dC, dI)) (ci := 11) (C := RX11) (T := TX11) (N := 95) hx hb hts inlX11 hown hK hP 0 gB_0 rfl 5 (by decide) (hts (.fieldLink RX11 211 "ShapeReaderModel" "next" "I") mw_29_6) (fun _ h9 => h9) rfl dX11_number_83 ?_
        obtain ⟨q5, hc, h⟩ := ib h
        have hF := va_frees hD hS hA
        refine va_calli (va_runV (As := [.int (q3.2.1 0 5)]) (rest := [.long (10 * (q3.2.2.1 0 9)), .ref (a 0)]) ⟨hx, hb, hml, hown, hts⟩ (s_X11_byteAt hc) (cwV 1 hts (gV mw_29_7 mw_29_8 mw_29_9 mw_0_15 mw_53_29) rfl rfl rfl (by decide +kernel) ⟨(Nat.le_of_ble_eq_true rfl), (Nat.le_of_ble_eq_true rfl)⟩) (vV (ci := 11) (q0 := 0) hK hP hD hN rfl gB_0) rfl rfl hl.1 rfl (lv_room (Nat.le_of_ble_eq_true rfl)) dX11_number_86 ⟨(Nat.le_of_ble_eq_true rfl), (Nat.le_of_ble_eq_true rfl)⟩) hS (fun q _ h => hF q h) hF (fun r6 u t H locs ht hvm hw hB _ _ hS => ?_)
        obtain rfl : r6 = q5.1 := hw
        replace hP : va_P (dC, dI) vwCl (wB a k q5.2) H := by rw [← ht]; exact hB.1
        replace hD := hD0 (q5.2)
        clear hB hF
        refine lv_i2l (v := q5.1.toInt64) hx hb dX11_number_89 rfl ?_
        refine lv_ladd hx hb dX11_number_90 ?_
        refine lv_ldc2 (v := 48) hx hb hown (hts (.constantLong RX11 200 (48)) mw_29_2) dX11_number_91 ?_
        refine lv_lsub hx hb dX11_number_94 ?_
        refine lv_goto (tgt := 102) hx hb dX11_number_95 (by decide) ?_
        exact b_X11_number_102 hC ih h _ _ _ hP hD hS (lv_sub hl [0, 1, 2] rfl)

set_option maxRecDepth 100000 in
set_option maxHeartbeats 4000000 in
theorem b_X11_number_33 {p : Program} {l : Launch} {e : Env} {s : State} {m : MethodId} {args : Array Value} {below : List Frame} {meth : Method} {c : Code} {dC : Nat → ClassId} {dI : Nat → Nat → Nat} {a : Nat → Nat} {k : Nat → ClassId} {A : Nat → Prop} {q : ST} (hC : CxB p s m args meth c dC dI k A cX11_number RX11 none 4)   {x1 : Int32} {y0 : Int32} {y1 : Int32} {σ : ST} (h : f_X11_number_33  x1 y0 y1 σ = some q) : GoB p l e ({ frames := 2, cells := 0, slots := 0, locals := 45 } : Room) s m args below meth c (MQ below (qBv dC dI a k A q) args s 0 0 A) dC dI a k A 4 33 σ [(0, .ref (a 0)), (1, .int x1)] [.int y0, .int y1, .ref (a 0)] := by
  have hC0 := hC
  obtain ⟨hx, hb, hr, hml, hown, hts, hlocks, hA, hN, hK⟩ := hC0
  intro H locs ls hP hD hS hl
  have hD0 : ∀ σ1 : ST, va_D A (wB a k σ1) := fun σ1 => wB_D hD
  unfold f_X11_number_33 at h
  refine lv_iadd hx hb dX11_number_33 ?_
  refine va_put (D := (dC, dI)) (ci := 11) (ty := .int) (C := RX11) (T := TX11) (N := 95) hx hb hts inlX11 tyX11 tyX11_ok nmX11 hown hK hP hD hS 0 gB_0 rfl 5 (by decide) (hts (.fieldLink RX11 211 "ShapeReaderModel" "next" "I") mw_29_6) (fun _ h9 => h9) rfl (by decide +kernel) rfl rfl (Nat.le_of_ble_eq_true rfl) dX11_number_34 (fun H locs hP hD hS => ?_)
  replace hP := uB_0_5 hP
  replace hD := hD0 ((stI σ 0 5 (y1 + y0)))
  refine lv_aload_n hx hb dX11_number_37 rfl (lv_at hl 0 rfl) ?_
  refine va_get (D := (dC, dI)) (ci := 11) (C := RX11) (T := TX11) (N := 95) hx hb hts inlX11 hown hK hP 0 gB_0 rfl 5 (by decide) (hts (.fieldLink RX11 211 "ShapeReaderModel" "next" "I") mw_29_6) (fun _ h9 => h9) rfl dX11_number_38 ?_
  refine lv_istore_n (lv' := [(2, .int ((stI σ 0 5 (y1 + y0)).1 0 5)), (0, .ref (a 0)), (1, .int x1)]) hx hb dX11_number_41 rfl hl (by decide) rfl (fun ls hl => ?_)
  refine lv_aload_n hx hb dX11_number_42 rfl (lv_at hl 1 rfl) ?_
  refine lv_lconst (v := 0) hx hb dX11_number_43 (by decide) ?_
  refine va_put (D := (dC, dI)) (ci := 11) (ty := .long) (C := RX11) (T := TX11) (N := 95) hx hb hts inlX11 tyX11 tyX11_ok nmX11 hown hK hP hD hS 0 gB_0 rfl 9 (by decide) (hts (.fieldLink RX11 226 "ShapeReaderModel" "whole" "J") mw_29_14) (fun _ h9 => h9) rfl (by decide +kernel) rfl rfl (Nat.le_of_ble_eq_true rfl) dX11_number_44 (fun H locs hP hD hS => ?_)
  replace hP := uB_0_9 hP
  replace hD := hD0 ((stL (stI σ 0 5 (y1 + y0)) 0 9 0))
  exact b_X11_number_47 hC FU _ _ _ h _ _ _ hP hD hS (lv_sub hl [1, 2, 0] rfl)

set_option maxRecDepth 100000 in
set_option maxHeartbeats 4000000 in
theorem b_X11_number_18 {p : Program} {l : Launch} {e : Env} {s : State} {m : MethodId} {args : Array Value} {below : List Frame} {meth : Method} {c : Code} {dC : Nat → ClassId} {dI : Nat → Nat → Nat} {a : Nat → Nat} {k : Nat → ClassId} {A : Nat → Prop} {q : ST} (hC : CxB p s m args meth c dC dI k A cX11_number RX11 none 4)   {y0 : Int32} {σ : ST} (h : f_X11_number_18  y0 σ = some q) : GoB p l e ({ frames := 2, cells := 0, slots := 0, locals := 45 } : Room) s m args below meth c (MQ below (qBv dC dI a k A q) args s 0 0 A) dC dI a k A 4 18 σ [(0, .ref (a 0))] [.int y0] := by
  have hC0 := hC
  obtain ⟨hx, hb, hr, hml, hown, hts, hlocks, hA, hN, hK⟩ := hC0
  intro H locs ls hP hD hS hl
  have hD0 : ∀ σ1 : ST, va_D A (wB a k σ1) := fun σ1 => wB_D hD
  unfold f_X11_number_18 at h
  refine lv_istore_n (lv' := [(1, .int y0), (0, .ref (a 0))]) hx hb dX11_number_18 rfl hl (by decide) rfl (fun ls hl => ?_)
  refine lv_aload_n hx hb dX11_number_19 rfl (lv_at hl 1 rfl) ?_
  refine lv_dup hx hb dX11_number_20 rfl ?_
  refine va_get (D := (dC, dI)) (ci := 11) (C := RX11) (T := TX11) (N := 95) hx hb hts inlX11 hown hK hP 0 gB_0 rfl 5 (by decide) (hts (.fieldLink RX11 211 "ShapeReaderModel" "next" "I") mw_29_6) (fun _ h9 => h9) rfl dX11_number_21 ?_
  refine lv_iload_n hx hb dX11_number_24 rfl (lv_at hl 0 rfl) ?_
  refine lv_if_eq (tgt := 32) hx hb dX11_number_25 (by decide) (fun hc => ?_) (fun hc => ?_)
  · replace h := ip hc h
    refine lv_iconst (v := 0) hx hb dX11_number_32 (by decide) ?_
    exact b_X11_number_33 hC h _ _ _ hP hD hS (lv_sub hl [1, 0] rfl)
  · replace h := iq hc h
    refine lv_iconst (v := 1) hx hb dX11_number_28 (by decide) ?_
    refine lv_goto (tgt := 33) hx hb dX11_number_29 (by decide) ?_
    exact b_X11_number_33 hC h _ _ _ hP hD hS (lv_sub hl [1, 0] rfl)

set_option maxRecDepth 100000 in
set_option maxHeartbeats 4000000 in
theorem b_X11_number_e {p : Program} {l : Launch} {e : Env} {s : State} {m : MethodId} {args : Array Value} {below : List Frame} {meth : Method} {c : Code} {dC : Nat → ClassId} {dI : Nat → Nat → Nat} {a : Nat → Nat} {k : Nat → ClassId} {A : Nat → Prop} {q : ST} (hC : CxB p s m args meth c dC dI k A cX11_number RX11 none 4)    {σ : ST} (h : f_X11_number   σ = some q) : GoB p l e ({ frames := 2, cells := 0, slots := 0, locals := 45 } : Room) s m args below meth c (MQ below (qBv dC dI a k A q) args s 0 0 A) dC dI a k A 4 0 σ (lv_args 0 [.ref (a 0)]) [] := by
  have hC0 := hC
  obtain ⟨hx, hb, hr, hml, hown, hts, hlocks, hA, hN, hK⟩ := hC0
  intro H locs ls hP hD hS hl
  have hD0 : ∀ σ1 : ST, va_D A (wB a k σ1) := fun σ1 => wB_D hD
  replace hl : lv_has ls 4 [(0, .ref (a 0))] := hl
  unfold f_X11_number at h
  refine lv_aload_n hx hb dX11_number_0 rfl (lv_at hl 0 rfl) ?_
  refine lv_aload_n hx hb dX11_number_1 rfl (lv_at hl 0 rfl) ?_
  refine va_get (D := (dC, dI)) (ci := 11) (C := RX11) (T := TX11) (N := 95) hx hb hts inlX11 hown hK hP 0 gB_0 rfl 5 (by decide) (hts (.fieldLink RX11 211 "ShapeReaderModel" "next" "I") mw_29_6) (fun _ h9 => h9) rfl dX11_number_2 ?_
  obtain ⟨q1, hc, h⟩ := ib h
  have hF := va_frees hD hS hA
  refine va_calli (va_runV (As := [.int (σ.1 0 5)]) (rest := []) ⟨hx, hb, hml, hown, hts⟩ (s_X11_byteAt hc) (cwV 1 hts (gV mw_29_7 mw_29_8 mw_29_9 mw_0_15 mw_53_29) rfl rfl rfl (by decide +kernel) ⟨(Nat.le_of_ble_eq_true rfl), (Nat.le_of_ble_eq_true rfl)⟩) (vV (ci := 11) (q0 := 0) hK hP hD hN rfl gB_0) rfl rfl hl.1 rfl (lv_room (Nat.le_of_ble_eq_true rfl)) dX11_number_5 ⟨(Nat.le_of_ble_eq_true rfl), (Nat.le_of_ble_eq_true rfl)⟩) hS (fun q _ h => hF q h) hF (fun r2 u t H locs ht hvm hw hB _ _ hS => ?_)
  obtain rfl : r2 = q1.1 := hw
  replace hP : va_P (dC, dI) vwCl (wB a k q1.2) H := by rw [← ht]; exact hB.1
  replace hD := hD0 (q1.2)
  clear hB hF
  refine lv_bipush (v := 45) hx hb dX11_number_8 (by decide) ?_
  refine lv_icmp_ne (tgt := 17) hx hb dX11_number_10 (by decide) (fun hc => ?_) (fun hc => ?_)
  · replace h := iq hc h
    refine lv_iconst (v := 0) hx hb dX11_number_17 (by decide) ?_
    exact b_X11_number_18 hC h _ _ _ hP hD hS (lv_sub hl [0] rfl)
  · replace h := ip hc h
    refine lv_iconst (v := 1) hx hb dX11_number_13 (by decide) ?_
    refine lv_goto (tgt := 18) hx hb dX11_number_14 (by decide) ?_
    exact b_X11_number_18 hC h _ _ _ hP hD hS (lv_sub hl [0] rfl)

theorem s_X11_number {l : Launch} {dC : Nat → ClassId} {dI : Nat → Nat → Nat} {a : Nat → Nat} {k : Nat → ClassId} {sz : Nat}  {σ : ST} {q : ST} (h : f_X11_number   σ = some q) : Met l yX11_number (.code yX11_number cX11_number 4 none :: pw) ({ frames := 2, cells := 0, slots := 0, locals := 45 } : Room) (va_Pc [.ref (a 0)] (vPre dC dI (wB a k σ) (tB k) sz)) (qBv dC dI a k (va_A (wB a k σ) sz) q) 0 0 (va_A (wB a k σ) sz) := metB (fun A => qBv dC dI a k A q) (plainFor_of_name (by decide)) (Nat.le_of_ble_eq_true rfl) (fun _ _ _ _ _ _ _ _ hC => b_X11_number_e hC h)

def f_X11_word_62 (k10 : Int32 → ST → Option (ST)) (x1 : Int32) (y0 : Int64) (σ : ST) : Option (ST) := (some (stI (stI (stL σ 0 7 y0) 0 8 (((stL σ 0 7 y0).1 0 8) + 1)) 0 5 (((stI (stL σ 0 7 y0) 0 8 (((stL σ 0 7 y0).1 0 8) + 1)).1 0 5) + 1))).bind fun z1 => k10 x1 z1
def f_X11_word_10  : Nat → Int32 → ST → Option (ST)
  | 0, _, _ => none
  | n + 1, x1, σ => (f_X11_byteAt  (σ.1 0 5) σ).bind fun q1 => (f_X11_isLetter  q1.1 q1.2).bind fun q3 => if q3.1 = 0 then (some q3.2) else (if x1 ≤ (q3.2.1 0 8) then (f_X11_word_62 (f_X11_word_10  n) x1 (q3.2.2.1 0 7) q3.2) else ((f_X11_byteAt  (q3.2.1 0 5) q3.2).bind fun q5 => f_X11_word_62 (f_X11_word_10  n) x1 (((27 * (q3.2.2.1 0 7)) + (q5.1.toInt64)) - 96) q5.2))
def f_X11_word (p0 : Int32) (σ : ST) : Option (ST) := f_X11_word_10  FU p0 (stI (stL σ 0 7 0) 0 8 0)

set_option maxRecDepth 100000 in
set_option maxHeartbeats 4000000 in
theorem b_X11_word_62 {p : Program} {l : Launch} {e : Env} {s : State} {m : MethodId} {args : Array Value} {below : List Frame} {meth : Method} {c : Code} {dC : Nat → ClassId} {dI : Nat → Nat → Nat} {a : Nat → Nat} {k : Nat → ClassId} {A : Nat → Prop} {q : ST} (hC : CxB p s m args meth c dC dI k A cX11_word RX11 none 2)  {k10 : Int32 → ST → Option (ST)} (hk10 : ∀ (x1 : Int32) (σ : ST), k10 x1 σ = some q → GoB p l e ({ frames := 2, cells := 0, slots := 0, locals := 45 } : Room) s m args below meth c (MQ below (qBv dC dI a k A q) args s 0 0 A) dC dI a k A 2 10 σ [(0, .ref (a 0)), (1, .int x1)] []) {x1 : Int32} {y0 : Int64} {σ : ST} (h : f_X11_word_62 k10 x1 y0 σ = some q) : GoB p l e ({ frames := 2, cells := 0, slots := 0, locals := 45 } : Room) s m args below meth c (MQ below (qBv dC dI a k A q) args s 0 0 A) dC dI a k A 2 62 σ [(0, .ref (a 0)), (1, .int x1)] [.long y0, .ref (a 0)] := by
  have hC0 := hC
  obtain ⟨hx, hb, hr, hml, hown, hts, hlocks, hA, hN, hK⟩ := hC0
  intro H locs ls hP hD hS hl
  have hD0 : ∀ σ1 : ST, va_D A (wB a k σ1) := fun σ1 => wB_D hD
  unfold f_X11_word_62 at h
  refine va_put (D := (dC, dI)) (ci := 11) (ty := .long) (C := RX11) (T := TX11) (N := 95) hx hb hts inlX11 tyX11 tyX11_ok nmX11 hown hK hP hD hS 0 gB_0 rfl 7 (by decide) (hts (.fieldLink RX11 204 "ShapeReaderModel" "letters" "J") mw_29_4) (fun _ h9 => h9) rfl (by decide +kernel) rfl rfl (Nat.le_of_ble_eq_true rfl) dX11_word_62 (fun H locs hP hD hS => ?_)
  replace hP := uB_0_7 hP
  replace hD := hD0 ((stL σ 0 7 y0))
  refine lv_aload_n hx hb dX11_word_65 rfl (lv_at hl 0 rfl) ?_
  refine lv_dup hx hb dX11_word_66 rfl ?_
  refine va_get (D := (dC, dI)) (ci := 11) (C := RX11) (T := TX11) (N := 95) hx hb hts inlX11 hown hK hP 0 gB_0 rfl 8 (by decide) (hts (.fieldLink RX11 208 "ShapeReaderModel" "letterMany" "I") mw_29_5) (fun _ h9 => h9) rfl dX11_word_67 ?_
  refine lv_iconst (v := 1) hx hb dX11_word_70 (by decide) ?_
  refine lv_iadd hx hb dX11_word_71 ?_
  refine va_put (D := (dC, dI)) (ci := 11) (ty := .int) (C := RX11) (T := TX11) (N := 95) hx hb hts inlX11 tyX11 tyX11_ok nmX11 hown hK hP hD hS 0 gB_0 rfl 8 (by decide) (hts (.fieldLink RX11 208 "ShapeReaderModel" "letterMany" "I") mw_29_5) (fun _ h9 => h9) rfl (by decide +kernel) rfl rfl (Nat.le_of_ble_eq_true rfl) dX11_word_72 (fun H locs hP hD hS => ?_)
  replace hP := uB_0_8 hP
  replace hD := hD0 ((stI (stL σ 0 7 y0) 0 8 (((stL σ 0 7 y0).1 0 8) + 1)))
  refine lv_aload_n hx hb dX11_word_75 rfl (lv_at hl 0 rfl) ?_
  refine lv_dup hx hb dX11_word_76 rfl ?_
  refine va_get (D := (dC, dI)) (ci := 11) (C := RX11) (T := TX11) (N := 95) hx hb hts inlX11 hown hK hP 0 gB_0 rfl 5 (by decide) (hts (.fieldLink RX11 211 "ShapeReaderModel" "next" "I") mw_29_6) (fun _ h9 => h9) rfl dX11_word_77 ?_
  refine lv_iconst (v := 1) hx hb dX11_word_80 (by decide) ?_
  refine lv_iadd hx hb dX11_word_81 ?_
  refine va_put (D := (dC, dI)) (ci := 11) (ty := .int) (C := RX11) (T := TX11) (N := 95) hx hb hts inlX11 tyX11 tyX11_ok nmX11 hown hK hP hD hS 0 gB_0 rfl 5 (by decide) (hts (.fieldLink RX11 211 "ShapeReaderModel" "next" "I") mw_29_6) (fun _ h9 => h9) rfl (by decide +kernel) rfl rfl (Nat.le_of_ble_eq_true rfl) dX11_word_82 (fun H locs hP hD hS => ?_)
  replace hP := uB_0_5 hP
  replace hD := hD0 ((stI (stI (stL σ 0 7 y0) 0 8 (((stL σ 0 7 y0).1 0 8) + 1)) 0 5 (((stI (stL σ 0 7 y0) 0 8 (((stL σ 0 7 y0).1 0 8) + 1)).1 0 5) + 1)))
  obtain ⟨z1, hs, h⟩ := ib h
  replace hs := Option.some.inj hs
  replace hP : va_P (dC, dI) vwCl (wB a k z1) H := by rw [← hs]; exact hP
  replace hD := hD0 z1
  clear hs
  refine lv_goto (tgt := 10) hx hb dX11_word_85 (by decide) ?_
  exact hk10 _ _ h _ _ _ hP hD hS (lv_sub hl [0, 1] rfl)

set_option maxRecDepth 100000 in
set_option maxHeartbeats 4000000 in
theorem b_X11_word_10 {p : Program} {l : Launch} {e : Env} {s : State} {m : MethodId} {args : Array Value} {below : List Frame} {meth : Method} {c : Code} {dC : Nat → ClassId} {dI : Nat → Nat → Nat} {a : Nat → Nat} {k : Nat → ClassId} {A : Nat → Prop} {q : ST} (hC : CxB p s m args meth c dC dI k A cX11_word RX11 none 2)   : ∀ (n : Nat) (x1 : Int32) (σ : ST), f_X11_word_10  n x1 σ = some q → GoB p l e ({ frames := 2, cells := 0, slots := 0, locals := 45 } : Room) s m args below meth c (MQ below (qBv dC dI a k A q) args s 0 0 A) dC dI a k A 2 10 σ [(0, .ref (a 0)), (1, .int x1)] [] := by
  intro n
  induction n with
  | zero =>
    intro x1 σ h
    rw [f_X11_word_10] at h
    cases h
  | succ n ih =>
    intro x1 σ h
    have hC0 := hC
    obtain ⟨hx, hb, hr, hml, hown, hts, hlocks, hA, hN, hK⟩ := hC0
    intro H locs ls hP hD hS hl
    have hD0 : ∀ σ1 : ST, va_D A (wB a k σ1) := fun σ1 => wB_D hD
    rw [f_X11_word_10] at h
    refine lv_aload_n hx hb dX11_word_10 rfl (lv_at hl 0 rfl) ?_
    refine lv_aload_n hx hb dX11_word_11 rfl (lv_at hl 0 rfl) ?_
    refine va_get (D := (dC, dI)) (ci := 11) (C := RX11) (T := TX11) (N := 95) hx hb hts inlX11 hown hK hP 0 gB_0 rfl 5 (by decide) (hts (.fieldLink RX11 211 "ShapeReaderModel" "next" "I") mw_29_6) (fun _ h9 => h9) rfl dX11_word_12 ?_
    obtain ⟨q1, hc, h⟩ := ib h
    have hF := va_frees hD hS hA
    refine va_calli (va_runV (As := [.int (σ.1 0 5)]) (rest := []) ⟨hx, hb, hml, hown, hts⟩ (s_X11_byteAt hc) (cwV 1 hts (gV mw_29_7 mw_29_8 mw_29_9 mw_0_15 mw_53_29) rfl rfl rfl (by decide +kernel) ⟨(Nat.le_of_ble_eq_true rfl), (Nat.le_of_ble_eq_true rfl)⟩) (vV (ci := 11) (q0 := 0) hK hP hD hN rfl gB_0) rfl rfl hl.1 rfl (lv_room (Nat.le_of_ble_eq_true rfl)) dX11_word_15 ⟨(Nat.le_of_ble_eq_true rfl), (Nat.le_of_ble_eq_true rfl)⟩) hS (fun q _ h => hF q h) hF (fun r2 u t H locs ht hvm hw hB _ _ hS => ?_)
    obtain rfl : r2 = q1.1 := hw
    replace hP : va_P (dC, dI) vwCl (wB a k q1.2) H := by rw [← ht]; exact hB.1
    replace hD := hD0 (q1.2)
    clear hB hF
    obtain ⟨q3, hc, h⟩ := ib h
    have hF := va_frees hD hS hA
    refine va_calli (va_runS (As := [.int q1.1]) (rest := []) ⟨hx, hb, hml, hown, hts⟩ (s_X11_isLetter hc) (va_cwS 1 hts (gS mw_29_10 mw_29_11 mw_0_15 mw_54_0) rfl rfl rfl (by decide +kernel) ⟨(Nat.le_of_ble_eq_true rfl), (Nat.le_of_ble_eq_true rfl)⟩) (vS hK hP hD hN) rfl rfl hl.1 rfl (lv_room (Nat.le_of_ble_eq_true rfl)) dX11_word_18 ⟨(Nat.le_of_ble_eq_true rfl), (Nat.le_of_ble_eq_true rfl)⟩) hS (fun q _ h => hF q h) hF (fun r4 u t H locs ht hvm hw hB _ _ hS => ?_)
    obtain rfl : r4 = q3.1 := hw
    replace hP : va_P (dC, dI) vwCl (wB a k q3.2) H := by rw [← ht]; exact hB.1
    replace hD := hD0 (q3.2)
    clear hB hF
    refine lv_if_eq (tgt := 88) hx hb dX11_word_21 (by decide) (fun hc => ?_) (fun hc => ?_)
    · replace h := ip hc h
      obtain rfl := Option.some.inj h
      exact W.vret hx hb hr (fun t ht hW => ⟨⟨(), rfl, trivial, ⟨by rw [ht]; exact hP, va_K.moved hW.alike hK, hD⟩⟩, hS.F ht⟩) hS.2.2 dX11_word_88
    · replace h := iq hc h
      refine lv_aload_n hx hb dX11_word_24 rfl (lv_at hl 0 rfl) ?_
      refine lv_aload_n hx hb dX11_word_25 rfl (lv_at hl 0 rfl) ?_
      refine va_get (D := (dC, dI)) (ci := 11) (C := RX11) (T := TX11) (N := 95) hx hb hts inlX11 hown hK hP 0 gB_0 rfl 8 (by decide) (hts (.fieldLink RX11 208 "ShapeReaderModel" "letterMany" "I") mw_29_5) (fun _ h9 => h9) rfl dX11_word_26 ?_
      refine lv_iload_n hx hb dX11_word_29 rfl (lv_at hl 1 rfl) ?_
      refine lv_icmp_ge (tgt := 58) hx hb dX11_word_30 (by decide) (fun hc => ?_) (fun hc => ?_)
      · replace h := ip hc h
        refine lv_aload_n hx hb dX11_word_58 rfl (lv_at hl 0 rfl) ?_
        refine va_get (D := (dC, dI)) (ci := 11) (C := RX11) (T := TX11) (N := 95) hx hb hts inlX11 hown hK hP 0 gB_0 rfl 7 (by decide) (hts (.fieldLink RX11 204 "ShapeReaderModel" "letters" "J") mw_29_4) (fun _ h9 => h9) rfl dX11_word_59 ?_
        exact b_X11_word_62 hC ih h _ _ _ hP hD hS (lv_sub hl [0, 1] rfl)
      · replace h := iq hc h
        refine lv_ldc2 (v := 27) hx hb hown (hts (.constantLong RX11 222 (27)) mw_29_12) dX11_word_33 ?_
        refine lv_aload_n hx hb dX11_word_36 rfl (lv_at hl 0 rfl) ?_
        refine va_get (D := (dC, dI)) (ci := 11) (C := RX11) (T := TX11) (N := 95) hx hb hts inlX11 hown hK hP 0 gB_0 rfl 7 (by decide) (hts (.fieldLink RX11 204 "ShapeReaderModel" "letters" "J") mw_29_4) (fun _ h9 => h9) rfl dX11_word_37 ?_
        refine lv_lmul hx hb dX11_word_40 ?_
        refine lv_aload_n hx hb dX11_word_41 rfl (lv_at hl 0 rfl) ?_
        refine lv_aload_n hx hb dX11_word_42 rfl (lv_at hl 0 rfl) ?_
        refine va_get (D := (dC, dI)) (ci := 11) (C := RX11) (T := TX11) (N := 95) hx hb hts inlX11 hown hK hP 0 gB_0 rfl 5 (by decide) (hts (.fieldLink RX11 211 "ShapeReaderModel" "next" "I") mw_29_6) (fun _ h9 => h9) rfl dX11_word_43 ?_
        obtain ⟨q5, hc, h⟩ := ib h
        have hF := va_frees hD hS hA
        refine va_calli (va_runV (As := [.int (q3.2.1 0 5)]) (rest := [.long (27 * (q3.2.2.1 0 7)), .ref (a 0)]) ⟨hx, hb, hml, hown, hts⟩ (s_X11_byteAt hc) (cwV 1 hts (gV mw_29_7 mw_29_8 mw_29_9 mw_0_15 mw_53_29) rfl rfl rfl (by decide +kernel) ⟨(Nat.le_of_ble_eq_true rfl), (Nat.le_of_ble_eq_true rfl)⟩) (vV (ci := 11) (q0 := 0) hK hP hD hN rfl gB_0) rfl rfl hl.1 rfl (lv_room (Nat.le_of_ble_eq_true rfl)) dX11_word_46 ⟨(Nat.le_of_ble_eq_true rfl), (Nat.le_of_ble_eq_true rfl)⟩) hS (fun q _ h => hF q h) hF (fun r6 u t H locs ht hvm hw hB _ _ hS => ?_)
        obtain rfl : r6 = q5.1 := hw
        replace hP : va_P (dC, dI) vwCl (wB a k q5.2) H := by rw [← ht]; exact hB.1
        replace hD := hD0 (q5.2)
        clear hB hF
        refine lv_i2l (v := q5.1.toInt64) hx hb dX11_word_49 rfl ?_
        refine lv_ladd hx hb dX11_word_50 ?_
        refine lv_ldc2 (v := 96) hx hb hown (hts (.constantLong RX11 224 (96)) mw_29_13) dX11_word_51 ?_
        refine lv_lsub hx hb dX11_word_54 ?_
        refine lv_goto (tgt := 62) hx hb dX11_word_55 (by decide) ?_
        exact b_X11_word_62 hC ih h _ _ _ hP hD hS (lv_sub hl [0, 1] rfl)

set_option maxRecDepth 100000 in
set_option maxHeartbeats 4000000 in
theorem b_X11_word_e {p : Program} {l : Launch} {e : Env} {s : State} {m : MethodId} {args : Array Value} {below : List Frame} {meth : Method} {c : Code} {dC : Nat → ClassId} {dI : Nat → Nat → Nat} {a : Nat → Nat} {k : Nat → ClassId} {A : Nat → Prop} {q : ST} (hC : CxB p s m args meth c dC dI k A cX11_word RX11 none 2)   {p0 : Int32} {σ : ST} (h : f_X11_word  p0 σ = some q) : GoB p l e ({ frames := 2, cells := 0, slots := 0, locals := 45 } : Room) s m args below meth c (MQ below (qBv dC dI a k A q) args s 0 0 A) dC dI a k A 2 0 σ (lv_args 0 [.ref (a 0), .int p0]) [] := by
  have hC0 := hC
  obtain ⟨hx, hb, hr, hml, hown, hts, hlocks, hA, hN, hK⟩ := hC0
  intro H locs ls hP hD hS hl
  have hD0 : ∀ σ1 : ST, va_D A (wB a k σ1) := fun σ1 => wB_D hD
  replace hl : lv_has ls 2 [(0, .ref (a 0)), (1, .int p0)] := hl
  unfold f_X11_word at h
  refine lv_aload_n hx hb dX11_word_0 rfl (lv_at hl 0 rfl) ?_
  refine lv_lconst (v := 0) hx hb dX11_word_1 (by decide) ?_
  refine va_put (D := (dC, dI)) (ci := 11) (ty := .long) (C := RX11) (T := TX11) (N := 95) hx hb hts inlX11 tyX11 tyX11_ok nmX11 hown hK hP hD hS 0 gB_0 rfl 7 (by decide) (hts (.fieldLink RX11 204 "ShapeReaderModel" "letters" "J") mw_29_4) (fun _ h9 => h9) rfl (by decide +kernel) rfl rfl (Nat.le_of_ble_eq_true rfl) dX11_word_2 (fun H locs hP hD hS => ?_)
  replace hP := uB_0_7 hP
  replace hD := hD0 ((stL σ 0 7 0))
  refine lv_aload_n hx hb dX11_word_5 rfl (lv_at hl 0 rfl) ?_
  refine lv_iconst (v := 0) hx hb dX11_word_6 (by decide) ?_
  refine va_put (D := (dC, dI)) (ci := 11) (ty := .int) (C := RX11) (T := TX11) (N := 95) hx hb hts inlX11 tyX11 tyX11_ok nmX11 hown hK hP hD hS 0 gB_0 rfl 8 (by decide) (hts (.fieldLink RX11 208 "ShapeReaderModel" "letterMany" "I") mw_29_5) (fun _ h9 => h9) rfl (by decide +kernel) rfl rfl (Nat.le_of_ble_eq_true rfl) dX11_word_7 (fun H locs hP hD hS => ?_)
  replace hP := uB_0_8 hP
  replace hD := hD0 ((stI (stL σ 0 7 0) 0 8 0))
  exact b_X11_word_10 hC FU _ _ h _ _ _ hP hD hS (lv_sub hl [0, 1] rfl)

theorem s_X11_word {l : Launch} {dC : Nat → ClassId} {dI : Nat → Nat → Nat} {a : Nat → Nat} {k : Nat → ClassId} {sz : Nat} {p0 : Int32} {σ : ST} {q : ST} (h : f_X11_word  p0 σ = some q) : Met l yX11_word (.code yX11_word cX11_word 2 none :: pw) ({ frames := 2, cells := 0, slots := 0, locals := 45 } : Room) (va_Pc [.ref (a 0), .int p0] (vPre dC dI (wB a k σ) (tB k) sz)) (qBv dC dI a k (va_A (wB a k σ) sz) q) 0 0 (va_A (wB a k σ) sz) := metB (fun A => qBv dC dI a k A q) (plainFor_of_name (by decide)) (Nat.le_of_ble_eq_true rfl) (fun _ _ _ _ _ _ _ _ hC => b_X11_word_e hC h)

def f_X11_quoted_64 (y0 : Int32) (σ : ST) : Option (ST) := some (stI σ 0 6 y0)
def f_X11_quoted_43 (y0 : Int32) (σ : ST) : Option (ST) := if y0 = 0 then (f_X11_quoted_64  5 (stI σ 0 5 ((σ.1 0 5) + 1))) else (f_X11_quoted_64  3 (stI σ 0 5 ((σ.1 0 5) + 1)))
def f_X11_quoted_42 (σ : ST) : Option (ST) := f_X11_quoted_43  0 σ
def f_X11_quoted (σ : ST) : Option (ST) := (f_X11_word  12 (stI σ 0 5 ((σ.1 0 5) + 1))).bind fun q1 => if 12 < (q1.1 0 8) then (f_X11_quoted_42   q1) else ((f_X11_byteAt  (q1.1 0 5) q1).bind fun q3 => if q3.1 = 34 then (f_X11_quoted_43  1 q3.2) else (f_X11_quoted_42   q3.2))

set_option maxRecDepth 100000 in
set_option maxHeartbeats 4000000 in
theorem b_X11_quoted_64 {p : Program} {l : Launch} {e : Env} {s : State} {m : MethodId} {args : Array Value} {below : List Frame} {meth : Method} {c : Code} {dC : Nat → ClassId} {dI : Nat → Nat → Nat} {a : Nat → Nat} {k : Nat → ClassId} {A : Nat → Prop} {q : ST} (hC : CxB p s m args meth c dC dI k A cX11_quoted RX11 none 2)   {y0 : Int32} {σ : ST} (h : f_X11_quoted_64  y0 σ = some q) : GoB p l e ({ frames := 3, cells := 0, slots := 0, locals := 66 } : Room) s m args below meth c (MQ below (qBv dC dI a k A q) args s 0 0 A) dC dI a k A 2 64 σ [] [.int y0, .ref (a 0)] := by
  have hC0 := hC
  obtain ⟨hx, hb, hr, hml, hown, hts, hlocks, hA, hN, hK⟩ := hC0
  intro H locs ls hP hD hS hl
  have hD0 : ∀ σ1 : ST, va_D A (wB a k σ1) := fun σ1 => wB_D hD
  unfold f_X11_quoted_64 at h
  refine va_put (D := (dC, dI)) (ci := 11) (ty := .int) (C := RX11) (T := TX11) (N := 95) hx hb hts inlX11 tyX11 tyX11_ok nmX11 hown hK hP hD hS 0 gB_0 rfl 6 (by decide) (hts (.fieldLink RX11 244 "ShapeReaderModel" "token" "I") mw_29_21) (fun _ h9 => h9) rfl (by decide +kernel) rfl rfl (Nat.le_of_ble_eq_true rfl) dX11_quoted_64 (fun H locs hP hD hS => ?_)
  replace hP := uB_0_6 hP
  replace hD := hD0 ((stI σ 0 6 y0))
  obtain rfl := Option.some.inj h
  exact W.vret hx hb hr (fun t ht hW => ⟨⟨(), rfl, trivial, ⟨by rw [ht]; exact hP, va_K.moved hW.alike hK, hD⟩⟩, hS.F ht⟩) hS.2.2 dX11_quoted_67

set_option maxRecDepth 100000 in
set_option maxHeartbeats 4000000 in
theorem b_X11_quoted_43 {p : Program} {l : Launch} {e : Env} {s : State} {m : MethodId} {args : Array Value} {below : List Frame} {meth : Method} {c : Code} {dC : Nat → ClassId} {dI : Nat → Nat → Nat} {a : Nat → Nat} {k : Nat → ClassId} {A : Nat → Prop} {q : ST} (hC : CxB p s m args meth c dC dI k A cX11_quoted RX11 none 2)   {y0 : Int32} {σ : ST} (h : f_X11_quoted_43  y0 σ = some q) : GoB p l e ({ frames := 3, cells := 0, slots := 0, locals := 66 } : Room) s m args below meth c (MQ below (qBv dC dI a k A q) args s 0 0 A) dC dI a k A 2 43 σ [(0, .ref (a 0))] [.int y0] := by
  have hC0 := hC
  obtain ⟨hx, hb, hr, hml, hown, hts, hlocks, hA, hN, hK⟩ := hC0
  intro H locs ls hP hD hS hl
  have hD0 : ∀ σ1 : ST, va_D A (wB a k σ1) := fun σ1 => wB_D hD
  unfold f_X11_quoted_43 at h
  refine lv_istore_n (lv' := [(1, .int y0), (0, .ref (a 0))]) hx hb dX11_quoted_43 rfl hl (by decide) rfl (fun ls hl => ?_)
  refine lv_aload_n hx hb dX11_quoted_44 rfl (lv_at hl 1 rfl) ?_
  refine lv_dup hx hb dX11_quoted_45 rfl ?_
  refine va_get (D := (dC, dI)) (ci := 11) (C := RX11) (T := TX11) (N := 95) hx hb hts inlX11 hown hK hP 0 gB_0 rfl 5 (by decide) (hts (.fieldLink RX11 211 "ShapeReaderModel" "next" "I") mw_29_6) (fun _ h9 => h9) rfl dX11_quoted_46 ?_
  refine lv_iconst (v := 1) hx hb dX11_quoted_49 (by decide) ?_
  refine lv_iadd hx hb dX11_quoted_50 ?_
  refine va_put (D := (dC, dI)) (ci := 11) (ty := .int) (C := RX11) (T := TX11) (N := 95) hx hb hts inlX11 tyX11 tyX11_ok nmX11 hown hK hP hD hS 0 gB_0 rfl 5 (by decide) (hts (.fieldLink RX11 211 "ShapeReaderModel" "next" "I") mw_29_6) (fun _ h9 => h9) rfl (by decide +kernel) rfl rfl (Nat.le_of_ble_eq_true rfl) dX11_quoted_51 (fun H locs hP hD hS => ?_)
  replace hP := uB_0_5 hP
  replace hD := hD0 ((stI σ 0 5 ((σ.1 0 5) + 1)))
  refine lv_aload_n hx hb dX11_quoted_54 rfl (lv_at hl 1 rfl) ?_
  refine lv_iload_n hx hb dX11_quoted_55 rfl (lv_at hl 0 rfl) ?_
  refine lv_if_eq (tgt := 63) hx hb dX11_quoted_56 (by decide) (fun hc => ?_) (fun hc => ?_)
  · replace h := ip hc h
    refine lv_iconst (v := 5) hx hb dX11_quoted_63 (by decide) ?_
    exact b_X11_quoted_64 hC h _ _ _ hP hD hS (lv_sub hl [] rfl)
  · replace h := iq hc h
    refine lv_iconst (v := 3) hx hb dX11_quoted_59 (by decide) ?_
    refine lv_goto (tgt := 64) hx hb dX11_quoted_60 (by decide) ?_
    exact b_X11_quoted_64 hC h _ _ _ hP hD hS (lv_sub hl [] rfl)

set_option maxRecDepth 100000 in
set_option maxHeartbeats 4000000 in
theorem b_X11_quoted_42 {p : Program} {l : Launch} {e : Env} {s : State} {m : MethodId} {args : Array Value} {below : List Frame} {meth : Method} {c : Code} {dC : Nat → ClassId} {dI : Nat → Nat → Nat} {a : Nat → Nat} {k : Nat → ClassId} {A : Nat → Prop} {q : ST} (hC : CxB p s m args meth c dC dI k A cX11_quoted RX11 none 2)    {σ : ST} (h : f_X11_quoted_42   σ = some q) : GoB p l e ({ frames := 3, cells := 0, slots := 0, locals := 66 } : Room) s m args below meth c (MQ below (qBv dC dI a k A q) args s 0 0 A) dC dI a k A 2 42 σ [(0, .ref (a 0))] [] := by
  have hC0 := hC
  obtain ⟨hx, hb, hr, hml, hown, hts, hlocks, hA, hN, hK⟩ := hC0
  intro H locs ls hP hD hS hl
  have hD0 : ∀ σ1 : ST, va_D A (wB a k σ1) := fun σ1 => wB_D hD
  unfold f_X11_quoted_42 at h
  refine lv_iconst (v := 0) hx hb dX11_quoted_42 (by decide) ?_
  exact b_X11_quoted_43 hC h _ _ _ hP hD hS (lv_sub hl [0] rfl)

set_option maxRecDepth 100000 in
set_option maxHeartbeats 4000000 in
theorem b_X11_quoted_e {p : Program} {l : Launch} {e : Env} {s : State} {m : MethodId} {args : Array Value} {below : List Frame} {meth : Method} {c : Code} {dC : Nat → ClassId} {dI : Nat → Nat → Nat} {a : Nat → Nat} {k : Nat → ClassId} {A : Nat → Prop} {q : ST} (hC : CxB p s m args meth c dC dI k A cX11_quoted RX11 none 2)    {σ : ST} (h : f_X11_quoted   σ = some q) : GoB p l e ({ frames := 3, cells := 0, slots := 0, locals := 66 } : Room) s m args below meth c (MQ below (qBv dC dI a k A q) args s 0 0 A) dC dI a k A 2 0 σ (lv_args 0 [.ref (a 0)]) [] := by
  have hC0 := hC
  obtain ⟨hx, hb, hr, hml, hown, hts, hlocks, hA, hN, hK⟩ := hC0
  intro H locs ls hP hD hS hl
  have hD0 : ∀ σ1 : ST, va_D A (wB a k σ1) := fun σ1 => wB_D hD
  replace hl : lv_has ls 2 [(0, .ref (a 0))] := hl
  unfold f_X11_quoted at h
  refine lv_aload_n hx hb dX11_quoted_0 rfl (lv_at hl 0 rfl) ?_
  refine lv_dup hx hb dX11_quoted_1 rfl ?_
  refine va_get (D := (dC, dI)) (ci := 11) (C := RX11) (T := TX11) (N := 95) hx hb hts inlX11 hown hK hP 0 gB_0 rfl 5 (by decide) (hts (.fieldLink RX11 211 "ShapeReaderModel" "next" "I") mw_29_6) (fun _ h9 => h9) rfl dX11_quoted_2 ?_
  refine lv_iconst (v := 1) hx hb dX11_quoted_5 (by decide) ?_
  refine lv_iadd hx hb dX11_quoted_6 ?_
  refine va_put (D := (dC, dI)) (ci := 11) (ty := .int) (C := RX11) (T := TX11) (N := 95) hx hb hts inlX11 tyX11 tyX11_ok nmX11 hown hK hP hD hS 0 gB_0 rfl 5 (by decide) (hts (.fieldLink RX11 211 "ShapeReaderModel" "next" "I") mw_29_6) (fun _ h9 => h9) rfl (by decide +kernel) rfl rfl (Nat.le_of_ble_eq_true rfl) dX11_quoted_7 (fun H locs hP hD hS => ?_)
  replace hP := uB_0_5 hP
  replace hD := hD0 ((stI σ 0 5 ((σ.1 0 5) + 1)))
  refine lv_aload_n hx hb dX11_quoted_10 rfl (lv_at hl 0 rfl) ?_
  refine lv_bipush (v := 12) hx hb dX11_quoted_11 (by decide) ?_
  obtain ⟨q1, hc, h⟩ := ib h
  have hF := va_frees hD hS hA
  refine va_callv (va_runV (As := [.int 12]) (rest := []) ⟨hx, hb, hml, hown, hts⟩ (s_X11_word hc) (cwV 1 hts (gV mw_29_22 mw_29_23 mw_29_24 mw_0_15 mw_54_2) rfl rfl rfl (by decide +kernel) ⟨(Nat.le_of_ble_eq_true rfl), (Nat.le_of_ble_eq_true rfl)⟩) (vV (ci := 11) (q0 := 0) hK hP hD hN rfl gB_0) rfl rfl hl.1 rfl (lv_room (Nat.le_of_ble_eq_true rfl)) dX11_quoted_13 ⟨(Nat.le_of_ble_eq_true rfl), (Nat.le_of_ble_eq_true rfl)⟩) hS (fun q _ h => hF q h) hF (fun u t H locs ht hvm hw hB _ _ hS => ?_)
  replace hP : va_P (dC, dI) vwCl (wB a k q1) H := by rw [← ht]; exact hB.1
  replace hD := hD0 (q1)
  clear hB hF
  refine lv_aload_n hx hb dX11_quoted_16 rfl (lv_at hl 0 rfl) ?_
  refine va_get (D := (dC, dI)) (ci := 11) (C := RX11) (T := TX11) (N := 95) hx hb hts inlX11 hown hK hP 0 gB_0 rfl 8 (by decide) (hts (.fieldLink RX11 208 "ShapeReaderModel" "letterMany" "I") mw_29_5) (fun _ h9 => h9) rfl dX11_quoted_17 ?_
  refine lv_bipush (v := 12) hx hb dX11_quoted_20 (by decide) ?_
  refine lv_icmp_gt (tgt := 42) hx hb dX11_quoted_22 (by decide) (fun hc => ?_) (fun hc => ?_)
  · replace h := ip hc h
    exact b_X11_quoted_42 hC h _ _ _ hP hD hS (lv_sub hl [0] rfl)
  · replace h := iq hc h
    refine lv_aload_n hx hb dX11_quoted_25 rfl (lv_at hl 0 rfl) ?_
    refine lv_aload_n hx hb dX11_quoted_26 rfl (lv_at hl 0 rfl) ?_
    refine va_get (D := (dC, dI)) (ci := 11) (C := RX11) (T := TX11) (N := 95) hx hb hts inlX11 hown hK hP 0 gB_0 rfl 5 (by decide) (hts (.fieldLink RX11 211 "ShapeReaderModel" "next" "I") mw_29_6) (fun _ h9 => h9) rfl dX11_quoted_27 ?_
    obtain ⟨q3, hc, h⟩ := ib h
    have hF := va_frees hD hS hA
    refine va_calli (va_runV (As := [.int (q1.1 0 5)]) (rest := []) ⟨hx, hb, hml, hown, hts⟩ (s_X11_byteAt hc) (cwV 1 hts (gV mw_29_7 mw_29_8 mw_29_9 mw_0_15 mw_53_29) rfl rfl rfl (by decide +kernel) ⟨(Nat.le_of_ble_eq_true rfl), (Nat.le_of_ble_eq_true rfl)⟩) (vV (ci := 11) (q0 := 0) hK hP hD hN rfl gB_0) rfl rfl hl.1 rfl (lv_room (Nat.le_of_ble_eq_true rfl)) dX11_quoted_30 ⟨(Nat.le_of_ble_eq_true rfl), (Nat.le_of_ble_eq_true rfl)⟩) hS (fun q _ h => hF q h) hF (fun r4 u t H locs ht hvm hw hB _ _ hS => ?_)
    obtain rfl : r4 = q3.1 := hw
    replace hP : va_P (dC, dI) vwCl (wB a k q3.2) H := by rw [← ht]; exact hB.1
    replace hD := hD0 (q3.2)
    clear hB hF
    refine lv_bipush (v := 34) hx hb dX11_quoted_33 (by decide) ?_
    refine lv_icmp_ne (tgt := 42) hx hb dX11_quoted_35 (by decide) (fun hc => ?_) (fun hc => ?_)
    · replace h := iq hc h
      exact b_X11_quoted_42 hC h _ _ _ hP hD hS (lv_sub hl [0] rfl)
    · replace h := ip hc h
      refine lv_iconst (v := 1) hx hb dX11_quoted_38 (by decide) ?_
      refine lv_goto (tgt := 43) hx hb dX11_quoted_39 (by decide) ?_
      exact b_X11_quoted_43 hC h _ _ _ hP hD hS (lv_sub hl [0] rfl)

theorem s_X11_quoted {l : Launch} {dC : Nat → ClassId} {dI : Nat → Nat → Nat} {a : Nat → Nat} {k : Nat → ClassId} {sz : Nat}  {σ : ST} {q : ST} (h : f_X11_quoted   σ = some q) : Met l yX11_quoted (.code yX11_quoted cX11_quoted 2 none :: pw) ({ frames := 3, cells := 0, slots := 0, locals := 66 } : Room) (va_Pc [.ref (a 0)] (vPre dC dI (wB a k σ) (tB k) sz)) (qBv dC dI a k (va_A (wB a k σ) sz) q) 0 0 (va_A (wB a k σ) sz) := metB (fun A => qBv dC dI a k A q) (plainFor_of_name (by decide)) (Nat.le_of_ble_eq_true rfl) (fun _ _ _ _ _ _ _ _ hC => b_X11_quoted_e hC h)

def f_X11_go_26 (k0 : ST → Option (ST)) (σ : ST) : Option (ST) := k0  (stI σ 0 5 ((σ.1 0 5) + 1))
def f_X11_go_101 (y0 : Int32) (σ : ST) : Option (ST) := some (stI σ 0 6 y0)
def f_X11_go_136 (σ : ST) : Option (ST) := (f_X11_number   σ).bind fun q1 => some q1
def f_X11_go_185 (y0 : Int32) (σ : ST) : Option (ST) := some (stI (stI σ 0 6 y0) 0 5 (((stI σ 0 6 y0).1 0 5) + 1))
def f_X11_go_169 (y0 : Int32) (σ : ST) : Option (ST) := if ((stI σ 0 13 y0).1 0 13) ≤ 0 then (f_X11_go_185  5 (stI σ 0 13 y0)) else (f_X11_go_185  4 (stI σ 0 13 y0))
def f_X11_go_143 (x1 : Int32) (σ : ST) : Option (ST) := if x1 = 34 then ((f_X11_quoted   σ).bind fun q3 => some q3) else ((f_X11_isSign  x1 σ).bind fun q1 => if q1.1 = 0 then (f_X11_go_169  0 q1.2) else (f_X11_go_169  x1 q1.2))
def f_X11_go_0  : Nat → ST → Option (ST)
  | 0, _ => none
  | n + 1, σ => (f_X11_byteAt  (σ.1 0 5) σ).bind fun q1 => if q1.1 = 32 then (f_X11_go_26 (f_X11_go_0  n)  q1.2) else ((f_X11_byteAt  (q1.2.1 0 5) q1.2).bind fun q3 => if q3.1 = 10 then (f_X11_go_26 (f_X11_go_0  n)  q3.2) else ((f_X11_byteAt  ((stI q3.2 0 4 (q3.2.1 0 5)).1 0 5) (stI q3.2 0 4 (q3.2.1 0 5))).bind fun q5 => if 0 ≤ q5.1 then ((f_X11_isLetter  q5.1 (stI q5.2 0 13 0)).bind fun q7 => if q7.1 = 0 then ((f_X11_isDigit  q5.1 q7.2).bind fun q9 => if q9.1 = 0 then (if q5.1 = 45 then ((f_X11_byteAt  ((q9.2.1 0 5) + 1) q9.2).bind fun q11 => (f_X11_isDigit  q11.1 q11.2).bind fun q13 => if q13.1 = 0 then (f_X11_go_143  q5.1 q13.2) else (f_X11_go_136   q13.2)) else (f_X11_go_143  q5.1 q9.2)) else (f_X11_go_136   q9.2)) else ((f_X11_word  8 q7.2).bind fun q15 => if 8 < (q15.1 0 8) then (f_X11_go_101  5 q15) else (f_X11_go_101  1 q15))) else (some (stI (stI q5.2 0 13 0) 0 6 0))))
def f_X11_go (σ : ST) : Option (ST) := f_X11_go_0  FU  σ

set_option maxRecDepth 100000 in
set_option maxHeartbeats 4000000 in
theorem b_X11_go_26 {p : Program} {l : Launch} {e : Env} {s : State} {m : MethodId} {args : Array Value} {below : List Frame} {meth : Method} {c : Code} {dC : Nat → ClassId} {dI : Nat → Nat → Nat} {a : Nat → Nat} {k : Nat → ClassId} {A : Nat → Prop} {q : ST} (hC : CxB p s m args meth c dC dI k A cX11_go RX11 none 2)  {k0 : ST → Option (ST)} (hk0 : ∀  (σ : ST), k0  σ = some q → GoB p l e ({ frames := 4, cells := 0, slots := 0, locals := 87 } : Room) s m args below meth c (MQ below (qBv dC dI a k A q) args s 0 0 A) dC dI a k A 2 0 σ [(0, .ref (a 0))] [])  {σ : ST} (h : f_X11_go_26 k0  σ = some q) : GoB p l e ({ frames := 4, cells := 0, slots := 0, locals := 87 } : Room) s m args below meth c (MQ below (qBv dC dI a k A q) args s 0 0 A) dC dI a k A 2 26 σ [(0, .ref (a 0))] [] := by
  have hC0 := hC
  obtain ⟨hx, hb, hr, hml, hown, hts, hlocks, hA, hN, hK⟩ := hC0
  intro H locs ls hP hD hS hl
  have hD0 : ∀ σ1 : ST, va_D A (wB a k σ1) := fun σ1 => wB_D hD
  unfold f_X11_go_26 at h
  refine lv_aload_n hx hb dX11_go_26 rfl (lv_at hl 0 rfl) ?_
  refine lv_dup hx hb dX11_go_27 rfl ?_
  refine va_get (D := (dC, dI)) (ci := 11) (C := RX11) (T := TX11) (N := 95) hx hb hts inlX11 hown hK hP 0 gB_0 rfl 5 (by decide) (hts (.fieldLink RX11 211 "ShapeReaderModel" "next" "I") mw_29_6) (fun _ h9 => h9) rfl dX11_go_28 ?_
  refine lv_iconst (v := 1) hx hb dX11_go_31 (by decide) ?_
  refine lv_iadd hx hb dX11_go_32 ?_
  refine va_put (D := (dC, dI)) (ci := 11) (ty := .int) (C := RX11) (T := TX11) (N := 95) hx hb hts inlX11 tyX11 tyX11_ok nmX11 hown hK hP hD hS 0 gB_0 rfl 5 (by decide) (hts (.fieldLink RX11 211 "ShapeReaderModel" "next" "I") mw_29_6) (fun _ h9 => h9) rfl (by decide +kernel) rfl rfl (Nat.le_of_ble_eq_true rfl) dX11_go_33 (fun H locs hP hD hS => ?_)
  replace hP := uB_0_5 hP
  replace hD := hD0 ((stI σ 0 5 ((σ.1 0 5) + 1)))
  refine lv_goto (tgt := 0) hx hb dX11_go_36 (by decide) ?_
  exact hk0  _ h _ _ _ hP hD hS (lv_sub hl [0] rfl)

set_option maxRecDepth 100000 in
set_option maxHeartbeats 4000000 in
theorem b_X11_go_101 {p : Program} {l : Launch} {e : Env} {s : State} {m : MethodId} {args : Array Value} {below : List Frame} {meth : Method} {c : Code} {dC : Nat → ClassId} {dI : Nat → Nat → Nat} {a : Nat → Nat} {k : Nat → ClassId} {A : Nat → Prop} {q : ST} (hC : CxB p s m args meth c dC dI k A cX11_go RX11 none 2)   {y0 : Int32} {σ : ST} (h : f_X11_go_101  y0 σ = some q) : GoB p l e ({ frames := 4, cells := 0, slots := 0, locals := 87 } : Room) s m args below meth c (MQ below (qBv dC dI a k A q) args s 0 0 A) dC dI a k A 2 101 σ [] [.int y0, .ref (a 0)] := by
  have hC0 := hC
  obtain ⟨hx, hb, hr, hml, hown, hts, hlocks, hA, hN, hK⟩ := hC0
  intro H locs ls hP hD hS hl
  have hD0 : ∀ σ1 : ST, va_D A (wB a k σ1) := fun σ1 => wB_D hD
  unfold f_X11_go_101 at h
  refine va_put (D := (dC, dI)) (ci := 11) (ty := .int) (C := RX11) (T := TX11) (N := 95) hx hb hts inlX11 tyX11 tyX11_ok nmX11 hown hK hP hD hS 0 gB_0 rfl 6 (by decide) (hts (.fieldLink RX11 244 "ShapeReaderModel" "token" "I") mw_29_21) (fun _ h9 => h9) rfl (by decide +kernel) rfl rfl (Nat.le_of_ble_eq_true rfl) dX11_go_101 (fun H locs hP hD hS => ?_)
  replace hP := uB_0_6 hP
  replace hD := hD0 ((stI σ 0 6 y0))
  refine lv_goto (tgt := 198) hx hb dX11_go_104 (by decide) ?_
  obtain rfl := Option.some.inj h
  exact W.vret hx hb hr (fun t ht hW => ⟨⟨(), rfl, trivial, ⟨by rw [ht]; exact hP, va_K.moved hW.alike hK, hD⟩⟩, hS.F ht⟩) hS.2.2 dX11_go_198

set_option maxRecDepth 100000 in
set_option maxHeartbeats 4000000 in
theorem b_X11_go_136 {p : Program} {l : Launch} {e : Env} {s : State} {m : MethodId} {args : Array Value} {below : List Frame} {meth : Method} {c : Code} {dC : Nat → ClassId} {dI : Nat → Nat → Nat} {a : Nat → Nat} {k : Nat → ClassId} {A : Nat → Prop} {q : ST} (hC : CxB p s m args meth c dC dI k A cX11_go RX11 none 2)    {σ : ST} (h : f_X11_go_136   σ = some q) : GoB p l e ({ frames := 4, cells := 0, slots := 0, locals := 87 } : Room) s m args below meth c (MQ below (qBv dC dI a k A q) args s 0 0 A) dC dI a k A 2 136 σ [(0, .ref (a 0))] [] := by
  have hC0 := hC
  obtain ⟨hx, hb, hr, hml, hown, hts, hlocks, hA, hN, hK⟩ := hC0
  intro H locs ls hP hD hS hl
  have hD0 : ∀ σ1 : ST, va_D A (wB a k σ1) := fun σ1 => wB_D hD
  unfold f_X11_go_136 at h
  refine lv_aload_n hx hb dX11_go_136 rfl (lv_at hl 0 rfl) ?_
  obtain ⟨q1, hc, h⟩ := ib h
  have hF := va_frees hD hS hA
  refine va_callv (va_runV (As := []) (rest := []) ⟨hx, hb, hml, hown, hts⟩ (s_X11_number hc) (cwV 0 hts (gV mw_29_27 mw_29_28 mw_29_29 mw_0_15 mw_54_3) rfl rfl rfl (by decide +kernel) ⟨(Nat.le_of_ble_eq_true rfl), (Nat.le_of_ble_eq_true rfl)⟩) (vV (ci := 11) (q0 := 0) hK hP hD hN rfl gB_0) rfl rfl hl.1 rfl (lv_room (Nat.le_of_ble_eq_true rfl)) dX11_go_137 ⟨(Nat.le_of_ble_eq_true rfl), (Nat.le_of_ble_eq_true rfl)⟩) hS (fun q _ h => hF q h) hF (fun u t H locs ht hvm hw hB _ _ hS => ?_)
  replace hP : va_P (dC, dI) vwCl (wB a k q1) H := by rw [← ht]; exact hB.1
  replace hD := hD0 (q1)
  clear hB hF
  refine lv_goto (tgt := 198) hx hb dX11_go_140 (by decide) ?_
  obtain rfl := Option.some.inj h
  exact W.vret hx hb hr (fun t ht hW => ⟨⟨(), rfl, trivial, ⟨by rw [ht]; exact hP, va_K.moved hW.alike hK, hD⟩⟩, hS.F ht⟩) hS.2.2 dX11_go_198

set_option maxRecDepth 100000 in
set_option maxHeartbeats 4000000 in
theorem b_X11_go_185 {p : Program} {l : Launch} {e : Env} {s : State} {m : MethodId} {args : Array Value} {below : List Frame} {meth : Method} {c : Code} {dC : Nat → ClassId} {dI : Nat → Nat → Nat} {a : Nat → Nat} {k : Nat → ClassId} {A : Nat → Prop} {q : ST} (hC : CxB p s m args meth c dC dI k A cX11_go RX11 none 2)   {y0 : Int32} {σ : ST} (h : f_X11_go_185  y0 σ = some q) : GoB p l e ({ frames := 4, cells := 0, slots := 0, locals := 87 } : Room) s m args below meth c (MQ below (qBv dC dI a k A q) args s 0 0 A) dC dI a k A 2 185 σ [(0, .ref (a 0))] [.int y0, .ref (a 0)] := by
  have hC0 := hC
  obtain ⟨hx, hb, hr, hml, hown, hts, hlocks, hA, hN, hK⟩ := hC0
  intro H locs ls hP hD hS hl
  have hD0 : ∀ σ1 : ST, va_D A (wB a k σ1) := fun σ1 => wB_D hD
  unfold f_X11_go_185 at h
  refine va_put (D := (dC, dI)) (ci := 11) (ty := .int) (C := RX11) (T := TX11) (N := 95) hx hb hts inlX11 tyX11 tyX11_ok nmX11 hown hK hP hD hS 0 gB_0 rfl 6 (by decide) (hts (.fieldLink RX11 244 "ShapeReaderModel" "token" "I") mw_29_21) (fun _ h9 => h9) rfl (by decide +kernel) rfl rfl (Nat.le_of_ble_eq_true rfl) dX11_go_185 (fun H locs hP hD hS => ?_)
  replace hP := uB_0_6 hP
  replace hD := hD0 ((stI σ 0 6 y0))
  refine lv_aload_n hx hb dX11_go_188 rfl (lv_at hl 0 rfl) ?_
  refine lv_dup hx hb dX11_go_189 rfl ?_
  refine va_get (D := (dC, dI)) (ci := 11) (C := RX11) (T := TX11) (N := 95) hx hb hts inlX11 hown hK hP 0 gB_0 rfl 5 (by decide) (hts (.fieldLink RX11 211 "ShapeReaderModel" "next" "I") mw_29_6) (fun _ h9 => h9) rfl dX11_go_190 ?_
  refine lv_iconst (v := 1) hx hb dX11_go_193 (by decide) ?_
  refine lv_iadd hx hb dX11_go_194 ?_
  refine va_put (D := (dC, dI)) (ci := 11) (ty := .int) (C := RX11) (T := TX11) (N := 95) hx hb hts inlX11 tyX11 tyX11_ok nmX11 hown hK hP hD hS 0 gB_0 rfl 5 (by decide) (hts (.fieldLink RX11 211 "ShapeReaderModel" "next" "I") mw_29_6) (fun _ h9 => h9) rfl (by decide +kernel) rfl rfl (Nat.le_of_ble_eq_true rfl) dX11_go_195 (fun H locs hP hD hS => ?_)
  replace hP := uB_0_5 hP
  replace hD := hD0 ((stI (stI σ 0 6 y0) 0 5 (((stI σ 0 6 y0).1 0 5) + 1)))
  obtain rfl := Option.some.inj h
  exact W.vret hx hb hr (fun t ht hW => ⟨⟨(), rfl, trivial, ⟨by rw [ht]; exact hP, va_K.moved hW.alike hK, hD⟩⟩, hS.F ht⟩) hS.2.2 dX11_go_198

set_option maxRecDepth 100000 in
set_option maxHeartbeats 4000000 in
theorem b_X11_go_169 {p : Program} {l : Launch} {e : Env} {s : State} {m : MethodId} {args : Array Value} {below : List Frame} {meth : Method} {c : Code} {dC : Nat → ClassId} {dI : Nat → Nat → Nat} {a : Nat → Nat} {k : Nat → ClassId} {A : Nat → Prop} {q : ST} (hC : CxB p s m args meth c dC dI k A cX11_go RX11 none 2)   {y0 : Int32} {σ : ST} (h : f_X11_go_169  y0 σ = some q) : GoB p l e ({ frames := 4, cells := 0, slots := 0, locals := 87 } : Room) s m args below meth c (MQ below (qBv dC dI a k A q) args s 0 0 A) dC dI a k A 2 169 σ [(0, .ref (a 0))] [.int y0, .ref (a 0)] := by
  have hC0 := hC
  obtain ⟨hx, hb, hr, hml, hown, hts, hlocks, hA, hN, hK⟩ := hC0
  intro H locs ls hP hD hS hl
  have hD0 : ∀ σ1 : ST, va_D A (wB a k σ1) := fun σ1 => wB_D hD
  unfold f_X11_go_169 at h
  refine va_put (D := (dC, dI)) (ci := 11) (ty := .int) (C := RX11) (T := TX11) (N := 95) hx hb hts inlX11 tyX11 tyX11_ok nmX11 hown hK hP hD hS 0 gB_0 rfl 13 (by decide) (hts (.fieldLink RX11 253 "ShapeReaderModel" "sign" "I") mw_29_26) (fun _ h9 => h9) rfl (by decide +kernel) rfl rfl (Nat.le_of_ble_eq_true rfl) dX11_go_169 (fun H locs hP hD hS => ?_)
  replace hP := uB_0_13 hP
  replace hD := hD0 ((stI σ 0 13 y0))
  refine lv_aload_n hx hb dX11_go_172 rfl (lv_at hl 0 rfl) ?_
  refine lv_aload_n hx hb dX11_go_173 rfl (lv_at hl 0 rfl) ?_
  refine va_get (D := (dC, dI)) (ci := 11) (C := RX11) (T := TX11) (N := 95) hx hb hts inlX11 hown hK hP 0 gB_0 rfl 13 (by decide) (hts (.fieldLink RX11 253 "ShapeReaderModel" "sign" "I") mw_29_26) (fun _ h9 => h9) rfl dX11_go_174 ?_
  refine lv_if_le (tgt := 184) hx hb dX11_go_177 (by decide) (fun hc => ?_) (fun hc => ?_)
  · replace h := ip hc h
    refine lv_iconst (v := 5) hx hb dX11_go_184 (by decide) ?_
    exact b_X11_go_185 hC h _ _ _ hP hD hS (lv_sub hl [0] rfl)
  · replace h := iq hc h
    refine lv_iconst (v := 4) hx hb dX11_go_180 (by decide) ?_
    refine lv_goto (tgt := 185) hx hb dX11_go_181 (by decide) ?_
    exact b_X11_go_185 hC h _ _ _ hP hD hS (lv_sub hl [0] rfl)

set_option maxRecDepth 100000 in
set_option maxHeartbeats 4000000 in
theorem b_X11_go_143 {p : Program} {l : Launch} {e : Env} {s : State} {m : MethodId} {args : Array Value} {below : List Frame} {meth : Method} {c : Code} {dC : Nat → ClassId} {dI : Nat → Nat → Nat} {a : Nat → Nat} {k : Nat → ClassId} {A : Nat → Prop} {q : ST} (hC : CxB p s m args meth c dC dI k A cX11_go RX11 none 2)   {x1 : Int32} {σ : ST} (h : f_X11_go_143  x1 σ = some q) : GoB p l e ({ frames := 4, cells := 0, slots := 0, locals := 87 } : Room) s m args below meth c (MQ below (qBv dC dI a k A q) args s 0 0 A) dC dI a k A 2 143 σ [(0, .ref (a 0)), (1, .int x1)] [] := by
  have hC0 := hC
  obtain ⟨hx, hb, hr, hml, hown, hts, hlocks, hA, hN, hK⟩ := hC0
  intro H locs ls hP hD hS hl
  have hD0 : ∀ σ1 : ST, va_D A (wB a k σ1) := fun σ1 => wB_D hD
  unfold f_X11_go_143 at h
  refine lv_iload_n hx hb dX11_go_143 rfl (lv_at hl 1 rfl) ?_
  refine lv_bipush (v := 34) hx hb dX11_go_144 (by decide) ?_
  refine lv_icmp_ne (tgt := 156) hx hb dX11_go_146 (by decide) (fun hc => ?_) (fun hc => ?_)
  · replace h := iq hc h
    refine lv_aload_n hx hb dX11_go_156 rfl (lv_at hl 0 rfl) ?_
    refine lv_iload_n hx hb dX11_go_157 rfl (lv_at hl 1 rfl) ?_
    obtain ⟨q1, hc, h⟩ := ib h
    have hF := va_frees hD hS hA
    refine va_calli (va_runS (As := [.int x1]) (rest := [.ref (a 0)]) ⟨hx, hb, hml, hown, hts⟩ (s_X11_isSign hc) (va_cwS 1 hts (gS mw_30_3 mw_30_4 mw_0_15 mw_54_5) rfl rfl rfl (by decide +kernel) ⟨(Nat.le_of_ble_eq_true rfl), (Nat.le_of_ble_eq_true rfl)⟩) (vS hK hP hD hN) rfl rfl hl.1 rfl (lv_room (Nat.le_of_ble_eq_true rfl)) dX11_go_158 ⟨(Nat.le_of_ble_eq_true rfl), (Nat.le_of_ble_eq_true rfl)⟩) hS (fun q _ h => hF q h) hF (fun r2 u t H locs ht hvm hw hB _ _ hS => ?_)
    obtain rfl : r2 = q1.1 := hw
    replace hP : va_P (dC, dI) vwCl (wB a k q1.2) H := by rw [← ht]; exact hB.1
    replace hD := hD0 (q1.2)
    clear hB hF
    refine lv_if_eq (tgt := 168) hx hb dX11_go_161 (by decide) (fun hc => ?_) (fun hc => ?_)
    · replace h := ip hc h
      refine lv_iconst (v := 0) hx hb dX11_go_168 (by decide) ?_
      exact b_X11_go_169 hC h _ _ _ hP hD hS (lv_sub hl [0] rfl)
    · replace h := iq hc h
      refine lv_iload_n hx hb dX11_go_164 rfl (lv_at hl 1 rfl) ?_
      refine lv_goto (tgt := 169) hx hb dX11_go_165 (by decide) ?_
      exact b_X11_go_169 hC h _ _ _ hP hD hS (lv_sub hl [0] rfl)
  · replace h := ip hc h
    refine lv_aload_n hx hb dX11_go_149 rfl (lv_at hl 0 rfl) ?_
    obtain ⟨q3, hc, h⟩ := ib h
    have hF := va_frees hD hS hA
    refine va_callv (va_runV (As := []) (rest := []) ⟨hx, hb, hml, hown, hts⟩ (s_X11_quoted hc) (cwV 0 hts (gV mw_30_0 mw_30_1 mw_30_2 mw_0_15 mw_54_4) rfl rfl rfl (by decide +kernel) ⟨(Nat.le_of_ble_eq_true rfl), (Nat.le_of_ble_eq_true rfl)⟩) (vV (ci := 11) (q0 := 0) hK hP hD hN rfl gB_0) rfl rfl hl.1 rfl (lv_room (Nat.le_of_ble_eq_true rfl)) dX11_go_150 ⟨(Nat.le_of_ble_eq_true rfl), (Nat.le_of_ble_eq_true rfl)⟩) hS (fun q _ h => hF q h) hF (fun u t H locs ht hvm hw hB _ _ hS => ?_)
    replace hP : va_P (dC, dI) vwCl (wB a k q3) H := by rw [← ht]; exact hB.1
    replace hD := hD0 (q3)
    clear hB hF
    refine lv_goto (tgt := 198) hx hb dX11_go_153 (by decide) ?_
    obtain rfl := Option.some.inj h
    exact W.vret hx hb hr (fun t ht hW => ⟨⟨(), rfl, trivial, ⟨by rw [ht]; exact hP, va_K.moved hW.alike hK, hD⟩⟩, hS.F ht⟩) hS.2.2 dX11_go_198

set_option maxRecDepth 100000 in
set_option maxHeartbeats 4000000 in
theorem b_X11_go_0 {p : Program} {l : Launch} {e : Env} {s : State} {m : MethodId} {args : Array Value} {below : List Frame} {meth : Method} {c : Code} {dC : Nat → ClassId} {dI : Nat → Nat → Nat} {a : Nat → Nat} {k : Nat → ClassId} {A : Nat → Prop} {q : ST} (hC : CxB p s m args meth c dC dI k A cX11_go RX11 none 2)   : ∀ (n : Nat)  (σ : ST), f_X11_go_0  n  σ = some q → GoB p l e ({ frames := 4, cells := 0, slots := 0, locals := 87 } : Room) s m args below meth c (MQ below (qBv dC dI a k A q) args s 0 0 A) dC dI a k A 2 0 σ [(0, .ref (a 0))] [] := by
  intro n
  induction n with
  | zero =>
    intro  σ h
    rw [f_X11_go_0] at h
    cases h
  | succ n ih =>
    intro  σ h
    have hC0 := hC
    obtain ⟨hx, hb, hr, hml, hown, hts, hlocks, hA, hN, hK⟩ := hC0
    intro H locs ls hP hD hS hl
    have hD0 : ∀ σ1 : ST, va_D A (wB a k σ1) := fun σ1 => wB_D hD
    rw [f_X11_go_0] at h
    refine lv_aload_n hx hb dX11_go_0 rfl (lv_at hl 0 rfl) ?_
    refine lv_aload_n hx hb dX11_go_1 rfl (lv_at hl 0 rfl) ?_
    refine va_get (D := (dC, dI)) (ci := 11) (C := RX11) (T := TX11) (N := 95) hx hb hts inlX11 hown hK hP 0 gB_0 rfl 5 (by decide) (hts (.fieldLink RX11 211 "ShapeReaderModel" "next" "I") mw_29_6) (fun _ h9 => h9) rfl dX11_go_2 ?_
    obtain ⟨q1, hc, h⟩ := ib h
    have hF := va_frees hD hS hA
    refine va_calli (va_runV (As := [.int (σ.1 0 5)]) (rest := []) ⟨hx, hb, hml, hown, hts⟩ (s_X11_byteAt hc) (cwV 1 hts (gV mw_29_7 mw_29_8 mw_29_9 mw_0_15 mw_53_29) rfl rfl rfl (by decide +kernel) ⟨(Nat.le_of_ble_eq_true rfl), (Nat.le_of_ble_eq_true rfl)⟩) (vV (ci := 11) (q0 := 0) hK hP hD hN rfl gB_0) rfl rfl hl.1 rfl (lv_room (Nat.le_of_ble_eq_true rfl)) dX11_go_5 ⟨(Nat.le_of_ble_eq_true rfl), (Nat.le_of_ble_eq_true rfl)⟩) hS (fun q _ h => hF q h) hF (fun r2 u t H locs ht hvm hw hB _ _ hS => ?_)
    obtain rfl : r2 = q1.1 := hw
    replace hP : va_P (dC, dI) vwCl (wB a k q1.2) H := by rw [← ht]; exact hB.1
    replace hD := hD0 (q1.2)
    clear hB hF
    refine lv_bipush (v := 32) hx hb dX11_go_8 (by decide) ?_
    refine lv_icmp_eq (tgt := 26) hx hb dX11_go_10 (by decide) (fun hc => ?_) (fun hc => ?_)
    · replace h := ip hc h
      exact b_X11_go_26 hC ih h _ _ _ hP hD hS (lv_sub hl [0] rfl)
    · replace h := iq hc h
      refine lv_aload_n hx hb dX11_go_13 rfl (lv_at hl 0 rfl) ?_
      refine lv_aload_n hx hb dX11_go_14 rfl (lv_at hl 0 rfl) ?_
      refine va_get (D := (dC, dI)) (ci := 11) (C := RX11) (T := TX11) (N := 95) hx hb hts inlX11 hown hK hP 0 gB_0 rfl 5 (by decide) (hts (.fieldLink RX11 211 "ShapeReaderModel" "next" "I") mw_29_6) (fun _ h9 => h9) rfl dX11_go_15 ?_
      obtain ⟨q3, hc, h⟩ := ib h
      have hF := va_frees hD hS hA
      refine va_calli (va_runV (As := [.int (q1.2.1 0 5)]) (rest := []) ⟨hx, hb, hml, hown, hts⟩ (s_X11_byteAt hc) (cwV 1 hts (gV mw_29_7 mw_29_8 mw_29_9 mw_0_15 mw_53_29) rfl rfl rfl (by decide +kernel) ⟨(Nat.le_of_ble_eq_true rfl), (Nat.le_of_ble_eq_true rfl)⟩) (vV (ci := 11) (q0 := 0) hK hP hD hN rfl gB_0) rfl rfl hl.1 rfl (lv_room (Nat.le_of_ble_eq_true rfl)) dX11_go_18 ⟨(Nat.le_of_ble_eq_true rfl), (Nat.le_of_ble_eq_true rfl)⟩) hS (fun q _ h => hF q h) hF (fun r4 u t H locs ht hvm hw hB _ _ hS => ?_)
      obtain rfl : r4 = q3.1 := hw
      replace hP : va_P (dC, dI) vwCl (wB a k q3.2) H := by rw [← ht]; exact hB.1
      replace hD := hD0 (q3.2)
      clear hB hF
      refine lv_bipush (v := 10) hx hb dX11_go_21 (by decide) ?_
      refine lv_icmp_ne (tgt := 39) hx hb dX11_go_23 (by decide) (fun hc => ?_) (fun hc => ?_)
      · replace h := iq hc h
        refine lv_aload_n hx hb dX11_go_39 rfl (lv_at hl 0 rfl) ?_
        refine lv_aload_n hx hb dX11_go_40 rfl (lv_at hl 0 rfl) ?_
        refine va_get (D := (dC, dI)) (ci := 11) (C := RX11) (T := TX11) (N := 95) hx hb hts inlX11 hown hK hP 0 gB_0 rfl 5 (by decide) (hts (.fieldLink RX11 211 "ShapeReaderModel" "next" "I") mw_29_6) (fun _ h9 => h9) rfl dX11_go_41 ?_
        refine va_put (D := (dC, dI)) (ci := 11) (ty := .int) (C := RX11) (T := TX11) (N := 95) hx hb hts inlX11 tyX11 tyX11_ok nmX11 hown hK hP hD hS 0 gB_0 rfl 4 (by decide) (hts (.fieldLink RX11 250 "ShapeReaderModel" "at" "I") mw_29_25) (fun _ h9 => h9) rfl (by decide +kernel) rfl rfl (Nat.le_of_ble_eq_true rfl) dX11_go_44 (fun H locs hP hD hS => ?_)
        replace hP := uB_0_4 hP
        replace hD := hD0 ((stI q3.2 0 4 (q3.2.1 0 5)))
        refine lv_aload_n hx hb dX11_go_47 rfl (lv_at hl 0 rfl) ?_
        refine lv_aload_n hx hb dX11_go_48 rfl (lv_at hl 0 rfl) ?_
        refine va_get (D := (dC, dI)) (ci := 11) (C := RX11) (T := TX11) (N := 95) hx hb hts inlX11 hown hK hP 0 gB_0 rfl 5 (by decide) (hts (.fieldLink RX11 211 "ShapeReaderModel" "next" "I") mw_29_6) (fun _ h9 => h9) rfl dX11_go_49 ?_
        obtain ⟨q5, hc, h⟩ := ib h
        have hF := va_frees hD hS hA
        refine va_calli (va_runV (As := [.int ((stI q3.2 0 4 (q3.2.1 0 5)).1 0 5)]) (rest := []) ⟨hx, hb, hml, hown, hts⟩ (s_X11_byteAt hc) (cwV 1 hts (gV mw_29_7 mw_29_8 mw_29_9 mw_0_15 mw_53_29) rfl rfl rfl (by decide +kernel) ⟨(Nat.le_of_ble_eq_true rfl), (Nat.le_of_ble_eq_true rfl)⟩) (vV (ci := 11) (q0 := 0) hK hP hD hN rfl gB_0) rfl rfl hl.1 rfl (lv_room (Nat.le_of_ble_eq_true rfl)) dX11_go_52 ⟨(Nat.le_of_ble_eq_true rfl), (Nat.le_of_ble_eq_true rfl)⟩) hS (fun q _ h => hF q h) hF (fun r6 u t H locs ht hvm hw hB _ _ hS => ?_)
        obtain rfl : r6 = q5.1 := hw
        replace hP : va_P (dC, dI) vwCl (wB a k q5.2) H := by rw [← ht]; exact hB.1
        replace hD := hD0 (q5.2)
        clear hB hF
        refine lv_istore_n (lv' := [(1, .int q5.1), (0, .ref (a 0))]) hx hb dX11_go_55 rfl hl (by decide) rfl (fun ls hl => ?_)
        refine lv_aload_n hx hb dX11_go_56 rfl (lv_at hl 1 rfl) ?_
        refine lv_iconst (v := 0) hx hb dX11_go_57 (by decide) ?_
        refine va_put (D := (dC, dI)) (ci := 11) (ty := .int) (C := RX11) (T := TX11) (N := 95) hx hb hts inlX11 tyX11 tyX11_ok nmX11 hown hK hP hD hS 0 gB_0 rfl 13 (by decide) (hts (.fieldLink RX11 253 "ShapeReaderModel" "sign" "I") mw_29_26) (fun _ h9 => h9) rfl (by decide +kernel) rfl rfl (Nat.le_of_ble_eq_true rfl) dX11_go_58 (fun H locs hP hD hS => ?_)
        replace hP := uB_0_13 hP
        replace hD := hD0 ((stI q5.2 0 13 0))
        refine lv_iload_n hx hb dX11_go_61 rfl (lv_at hl 0 rfl) ?_
        refine lv_if_ge (tgt := 73) hx hb dX11_go_62 (by decide) (fun hc => ?_) (fun hc => ?_)
        · replace h := ip hc h
          refine lv_iload_n hx hb dX11_go_73 rfl (lv_at hl 0 rfl) ?_
          obtain ⟨q7, hc, h⟩ := ib h
          have hF := va_frees hD hS hA
          refine va_calli (va_runS (As := [.int q5.1]) (rest := []) ⟨hx, hb, hml, hown, hts⟩ (s_X11_isLetter hc) (va_cwS 1 hts (gS mw_29_10 mw_29_11 mw_0_15 mw_54_0) rfl rfl rfl (by decide +kernel) ⟨(Nat.le_of_ble_eq_true rfl), (Nat.le_of_ble_eq_true rfl)⟩) (vS hK hP hD hN) rfl rfl hl.1 rfl (lv_room (Nat.le_of_ble_eq_true rfl)) dX11_go_74 ⟨(Nat.le_of_ble_eq_true rfl), (Nat.le_of_ble_eq_true rfl)⟩) hS (fun q _ h => hF q h) hF (fun r8 u t H locs ht hvm hw hB _ _ hS => ?_)
          obtain rfl : r8 = q7.1 := hw
          replace hP : va_P (dC, dI) vwCl (wB a k q7.2) H := by rw [← ht]; exact hB.1
          replace hD := hD0 (q7.2)
          clear hB hF
          refine lv_if_eq (tgt := 107) hx hb dX11_go_77 (by decide) (fun hc => ?_) (fun hc => ?_)
          · replace h := ip hc h
            refine lv_iload_n hx hb dX11_go_107 rfl (lv_at hl 0 rfl) ?_
            obtain ⟨q9, hc, h⟩ := ib h
            have hF := va_frees hD hS hA
            refine va_calli (va_runS (As := [.int q5.1]) (rest := []) ⟨hx, hb, hml, hown, hts⟩ (s_X11_isDigit hc) (va_cwS 1 hts (gS mw_29_15 mw_29_16 mw_0_15 mw_54_1) rfl rfl rfl (by decide +kernel) ⟨(Nat.le_of_ble_eq_true rfl), (Nat.le_of_ble_eq_true rfl)⟩) (vS hK hP hD hN) rfl rfl hl.1 rfl (lv_room (Nat.le_of_ble_eq_true rfl)) dX11_go_108 ⟨(Nat.le_of_ble_eq_true rfl), (Nat.le_of_ble_eq_true rfl)⟩) hS (fun q _ h => hF q h) hF (fun r10 u t H locs ht hvm hw hB _ _ hS => ?_)
            obtain rfl : r10 = q9.1 := hw
            replace hP : va_P (dC, dI) vwCl (wB a k q9.2) H := by rw [← ht]; exact hB.1
            replace hD := hD0 (q9.2)
            clear hB hF
            refine lv_if_ne (tgt := 136) hx hb dX11_go_111 (by decide) (fun hc => ?_) (fun hc => ?_)
            · replace h := iq hc h
              exact b_X11_go_136 hC h _ _ _ hP hD hS (lv_sub hl [1] rfl)
            · replace h := ip hc h
              refine lv_iload_n hx hb dX11_go_114 rfl (lv_at hl 0 rfl) ?_
              refine lv_bipush (v := 45) hx hb dX11_go_115 (by decide) ?_
              refine lv_icmp_ne (tgt := 143) hx hb dX11_go_117 (by decide) (fun hc => ?_) (fun hc => ?_)
              · replace h := iq hc h
                exact b_X11_go_143 hC h _ _ _ hP hD hS (lv_sub hl [1, 0] rfl)
              · replace h := ip hc h
                refine lv_aload_n hx hb dX11_go_120 rfl (lv_at hl 1 rfl) ?_
                refine lv_aload_n hx hb dX11_go_121 rfl (lv_at hl 1 rfl) ?_
                refine va_get (D := (dC, dI)) (ci := 11) (C := RX11) (T := TX11) (N := 95) hx hb hts inlX11 hown hK hP 0 gB_0 rfl 5 (by decide) (hts (.fieldLink RX11 211 "ShapeReaderModel" "next" "I") mw_29_6) (fun _ h9 => h9) rfl dX11_go_122 ?_
                refine lv_iconst (v := 1) hx hb dX11_go_125 (by decide) ?_
                refine lv_iadd hx hb dX11_go_126 ?_
                obtain ⟨q11, hc, h⟩ := ib h
                have hF := va_frees hD hS hA
                refine va_calli (va_runV (As := [.int ((q9.2.1 0 5) + 1)]) (rest := []) ⟨hx, hb, hml, hown, hts⟩ (s_X11_byteAt hc) (cwV 1 hts (gV mw_29_7 mw_29_8 mw_29_9 mw_0_15 mw_53_29) rfl rfl rfl (by decide +kernel) ⟨(Nat.le_of_ble_eq_true rfl), (Nat.le_of_ble_eq_true rfl)⟩) (vV (ci := 11) (q0 := 0) hK hP hD hN rfl gB_0) rfl rfl hl.1 rfl (lv_room (Nat.le_of_ble_eq_true rfl)) dX11_go_127 ⟨(Nat.le_of_ble_eq_true rfl), (Nat.le_of_ble_eq_true rfl)⟩) hS (fun q _ h => hF q h) hF (fun r12 u t H locs ht hvm hw hB _ _ hS => ?_)
                obtain rfl : r12 = q11.1 := hw
                replace hP : va_P (dC, dI) vwCl (wB a k q11.2) H := by rw [← ht]; exact hB.1
                replace hD := hD0 (q11.2)
                clear hB hF
                obtain ⟨q13, hc, h⟩ := ib h
                have hF := va_frees hD hS hA
                refine va_calli (va_runS (As := [.int q11.1]) (rest := []) ⟨hx, hb, hml, hown, hts⟩ (s_X11_isDigit hc) (va_cwS 1 hts (gS mw_29_15 mw_29_16 mw_0_15 mw_54_1) rfl rfl rfl (by decide +kernel) ⟨(Nat.le_of_ble_eq_true rfl), (Nat.le_of_ble_eq_true rfl)⟩) (vS hK hP hD hN) rfl rfl hl.1 rfl (lv_room (Nat.le_of_ble_eq_true rfl)) dX11_go_130 ⟨(Nat.le_of_ble_eq_true rfl), (Nat.le_of_ble_eq_true rfl)⟩) hS (fun q _ h => hF q h) hF (fun r14 u t H locs ht hvm hw hB _ _ hS => ?_)
                obtain rfl : r14 = q13.1 := hw
                replace hP : va_P (dC, dI) vwCl (wB a k q13.2) H := by rw [← ht]; exact hB.1
                replace hD := hD0 (q13.2)
                clear hB hF
                refine lv_if_eq (tgt := 143) hx hb dX11_go_133 (by decide) (fun hc => ?_) (fun hc => ?_)
                · replace h := ip hc h
                  exact b_X11_go_143 hC h _ _ _ hP hD hS (lv_sub hl [1, 0] rfl)
                · replace h := iq hc h
                  exact b_X11_go_136 hC h _ _ _ hP hD hS (lv_sub hl [1] rfl)
          · replace h := iq hc h
            refine lv_aload_n hx hb dX11_go_80 rfl (lv_at hl 1 rfl) ?_
            refine lv_bipush (v := 8) hx hb dX11_go_81 (by decide) ?_
            obtain ⟨q15, hc, h⟩ := ib h
            have hF := va_frees hD hS hA
            refine va_callv (va_runV (As := [.int 8]) (rest := []) ⟨hx, hb, hml, hown, hts⟩ (s_X11_word hc) (cwV 1 hts (gV mw_29_22 mw_29_23 mw_29_24 mw_0_15 mw_54_2) rfl rfl rfl (by decide +kernel) ⟨(Nat.le_of_ble_eq_true rfl), (Nat.le_of_ble_eq_true rfl)⟩) (vV (ci := 11) (q0 := 0) hK hP hD hN rfl gB_0) rfl rfl hl.1 rfl (lv_room (Nat.le_of_ble_eq_true rfl)) dX11_go_83 ⟨(Nat.le_of_ble_eq_true rfl), (Nat.le_of_ble_eq_true rfl)⟩) hS (fun q _ h => hF q h) hF (fun u t H locs ht hvm hw hB _ _ hS => ?_)
            replace hP : va_P (dC, dI) vwCl (wB a k q15) H := by rw [← ht]; exact hB.1
            replace hD := hD0 (q15)
            clear hB hF
            refine lv_aload_n hx hb dX11_go_86 rfl (lv_at hl 1 rfl) ?_
            refine lv_aload_n hx hb dX11_go_87 rfl (lv_at hl 1 rfl) ?_
            refine va_get (D := (dC, dI)) (ci := 11) (C := RX11) (T := TX11) (N := 95) hx hb hts inlX11 hown hK hP 0 gB_0 rfl 8 (by decide) (hts (.fieldLink RX11 208 "ShapeReaderModel" "letterMany" "I") mw_29_5) (fun _ h9 => h9) rfl dX11_go_88 ?_
            refine lv_bipush (v := 8) hx hb dX11_go_91 (by decide) ?_
            refine lv_icmp_gt (tgt := 100) hx hb dX11_go_93 (by decide) (fun hc => ?_) (fun hc => ?_)
            · replace h := ip hc h
              refine lv_iconst (v := 5) hx hb dX11_go_100 (by decide) ?_
              exact b_X11_go_101 hC h _ _ _ hP hD hS (lv_sub hl [] rfl)
            · replace h := iq hc h
              refine lv_iconst (v := 1) hx hb dX11_go_96 (by decide) ?_
              refine lv_goto (tgt := 101) hx hb dX11_go_97 (by decide) ?_
              exact b_X11_go_101 hC h _ _ _ hP hD hS (lv_sub hl [] rfl)
        · replace h := iq hc h
          refine lv_aload_n hx hb dX11_go_65 rfl (lv_at hl 1 rfl) ?_
          refine lv_iconst (v := 0) hx hb dX11_go_66 (by decide) ?_
          refine va_put (D := (dC, dI)) (ci := 11) (ty := .int) (C := RX11) (T := TX11) (N := 95) hx hb hts inlX11 tyX11 tyX11_ok nmX11 hown hK hP hD hS 0 gB_0 rfl 6 (by decide) (hts (.fieldLink RX11 244 "ShapeReaderModel" "token" "I") mw_29_21) (fun _ h9 => h9) rfl (by decide +kernel) rfl rfl (Nat.le_of_ble_eq_true rfl) dX11_go_67 (fun H locs hP hD hS => ?_)
          replace hP := uB_0_6 hP
          replace hD := hD0 ((stI (stI q5.2 0 13 0) 0 6 0))
          refine lv_goto (tgt := 198) hx hb dX11_go_70 (by decide) ?_
          obtain rfl := Option.some.inj h
          exact W.vret hx hb hr (fun t ht hW => ⟨⟨(), rfl, trivial, ⟨by rw [ht]; exact hP, va_K.moved hW.alike hK, hD⟩⟩, hS.F ht⟩) hS.2.2 dX11_go_198
      · replace h := ip hc h
        exact b_X11_go_26 hC ih h _ _ _ hP hD hS (lv_sub hl [0] rfl)

set_option maxRecDepth 100000 in
set_option maxHeartbeats 4000000 in
theorem b_X11_go_e {p : Program} {l : Launch} {e : Env} {s : State} {m : MethodId} {args : Array Value} {below : List Frame} {meth : Method} {c : Code} {dC : Nat → ClassId} {dI : Nat → Nat → Nat} {a : Nat → Nat} {k : Nat → ClassId} {A : Nat → Prop} {q : ST} (hC : CxB p s m args meth c dC dI k A cX11_go RX11 none 2)    {σ : ST} (h : f_X11_go   σ = some q) : GoB p l e ({ frames := 4, cells := 0, slots := 0, locals := 87 } : Room) s m args below meth c (MQ below (qBv dC dI a k A q) args s 0 0 A) dC dI a k A 2 0 σ (lv_args 0 [.ref (a 0)]) [] := by
  have hC0 := hC
  obtain ⟨hx, hb, hr, hml, hown, hts, hlocks, hA, hN, hK⟩ := hC0
  intro H locs ls hP hD hS hl
  have hD0 : ∀ σ1 : ST, va_D A (wB a k σ1) := fun σ1 => wB_D hD
  replace hl : lv_has ls 2 [(0, .ref (a 0))] := hl
  unfold f_X11_go at h
  exact b_X11_go_0 hC FU  _ h _ _ _ hP hD hS (lv_sub hl [0] rfl)

theorem s_X11_go {l : Launch} {dC : Nat → ClassId} {dI : Nat → Nat → Nat} {a : Nat → Nat} {k : Nat → ClassId} {sz : Nat}  {σ : ST} {q : ST} (h : f_X11_go   σ = some q) : Met l yX11_go (.code yX11_go cX11_go 2 none :: pw) ({ frames := 4, cells := 0, slots := 0, locals := 87 } : Room) (va_Pc [.ref (a 0)] (vPre dC dI (wB a k σ) (tB k) sz)) (qBv dC dI a k (va_A (wB a k σ) sz) q) 0 0 (va_A (wB a k σ) sz) := metB (fun A => qBv dC dI a k A q) (plainFor_of_name (by decide)) (Nat.le_of_ble_eq_true rfl) (fun _ _ _ _ _ _ _ _ hC => b_X11_go_e hC h)
