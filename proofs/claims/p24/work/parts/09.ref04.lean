theorem dX11_bitsOf_0 : decode cX11_bitsOf 0 = .ok (.aload_n 0, 1) := by decide +kernel
theorem dX11_bitsOf_1 : decode cX11_bitsOf 1 = .ok (.getfield 13, 3) := by decide +kernel
theorem dX11_bitsOf_4 : decode cX11_bitsOf 4 = .ok (.iload_n 1, 1) := by decide +kernel
theorem dX11_bitsOf_5 : decode cX11_bitsOf 5 = .ok (.iaload, 1) := by decide +kernel
theorem dX11_bitsOf_6 : decode cX11_bitsOf 6 = .ok (.istore_n 2, 1) := by decide +kernel
theorem dX11_bitsOf_7 : decode cX11_bitsOf 7 = .ok (.iload_n 2, 1) := by decide +kernel
theorem dX11_bitsOf_8 : decode cX11_bitsOf 8 = .ok (.iconst 4, 1) := by decide +kernel
theorem dX11_bitsOf_9 : decode cX11_bitsOf 9 = .ok (.if_icmp .ne 26, 3) := by decide +kernel
theorem dX11_bitsOf_12 : decode cX11_bitsOf 12 = .ok (.aload_n 0, 1) := by decide +kernel
theorem dX11_bitsOf_13 : decode cX11_bitsOf 13 = .ok (.getfield 234, 3) := by decide +kernel
theorem dX11_bitsOf_16 : decode cX11_bitsOf 16 = .ok (.ifCond .eq 10, 3) := by decide +kernel
theorem dX11_bitsOf_19 : decode cX11_bitsOf 19 = .ok (.aload_n 0, 1) := by decide +kernel
theorem dX11_bitsOf_20 : decode cX11_bitsOf 20 = .ok (.getfield 240, 3) := by decide +kernel
theorem dX11_bitsOf_23 : decode cX11_bitsOf 23 = .ok (.goto 8, 3) := by decide +kernel
theorem dX11_bitsOf_26 : decode cX11_bitsOf 26 = .ok (.aload_n 0, 1) := by decide +kernel
theorem dX11_bitsOf_27 : decode cX11_bitsOf 27 = .ok (.getfield 226, 3) := by decide +kernel
theorem dX11_bitsOf_30 : decode cX11_bitsOf 30 = .ok (.l2d, 1) := by decide +kernel
theorem dX11_bitsOf_31 : decode cX11_bitsOf 31 = .ok (.invokestatic 332, 3) := by decide +kernel
theorem dX11_bitsOf_34 : decode cX11_bitsOf 34 = .ok (.lreturn, 1) := by decide +kernel
theorem dX11_bitsOf_35 : decode cX11_bitsOf 35 = .ok (.iload_n 2, 1) := by decide +kernel
theorem dX11_bitsOf_36 : decode cX11_bitsOf 36 = .ok (.iconst 1, 1) := by decide +kernel
theorem dX11_bitsOf_37 : decode cX11_bitsOf 37 = .ok (.if_icmp .ne 18, 3) := by decide +kernel
theorem dX11_bitsOf_40 : decode cX11_bitsOf 40 = .ok (.aload_n 0, 1) := by decide +kernel
theorem dX11_bitsOf_41 : decode cX11_bitsOf 41 = .ok (.invokevirtual 306, 3) := by decide +kernel
theorem dX11_bitsOf_44 : decode cX11_bitsOf 44 = .ok (.ifCond .eq 7, 3) := by decide +kernel
theorem dX11_bitsOf_47 : decode cX11_bitsOf 47 = .ok (.lconst 1, 1) := by decide +kernel
theorem dX11_bitsOf_48 : decode cX11_bitsOf 48 = .ok (.goto 25, 3) := by decide +kernel
theorem dX11_bitsOf_51 : decode cX11_bitsOf 51 = .ok (.lconst 0, 1) := by decide +kernel
theorem dX11_bitsOf_52 : decode cX11_bitsOf 52 = .ok (.goto 21, 3) := by decide +kernel
theorem dX11_bitsOf_55 : decode cX11_bitsOf 55 = .ok (.iload_n 2, 1) := by decide +kernel
theorem dX11_bitsOf_56 : decode cX11_bitsOf 56 = .ok (.iconst 2, 1) := by decide +kernel
theorem dX11_bitsOf_57 : decode cX11_bitsOf 57 = .ok (.if_icmp .eq 8, 3) := by decide +kernel
theorem dX11_bitsOf_60 : decode cX11_bitsOf 60 = .ok (.iload_n 2, 1) := by decide +kernel
theorem dX11_bitsOf_61 : decode cX11_bitsOf 61 = .ok (.iconst 3, 1) := by decide +kernel
theorem dX11_bitsOf_62 : decode cX11_bitsOf 62 = .ok (.if_icmp .ne 10, 3) := by decide +kernel
theorem dX11_bitsOf_65 : decode cX11_bitsOf 65 = .ok (.aload_n 0, 1) := by decide +kernel
theorem dX11_bitsOf_66 : decode cX11_bitsOf 66 = .ok (.getfield 226, 3) := by decide +kernel
theorem dX11_bitsOf_69 : decode cX11_bitsOf 69 = .ok (.goto 4, 3) := by decide +kernel
theorem dX11_bitsOf_72 : decode cX11_bitsOf 72 = .ok (.lconst 0, 1) := by decide +kernel
theorem dX11_bitsOf_73 : decode cX11_bitsOf 73 = .ok (.lreturn, 1) := by decide +kernel
theorem dX11_branchFor_0 : decode cX11_branchFor 0 = .ok (.iconst 0, 1) := by decide +kernel
theorem dX11_branchFor_1 : decode cX11_branchFor 1 = .ok (.istore_n 2, 1) := by decide +kernel
theorem dX11_branchFor_2 : decode cX11_branchFor 2 = .ok (.iload_n 2, 1) := by decide +kernel
theorem dX11_branchFor_3 : decode cX11_branchFor 3 = .ok (.aload_n 0, 1) := by decide +kernel
theorem dX11_branchFor_4 : decode cX11_branchFor 4 = .ok (.getfield 20, 3) := by decide +kernel
theorem dX11_branchFor_7 : decode cX11_branchFor 7 = .ok (.iload_n 1, 1) := by decide +kernel
theorem dX11_branchFor_8 : decode cX11_branchFor 8 = .ok (.iaload, 1) := by decide +kernel
theorem dX11_branchFor_9 : decode cX11_branchFor 9 = .ok (.if_icmp .ge 28, 3) := by decide +kernel
theorem dX11_branchFor_12 : decode cX11_branchFor 12 = .ok (.aload_n 0, 1) := by decide +kernel
theorem dX11_branchFor_13 : decode cX11_branchFor 13 = .ok (.aload_n 0, 1) := by decide +kernel
theorem dX11_branchFor_14 : decode cX11_branchFor 14 = .ok (.getfield 23, 3) := by decide +kernel
theorem dX11_branchFor_17 : decode cX11_branchFor 17 = .ok (.iconst 4, 1) := by decide +kernel
theorem dX11_branchFor_18 : decode cX11_branchFor 18 = .ok (.iload_n 1, 1) := by decide +kernel
theorem dX11_branchFor_19 : decode cX11_branchFor 19 = .ok (.imul, 1) := by decide +kernel
theorem dX11_branchFor_20 : decode cX11_branchFor 20 = .ok (.iload_n 2, 1) := by decide +kernel
theorem dX11_branchFor_21 : decode cX11_branchFor 21 = .ok (.iadd, 1) := by decide +kernel
theorem dX11_branchFor_22 : decode cX11_branchFor 22 = .ok (.iaload, 1) := by decide +kernel
theorem dX11_branchFor_23 : decode cX11_branchFor 23 = .ok (.invokevirtual 345, 3) := by decide +kernel
theorem dX11_branchFor_26 : decode cX11_branchFor 26 = .ok (.ifCond .eq 5, 3) := by decide +kernel
theorem dX11_branchFor_29 : decode cX11_branchFor 29 = .ok (.iload_n 2, 1) := by decide +kernel
theorem dX11_branchFor_30 : decode cX11_branchFor 30 = .ok (.ireturn, 1) := by decide +kernel
theorem dX11_branchFor_31 : decode cX11_branchFor 31 = .ok (.iinc 2 1, 3) := by decide +kernel
theorem dX11_branchFor_34 : decode cX11_branchFor 34 = .ok (.goto (-32), 3) := by decide +kernel
theorem dX11_branchFor_37 : decode cX11_branchFor 37 = .ok (.iconst (-1), 1) := by decide +kernel
theorem dX11_branchFor_38 : decode cX11_branchFor 38 = .ok (.ireturn, 1) := by decide +kernel
theorem dX11_fits_0 : decode cX11_fits 0 = .ok (.aload_n 0, 1) := by decide +kernel
theorem dX11_fits_1 : decode cX11_fits 1 = .ok (.getfield 13, 3) := by decide +kernel
theorem dX11_fits_4 : decode cX11_fits 4 = .ok (.iload_n 1, 1) := by decide +kernel
theorem dX11_fits_5 : decode cX11_fits 5 = .ok (.iaload, 1) := by decide +kernel
theorem dX11_fits_6 : decode cX11_fits 6 = .ok (.tableswitch 176 0 6 #[42, 55, 75, 112, 133, 147, 161], 42) := by decide +kernel
theorem dX11_fits_48 : decode cX11_fits 48 = .ok (.aload_n 0, 1) := by decide +kernel
theorem dX11_fits_49 : decode cX11_fits 49 = .ok (.invokevirtual 286, 3) := by decide +kernel
theorem dX11_fits_52 : decode cX11_fits 52 = .ok (.ifCond .ne 7, 3) := by decide +kernel
theorem dX11_fits_55 : decode cX11_fits 55 = .ok (.iconst 1, 1) := by decide +kernel
theorem dX11_fits_56 : decode cX11_fits 56 = .ok (.goto 4, 3) := by decide +kernel
theorem dX11_fits_59 : decode cX11_fits 59 = .ok (.iconst 0, 1) := by decide +kernel
theorem dX11_fits_60 : decode cX11_fits 60 = .ok (.ireturn, 1) := by decide +kernel
theorem dX11_fits_61 : decode cX11_fits 61 = .ok (.aload_n 0, 1) := by decide +kernel
theorem dX11_fits_62 : decode cX11_fits 62 = .ok (.invokevirtual 306, 3) := by decide +kernel
theorem dX11_fits_65 : decode cX11_fits 65 = .ok (.ifCond .ne 10, 3) := by decide +kernel
theorem dX11_fits_68 : decode cX11_fits 68 = .ok (.aload_n 0, 1) := by decide +kernel
theorem dX11_fits_69 : decode cX11_fits 69 = .ok (.invokevirtual 309, 3) := by decide +kernel
theorem dX11_fits_72 : decode cX11_fits 72 = .ok (.ifCond .eq 7, 3) := by decide +kernel
theorem dX11_fits_75 : decode cX11_fits 75 = .ok (.iconst 1, 1) := by decide +kernel
theorem dX11_fits_76 : decode cX11_fits 76 = .ok (.goto 4, 3) := by decide +kernel
theorem dX11_fits_79 : decode cX11_fits 79 = .ok (.iconst 0, 1) := by decide +kernel
theorem dX11_fits_80 : decode cX11_fits 80 = .ok (.ireturn, 1) := by decide +kernel
theorem dX11_fits_81 : decode cX11_fits 81 = .ok (.aload_n 0, 1) := by decide +kernel
theorem dX11_fits_82 : decode cX11_fits 82 = .ok (.getfield 244, 3) := by decide +kernel
theorem dX11_fits_85 : decode cX11_fits 85 = .ok (.iconst 2, 1) := by decide +kernel
theorem dX11_fits_86 : decode cX11_fits 86 = .ok (.if_icmp .ne 30, 3) := by decide +kernel
theorem dX11_fits_89 : decode cX11_fits 89 = .ok (.aload_n 0, 1) := by decide +kernel
theorem dX11_fits_90 : decode cX11_fits 90 = .ok (.getfield 234, 3) := by decide +kernel
theorem dX11_fits_93 : decode cX11_fits 93 = .ok (.ifCond .ne 23, 3) := by decide +kernel
theorem dX11_fits_96 : decode cX11_fits 96 = .ok (.aload_n 0, 1) := by decide +kernel
theorem dX11_fits_97 : decode cX11_fits 97 = .ok (.getfield 226, 3) := by decide +kernel
theorem dX11_fits_100 : decode cX11_fits 100 = .ok (.ldc2_w 328, 3) := by decide +kernel
theorem dX11_fits_103 : decode cX11_fits 103 = .ok (.ldc2_w 330, 3) := by decide +kernel
theorem dX11_fits_106 : decode cX11_fits 106 = .ok (.invokestatic 196, 3) := by decide +kernel
theorem dX11_fits_109 : decode cX11_fits 109 = .ok (.ifCond .eq 7, 3) := by decide +kernel
theorem dX11_fits_112 : decode cX11_fits 112 = .ok (.iconst 1, 1) := by decide +kernel
theorem dX11_fits_113 : decode cX11_fits 113 = .ok (.goto 4, 3) := by decide +kernel
theorem dX11_fits_116 : decode cX11_fits 116 = .ok (.iconst 0, 1) := by decide +kernel
theorem dX11_fits_117 : decode cX11_fits 117 = .ok (.ireturn, 1) := by decide +kernel
theorem dX11_fits_118 : decode cX11_fits 118 = .ok (.aload_n 0, 1) := by decide +kernel
theorem dX11_fits_119 : decode cX11_fits 119 = .ok (.getfield 244, 3) := by decide +kernel
theorem dX11_fits_122 : decode cX11_fits 122 = .ok (.iconst 2, 1) := by decide +kernel
theorem dX11_fits_123 : decode cX11_fits 123 = .ok (.if_icmp .ne 14, 3) := by decide +kernel
theorem dX11_fits_126 : decode cX11_fits 126 = .ok (.aload_n 0, 1) := by decide +kernel
theorem dX11_fits_127 : decode cX11_fits 127 = .ok (.getfield 234, 3) := by decide +kernel
theorem dX11_fits_130 : decode cX11_fits 130 = .ok (.ifCond .ne 7, 3) := by decide +kernel
theorem dX11_fits_133 : decode cX11_fits 133 = .ok (.iconst 1, 1) := by decide +kernel
theorem dX11_fits_134 : decode cX11_fits 134 = .ok (.goto 4, 3) := by decide +kernel
theorem dX11_fits_137 : decode cX11_fits 137 = .ok (.iconst 0, 1) := by decide +kernel
theorem dX11_fits_138 : decode cX11_fits 138 = .ok (.ireturn, 1) := by decide +kernel
theorem dX11_fits_139 : decode cX11_fits 139 = .ok (.aload_n 0, 1) := by decide +kernel
theorem dX11_fits_140 : decode cX11_fits 140 = .ok (.getfield 244, 3) := by decide +kernel
theorem dX11_fits_143 : decode cX11_fits 143 = .ok (.iconst 2, 1) := by decide +kernel
theorem dX11_fits_144 : decode cX11_fits 144 = .ok (.if_icmp .ne 7, 3) := by decide +kernel
theorem dX11_fits_147 : decode cX11_fits 147 = .ok (.iconst 1, 1) := by decide +kernel
theorem dX11_fits_148 : decode cX11_fits 148 = .ok (.goto 4, 3) := by decide +kernel
theorem dX11_fits_151 : decode cX11_fits 151 = .ok (.iconst 0, 1) := by decide +kernel
theorem dX11_fits_152 : decode cX11_fits 152 = .ok (.ireturn, 1) := by decide +kernel
theorem dX11_fits_153 : decode cX11_fits 153 = .ok (.aload_n 0, 1) := by decide +kernel
theorem dX11_fits_154 : decode cX11_fits 154 = .ok (.getfield 244, 3) := by decide +kernel
theorem dX11_fits_157 : decode cX11_fits 157 = .ok (.iconst 3, 1) := by decide +kernel
theorem dX11_fits_158 : decode cX11_fits 158 = .ok (.if_icmp .ne 7, 3) := by decide +kernel
theorem dX11_fits_161 : decode cX11_fits 161 = .ok (.iconst 1, 1) := by decide +kernel
theorem dX11_fits_162 : decode cX11_fits 162 = .ok (.goto 4, 3) := by decide +kernel
theorem dX11_fits_165 : decode cX11_fits 165 = .ok (.iconst 0, 1) := by decide +kernel
theorem dX11_fits_166 : decode cX11_fits 166 = .ok (.ireturn, 1) := by decide +kernel
theorem dX11_fits_167 : decode cX11_fits 167 = .ok (.aload_n 0, 1) := by decide +kernel
theorem dX11_fits_168 : decode cX11_fits 168 = .ok (.getfield 253, 3) := by decide +kernel
theorem dX11_fits_171 : decode cX11_fits 171 = .ok (.bipush 91, 2) := by decide +kernel
theorem dX11_fits_173 : decode cX11_fits 173 = .ok (.if_icmp .ne 7, 3) := by decide +kernel
theorem dX11_fits_176 : decode cX11_fits 176 = .ok (.iconst 1, 1) := by decide +kernel
theorem dX11_fits_177 : decode cX11_fits 177 = .ok (.goto 4, 3) := by decide +kernel
theorem dX11_fits_180 : decode cX11_fits 180 = .ok (.iconst 0, 1) := by decide +kernel
theorem dX11_fits_181 : decode cX11_fits 181 = .ok (.ireturn, 1) := by decide +kernel
theorem dX11_fits_182 : decode cX11_fits 182 = .ok (.aload_n 0, 1) := by decide +kernel
theorem dX11_fits_183 : decode cX11_fits 183 = .ok (.getfield 13, 3) := by decide +kernel
theorem dX11_fits_186 : decode cX11_fits 186 = .ok (.iload_n 1, 1) := by decide +kernel
theorem dX11_fits_187 : decode cX11_fits 187 = .ok (.iaload, 1) := by decide +kernel
theorem dX11_fits_188 : decode cX11_fits 188 = .ok (.bipush 7, 2) := by decide +kernel
theorem dX11_fits_190 : decode cX11_fits 190 = .ok (.if_icmp .ne 16, 3) := by decide +kernel
theorem dX11_fits_193 : decode cX11_fits 193 = .ok (.aload_n 0, 1) := by decide +kernel
theorem dX11_fits_194 : decode cX11_fits 194 = .ok (.getfield 253, 3) := by decide +kernel
theorem dX11_fits_197 : decode cX11_fits 197 = .ok (.bipush 123, 2) := by decide +kernel
theorem dX11_fits_199 : decode cX11_fits 199 = .ok (.if_icmp .ne 7, 3) := by decide +kernel
theorem dX11_fits_202 : decode cX11_fits 202 = .ok (.iconst 1, 1) := by decide +kernel
theorem dX11_fits_203 : decode cX11_fits 203 = .ok (.goto 4, 3) := by decide +kernel
theorem dX11_fits_206 : decode cX11_fits 206 = .ok (.iconst 0, 1) := by decide +kernel
theorem dX11_fits_207 : decode cX11_fits 207 = .ok (.ireturn, 1) := by decide +kernel
theorem dX11_isAsked_0 : decode cX11_isAsked 0 = .ok (.iconst 0, 1) := by decide +kernel
theorem dX11_isAsked_1 : decode cX11_isAsked 1 = .ok (.istore_n 3, 1) := by decide +kernel
theorem dX11_isAsked_2 : decode cX11_isAsked 2 = .ok (.iconst 0, 1) := by decide +kernel
theorem dX11_isAsked_3 : decode cX11_isAsked 3 = .ok (.istore 4, 2) := by decide +kernel
theorem dX11_isAsked_5 : decode cX11_isAsked 5 = .ok (.iload 4, 2) := by decide +kernel
theorem dX11_isAsked_7 : decode cX11_isAsked 7 = .ok (.aload_n 0, 1) := by decide +kernel
theorem dX11_isAsked_8 : decode cX11_isAsked 8 = .ok (.getfield 20, 3) := by decide +kernel
theorem dX11_isAsked_11 : decode cX11_isAsked 11 = .ok (.iload_n 1, 1) := by decide +kernel
theorem dX11_isAsked_12 : decode cX11_isAsked 12 = .ok (.iaload, 1) := by decide +kernel
theorem dX11_isAsked_13 : decode cX11_isAsked 13 = .ok (.if_icmp .ge 39, 3) := by decide +kernel
theorem dX11_isAsked_16 : decode cX11_isAsked 16 = .ok (.iload_n 3, 1) := by decide +kernel
theorem dX11_isAsked_17 : decode cX11_isAsked 17 = .ok (.ifCond .ne 23, 3) := by decide +kernel
theorem dX11_isAsked_20 : decode cX11_isAsked 20 = .ok (.aload_n 0, 1) := by decide +kernel
theorem dX11_isAsked_21 : decode cX11_isAsked 21 = .ok (.getfield 13, 3) := by decide +kernel
theorem dX11_isAsked_24 : decode cX11_isAsked 24 = .ok (.aload_n 0, 1) := by decide +kernel
theorem dX11_isAsked_25 : decode cX11_isAsked 25 = .ok (.getfield 23, 3) := by decide +kernel
theorem dX11_isAsked_28 : decode cX11_isAsked 28 = .ok (.iconst 4, 1) := by decide +kernel
theorem dX11_isAsked_29 : decode cX11_isAsked 29 = .ok (.iload_n 1, 1) := by decide +kernel
theorem dX11_isAsked_30 : decode cX11_isAsked 30 = .ok (.imul, 1) := by decide +kernel
theorem dX11_isAsked_31 : decode cX11_isAsked 31 = .ok (.iload 4, 2) := by decide +kernel
theorem dX11_isAsked_33 : decode cX11_isAsked 33 = .ok (.iadd, 1) := by decide +kernel
theorem dX11_isAsked_34 : decode cX11_isAsked 34 = .ok (.iaload, 1) := by decide +kernel
theorem dX11_isAsked_35 : decode cX11_isAsked 35 = .ok (.iaload, 1) := by decide +kernel
theorem dX11_isAsked_36 : decode cX11_isAsked 36 = .ok (.iload_n 2, 1) := by decide +kernel
theorem dX11_isAsked_37 : decode cX11_isAsked 37 = .ok (.if_icmp .ne 7, 3) := by decide +kernel
theorem dX11_isAsked_40 : decode cX11_isAsked 40 = .ok (.iconst 1, 1) := by decide +kernel
theorem dX11_isAsked_41 : decode cX11_isAsked 41 = .ok (.goto 4, 3) := by decide +kernel
theorem dX11_isAsked_44 : decode cX11_isAsked 44 = .ok (.iconst 0, 1) := by decide +kernel
theorem dX11_isAsked_45 : decode cX11_isAsked 45 = .ok (.istore_n 3, 1) := by decide +kernel
theorem dX11_isAsked_46 : decode cX11_isAsked 46 = .ok (.iinc 4 1, 3) := by decide +kernel
theorem dX11_isAsked_49 : decode cX11_isAsked 49 = .ok (.goto (-44), 3) := by decide +kernel
theorem dX11_isAsked_52 : decode cX11_isAsked 52 = .ok (.iload_n 3, 1) := by decide +kernel
theorem dX11_isAsked_53 : decode cX11_isAsked 53 = .ok (.ireturn, 1) := by decide +kernel
theorem dX11_isElse_0 : decode cX11_isElse 0 = .ok (.aload_n 0, 1) := by decide +kernel
theorem dX11_isElse_1 : decode cX11_isElse 1 = .ok (.bipush 101, 2) := by decide +kernel
theorem dX11_isElse_3 : decode cX11_isElse 3 = .ok (.bipush 108, 2) := by decide +kernel
theorem dX11_isElse_5 : decode cX11_isElse 5 = .ok (.bipush 115, 2) := by decide +kernel
theorem dX11_isElse_7 : decode cX11_isElse 7 = .ok (.bipush 101, 2) := by decide +kernel
theorem dX11_isElse_9 : decode cX11_isElse 9 = .ok (.iconst 0, 1) := by decide +kernel
theorem dX11_isElse_10 : decode cX11_isElse 10 = .ok (.iconst 0, 1) := by decide +kernel
theorem dX11_isElse_11 : decode cX11_isElse 11 = .ok (.invokestatic 278, 3) := by decide +kernel
theorem dX11_isElse_14 : decode cX11_isElse 14 = .ok (.invokevirtual 282, 3) := by decide +kernel
theorem dX11_isElse_17 : decode cX11_isElse 17 = .ok (.ireturn, 1) := by decide +kernel
theorem dX11_isName_0 : decode cX11_isName 0 = .ok (.aload_n 0, 1) := by decide +kernel
theorem dX11_isName_1 : decode cX11_isName 1 = .ok (.invokevirtual 286, 3) := by decide +kernel
theorem dX11_isName_4 : decode cX11_isName 4 = .ok (.ifCond .ge 52, 3) := by decide +kernel
theorem dX11_isName_7 : decode cX11_isName 7 = .ok (.aload_n 0, 1) := by decide +kernel
theorem dX11_isName_8 : decode cX11_isName 8 = .ok (.invokevirtual 290, 3) := by decide +kernel
theorem dX11_isName_11 : decode cX11_isName 11 = .ok (.ifCond .ne 45, 3) := by decide +kernel
theorem dX11_isName_14 : decode cX11_isName 14 = .ok (.aload_n 0, 1) := by decide +kernel
theorem dX11_isName_15 : decode cX11_isName 15 = .ok (.invokevirtual 294, 3) := by decide +kernel
theorem dX11_isName_18 : decode cX11_isName 18 = .ok (.ifCond .ne 38, 3) := by decide +kernel
theorem dX11_isName_21 : decode cX11_isName 21 = .ok (.aload_n 0, 1) := by decide +kernel
theorem dX11_isName_22 : decode cX11_isName 22 = .ok (.invokevirtual 297, 3) := by decide +kernel
theorem dX11_isName_25 : decode cX11_isName 25 = .ok (.ifCond .ne 31, 3) := by decide +kernel
theorem dX11_isName_28 : decode cX11_isName 28 = .ok (.aload_n 0, 1) := by decide +kernel
theorem dX11_isName_29 : decode cX11_isName 29 = .ok (.invokevirtual 300, 3) := by decide +kernel
theorem dX11_isName_32 : decode cX11_isName 32 = .ok (.ifCond .ne 24, 3) := by decide +kernel
theorem dX11_isName_35 : decode cX11_isName 35 = .ok (.aload_n 0, 1) := by decide +kernel
theorem dX11_isName_36 : decode cX11_isName 36 = .ok (.invokevirtual 303, 3) := by decide +kernel
theorem dX11_isName_39 : decode cX11_isName 39 = .ok (.ifCond .ne 17, 3) := by decide +kernel
theorem dX11_isName_42 : decode cX11_isName 42 = .ok (.aload_n 0, 1) := by decide +kernel
theorem dX11_isName_43 : decode cX11_isName 43 = .ok (.invokevirtual 306, 3) := by decide +kernel
theorem dX11_isName_46 : decode cX11_isName 46 = .ok (.ifCond .ne 10, 3) := by decide +kernel
theorem dX11_isName_49 : decode cX11_isName 49 = .ok (.aload_n 0, 1) := by decide +kernel
theorem dX11_isName_50 : decode cX11_isName 50 = .ok (.invokevirtual 309, 3) := by decide +kernel
theorem dX11_isName_53 : decode cX11_isName 53 = .ok (.ifCond .eq 7, 3) := by decide +kernel
theorem dX11_isName_56 : decode cX11_isName 56 = .ok (.iconst 1, 1) := by decide +kernel
theorem dX11_isName_57 : decode cX11_isName 57 = .ok (.goto 4, 3) := by decide +kernel
theorem dX11_isName_60 : decode cX11_isName 60 = .ok (.iconst 0, 1) := by decide +kernel
theorem dX11_isName_61 : decode cX11_isName 61 = .ok (.istore_n 1, 1) := by decide +kernel
theorem dX11_isName_62 : decode cX11_isName 62 = .ok (.aload_n 0, 1) := by decide +kernel
theorem dX11_isName_63 : decode cX11_isName 63 = .ok (.getfield 244, 3) := by decide +kernel
theorem dX11_isName_66 : decode cX11_isName 66 = .ok (.iconst 1, 1) := by decide +kernel
theorem dX11_isName_67 : decode cX11_isName 67 = .ok (.if_icmp .ne 11, 3) := by decide +kernel
theorem dX11_isName_70 : decode cX11_isName 70 = .ok (.iload_n 1, 1) := by decide +kernel
theorem dX11_isName_71 : decode cX11_isName 71 = .ok (.ifCond .ne 7, 3) := by decide +kernel
theorem dX11_isName_74 : decode cX11_isName 74 = .ok (.iconst 1, 1) := by decide +kernel
theorem dX11_isName_75 : decode cX11_isName 75 = .ok (.goto 4, 3) := by decide +kernel
theorem dX11_isName_78 : decode cX11_isName 78 = .ok (.iconst 0, 1) := by decide +kernel
theorem dX11_isName_79 : decode cX11_isName 79 = .ok (.ireturn, 1) := by decide +kernel
theorem dX11_isNo_0 : decode cX11_isNo 0 = .ok (.aload_n 0, 1) := by decide +kernel
theorem dX11_isNo_1 : decode cX11_isNo 1 = .ok (.bipush 110, 2) := by decide +kernel
theorem dX11_isNo_3 : decode cX11_isNo 3 = .ok (.bipush 111, 2) := by decide +kernel
theorem dX11_isNo_5 : decode cX11_isNo 5 = .ok (.iconst 0, 1) := by decide +kernel
theorem dX11_isNo_6 : decode cX11_isNo 6 = .ok (.iconst 0, 1) := by decide +kernel
theorem dX11_isNo_7 : decode cX11_isNo 7 = .ok (.iconst 0, 1) := by decide +kernel
theorem dX11_isNo_8 : decode cX11_isNo 8 = .ok (.iconst 0, 1) := by decide +kernel
theorem dX11_isNo_9 : decode cX11_isNo 9 = .ok (.invokestatic 278, 3) := by decide +kernel
theorem dX11_isNo_12 : decode cX11_isNo 12 = .ok (.invokevirtual 282, 3) := by decide +kernel
theorem dX11_isNo_15 : decode cX11_isNo 15 = .ok (.ireturn, 1) := by decide +kernel
theorem dX11_isOr_0 : decode cX11_isOr 0 = .ok (.aload_n 0, 1) := by decide +kernel
theorem dX11_isOr_1 : decode cX11_isOr 1 = .ok (.bipush 111, 2) := by decide +kernel
theorem dX11_isOr_3 : decode cX11_isOr 3 = .ok (.bipush 114, 2) := by decide +kernel
theorem dX11_isOr_5 : decode cX11_isOr 5 = .ok (.iconst 0, 1) := by decide +kernel
theorem dX11_isOr_6 : decode cX11_isOr 6 = .ok (.iconst 0, 1) := by decide +kernel
theorem dX11_isOr_7 : decode cX11_isOr 7 = .ok (.iconst 0, 1) := by decide +kernel
theorem dX11_isOr_8 : decode cX11_isOr 8 = .ok (.iconst 0, 1) := by decide +kernel
theorem dX11_isOr_9 : decode cX11_isOr 9 = .ok (.invokestatic 278, 3) := by decide +kernel
theorem dX11_isOr_12 : decode cX11_isOr 12 = .ok (.invokevirtual 282, 3) := by decide +kernel
theorem dX11_isOr_15 : decode cX11_isOr 15 = .ok (.ireturn, 1) := by decide +kernel
theorem dX11_isPlan_0 : decode cX11_isPlan 0 = .ok (.aload_n 0, 1) := by decide +kernel
theorem dX11_isPlan_1 : decode cX11_isPlan 1 = .ok (.bipush 112, 2) := by decide +kernel
theorem dX11_isPlan_3 : decode cX11_isPlan 3 = .ok (.bipush 108, 2) := by decide +kernel
theorem dX11_isPlan_5 : decode cX11_isPlan 5 = .ok (.bipush 97, 2) := by decide +kernel
theorem dX11_isPlan_7 : decode cX11_isPlan 7 = .ok (.bipush 110, 2) := by decide +kernel
theorem dX11_isPlan_9 : decode cX11_isPlan 9 = .ok (.iconst 0, 1) := by decide +kernel
theorem dX11_isPlan_10 : decode cX11_isPlan 10 = .ok (.iconst 0, 1) := by decide +kernel
theorem dX11_isPlan_11 : decode cX11_isPlan 11 = .ok (.invokestatic 278, 3) := by decide +kernel
theorem dX11_isPlan_14 : decode cX11_isPlan 14 = .ok (.invokevirtual 282, 3) := by decide +kernel
theorem dX11_isPlan_17 : decode cX11_isPlan 17 = .ok (.ireturn, 1) := by decide +kernel
theorem dX11_isRecord_0 : decode cX11_isRecord 0 = .ok (.aload_n 0, 1) := by decide +kernel
theorem dX11_isRecord_1 : decode cX11_isRecord 1 = .ok (.bipush 114, 2) := by decide +kernel
theorem dX11_isRecord_3 : decode cX11_isRecord 3 = .ok (.bipush 101, 2) := by decide +kernel
theorem dX11_isRecord_5 : decode cX11_isRecord 5 = .ok (.bipush 99, 2) := by decide +kernel
theorem dX11_isRecord_7 : decode cX11_isRecord 7 = .ok (.bipush 111, 2) := by decide +kernel
theorem dX11_isRecord_9 : decode cX11_isRecord 9 = .ok (.bipush 114, 2) := by decide +kernel
theorem dX11_isRecord_11 : decode cX11_isRecord 11 = .ok (.bipush 100, 2) := by decide +kernel
theorem dX11_isRecord_13 : decode cX11_isRecord 13 = .ok (.invokestatic 278, 3) := by decide +kernel
theorem dX11_isRecord_16 : decode cX11_isRecord 16 = .ok (.invokevirtual 282, 3) := by decide +kernel
theorem dX11_isRecord_19 : decode cX11_isRecord 19 = .ok (.ireturn, 1) := by decide +kernel
theorem dX11_isWas_0 : decode cX11_isWas 0 = .ok (.aload_n 0, 1) := by decide +kernel
theorem dX11_isWas_1 : decode cX11_isWas 1 = .ok (.bipush 119, 2) := by decide +kernel
theorem dX11_isWas_3 : decode cX11_isWas 3 = .ok (.bipush 97, 2) := by decide +kernel
theorem dX11_isWas_5 : decode cX11_isWas 5 = .ok (.bipush 115, 2) := by decide +kernel
theorem dX11_isWas_7 : decode cX11_isWas 7 = .ok (.iconst 0, 1) := by decide +kernel
theorem dX11_isWas_8 : decode cX11_isWas 8 = .ok (.iconst 0, 1) := by decide +kernel
theorem dX11_isWas_9 : decode cX11_isWas 9 = .ok (.iconst 0, 1) := by decide +kernel
theorem dX11_isWas_10 : decode cX11_isWas 10 = .ok (.invokestatic 278, 3) := by decide +kernel
theorem dX11_isWas_13 : decode cX11_isWas 13 = .ok (.invokevirtual 282, 3) := by decide +kernel
theorem dX11_isWas_16 : decode cX11_isWas 16 = .ok (.ireturn, 1) := by decide +kernel
theorem dX11_isWord_0 : decode cX11_isWord 0 = .ok (.aload_n 0, 1) := by decide +kernel
theorem dX11_isWord_1 : decode cX11_isWord 1 = .ok (.getfield 244, 3) := by decide +kernel
theorem dX11_isWord_4 : decode cX11_isWord 4 = .ok (.iconst 1, 1) := by decide +kernel
theorem dX11_isWord_5 : decode cX11_isWord 5 = .ok (.if_icmp .ne 16, 3) := by decide +kernel
theorem dX11_isWord_8 : decode cX11_isWord 8 = .ok (.aload_n 0, 1) := by decide +kernel
theorem dX11_isWord_9 : decode cX11_isWord 9 = .ok (.getfield 204, 3) := by decide +kernel
theorem dX11_isWord_12 : decode cX11_isWord 12 = .ok (.lload_n 1, 1) := by decide +kernel
theorem dX11_isWord_13 : decode cX11_isWord 13 = .ok (.lcmp, 1) := by decide +kernel
theorem dX11_isWord_14 : decode cX11_isWord 14 = .ok (.ifCond .ne 7, 3) := by decide +kernel
theorem dX11_isWord_17 : decode cX11_isWord 17 = .ok (.iconst 1, 1) := by decide +kernel
theorem dX11_isWord_18 : decode cX11_isWord 18 = .ok (.goto 4, 3) := by decide +kernel
theorem dX11_isWord_21 : decode cX11_isWord 21 = .ok (.iconst 0, 1) := by decide +kernel
theorem dX11_isWord_22 : decode cX11_isWord 22 = .ok (.ireturn, 1) := by decide +kernel
theorem dX11_isYes_0 : decode cX11_isYes 0 = .ok (.aload_n 0, 1) := by decide +kernel
theorem dX11_isYes_1 : decode cX11_isYes 1 = .ok (.bipush 121, 2) := by decide +kernel
theorem dX11_isYes_3 : decode cX11_isYes 3 = .ok (.bipush 101, 2) := by decide +kernel
theorem dX11_isYes_5 : decode cX11_isYes 5 = .ok (.bipush 115, 2) := by decide +kernel
theorem dX11_isYes_7 : decode cX11_isYes 7 = .ok (.iconst 0, 1) := by decide +kernel
theorem dX11_isYes_8 : decode cX11_isYes 8 = .ok (.iconst 0, 1) := by decide +kernel
theorem dX11_isYes_9 : decode cX11_isYes 9 = .ok (.iconst 0, 1) := by decide +kernel
theorem dX11_isYes_10 : decode cX11_isYes 10 = .ok (.invokestatic 278, 3) := by decide +kernel
theorem dX11_isYes_13 : decode cX11_isYes 13 = .ok (.invokevirtual 282, 3) := by decide +kernel
theorem dX11_isYes_16 : decode cX11_isYes 16 = .ok (.ireturn, 1) := by decide +kernel
theorem dX11_sortHere_0 : decode cX11_sortHere 0 = .ok (.aload_n 0, 1) := by decide +kernel
theorem dX11_sortHere_1 : decode cX11_sortHere 1 = .ok (.bipush 110, 2) := by decide +kernel
theorem dX11_sortHere_3 : decode cX11_sortHere 3 = .ok (.bipush 111, 2) := by decide +kernel
theorem dX11_sortHere_5 : decode cX11_sortHere 5 = .ok (.bipush 110, 2) := by decide +kernel
theorem dX11_sortHere_7 : decode cX11_sortHere 7 = .ok (.bipush 101, 2) := by decide +kernel
theorem dX11_sortHere_9 : decode cX11_sortHere 9 = .ok (.iconst 0, 1) := by decide +kernel
theorem dX11_sortHere_10 : decode cX11_sortHere 10 = .ok (.iconst 0, 1) := by decide +kernel
theorem dX11_sortHere_11 : decode cX11_sortHere 11 = .ok (.invokestatic 278, 3) := by decide +kernel
theorem dX11_sortHere_14 : decode cX11_sortHere 14 = .ok (.invokevirtual 282, 3) := by decide +kernel
theorem dX11_sortHere_17 : decode cX11_sortHere 17 = .ok (.ifCond .eq 5, 3) := by decide +kernel
theorem dX11_sortHere_20 : decode cX11_sortHere 20 = .ok (.iconst 0, 1) := by decide +kernel
theorem dX11_sortHere_21 : decode cX11_sortHere 21 = .ok (.ireturn, 1) := by decide +kernel
theorem dX11_sortHere_22 : decode cX11_sortHere 22 = .ok (.aload_n 0, 1) := by decide +kernel
theorem dX11_sortHere_23 : decode cX11_sortHere 23 = .ok (.bipush 102, 2) := by decide +kernel
theorem dX11_sortHere_25 : decode cX11_sortHere 25 = .ok (.bipush 108, 2) := by decide +kernel
theorem dX11_sortHere_27 : decode cX11_sortHere 27 = .ok (.bipush 97, 2) := by decide +kernel
theorem dX11_sortHere_29 : decode cX11_sortHere 29 = .ok (.bipush 103, 2) := by decide +kernel
theorem dX11_sortHere_31 : decode cX11_sortHere 31 = .ok (.iconst 0, 1) := by decide +kernel
theorem dX11_sortHere_32 : decode cX11_sortHere 32 = .ok (.iconst 0, 1) := by decide +kernel
theorem dX11_sortHere_33 : decode cX11_sortHere 33 = .ok (.invokestatic 278, 3) := by decide +kernel
theorem dX11_sortHere_36 : decode cX11_sortHere 36 = .ok (.invokevirtual 282, 3) := by decide +kernel
theorem dX11_sortHere_39 : decode cX11_sortHere 39 = .ok (.ifCond .eq 5, 3) := by decide +kernel
theorem dX11_sortHere_42 : decode cX11_sortHere 42 = .ok (.iconst 1, 1) := by decide +kernel
theorem dX11_sortHere_43 : decode cX11_sortHere 43 = .ok (.ireturn, 1) := by decide +kernel
theorem dX11_sortHere_44 : decode cX11_sortHere 44 = .ok (.aload_n 0, 1) := by decide +kernel
theorem dX11_sortHere_45 : decode cX11_sortHere 45 = .ok (.bipush 105, 2) := by decide +kernel
theorem dX11_sortHere_47 : decode cX11_sortHere 47 = .ok (.bipush 110, 2) := by decide +kernel
theorem dX11_sortHere_49 : decode cX11_sortHere 49 = .ok (.bipush 116, 2) := by decide +kernel
theorem dX11_sortHere_51 : decode cX11_sortHere 51 = .ok (.iconst 0, 1) := by decide +kernel
theorem dX11_sortHere_52 : decode cX11_sortHere 52 = .ok (.iconst 0, 1) := by decide +kernel
theorem dX11_sortHere_53 : decode cX11_sortHere 53 = .ok (.iconst 0, 1) := by decide +kernel
theorem dX11_sortHere_54 : decode cX11_sortHere 54 = .ok (.invokestatic 278, 3) := by decide +kernel
theorem dX11_sortHere_57 : decode cX11_sortHere 57 = .ok (.invokevirtual 282, 3) := by decide +kernel
theorem dX11_sortHere_60 : decode cX11_sortHere 60 = .ok (.ifCond .eq 5, 3) := by decide +kernel
theorem dX11_sortHere_63 : decode cX11_sortHere 63 = .ok (.iconst 2, 1) := by decide +kernel
theorem dX11_sortHere_64 : decode cX11_sortHere 64 = .ok (.ireturn, 1) := by decide +kernel
theorem dX11_sortHere_65 : decode cX11_sortHere 65 = .ok (.aload_n 0, 1) := by decide +kernel
theorem dX11_sortHere_66 : decode cX11_sortHere 66 = .ok (.bipush 108, 2) := by decide +kernel
theorem dX11_sortHere_68 : decode cX11_sortHere 68 = .ok (.bipush 111, 2) := by decide +kernel
theorem dX11_sortHere_70 : decode cX11_sortHere 70 = .ok (.bipush 110, 2) := by decide +kernel
theorem dX11_sortHere_72 : decode cX11_sortHere 72 = .ok (.bipush 103, 2) := by decide +kernel
theorem dX11_sortHere_74 : decode cX11_sortHere 74 = .ok (.iconst 0, 1) := by decide +kernel
theorem dX11_sortHere_75 : decode cX11_sortHere 75 = .ok (.iconst 0, 1) := by decide +kernel
theorem dX11_sortHere_76 : decode cX11_sortHere 76 = .ok (.invokestatic 278, 3) := by decide +kernel
theorem dX11_sortHere_79 : decode cX11_sortHere 79 = .ok (.invokevirtual 282, 3) := by decide +kernel
theorem dX11_sortHere_82 : decode cX11_sortHere 82 = .ok (.ifCond .eq 5, 3) := by decide +kernel
theorem dX11_sortHere_85 : decode cX11_sortHere 85 = .ok (.iconst 3, 1) := by decide +kernel
theorem dX11_sortHere_86 : decode cX11_sortHere 86 = .ok (.ireturn, 1) := by decide +kernel
theorem dX11_sortHere_87 : decode cX11_sortHere 87 = .ok (.aload_n 0, 1) := by decide +kernel
theorem dX11_sortHere_88 : decode cX11_sortHere 88 = .ok (.bipush 114, 2) := by decide +kernel
theorem dX11_sortHere_90 : decode cX11_sortHere 90 = .ok (.bipush 101, 2) := by decide +kernel
theorem dX11_sortHere_92 : decode cX11_sortHere 92 = .ok (.bipush 97, 2) := by decide +kernel
theorem dX11_sortHere_94 : decode cX11_sortHere 94 = .ok (.bipush 108, 2) := by decide +kernel
theorem dX11_sortHere_96 : decode cX11_sortHere 96 = .ok (.iconst 0, 1) := by decide +kernel
theorem dX11_sortHere_97 : decode cX11_sortHere 97 = .ok (.iconst 0, 1) := by decide +kernel
theorem dX11_sortHere_98 : decode cX11_sortHere 98 = .ok (.invokestatic 278, 3) := by decide +kernel
theorem dX11_sortHere_101 : decode cX11_sortHere 101 = .ok (.invokevirtual 282, 3) := by decide +kernel
theorem dX11_sortHere_104 : decode cX11_sortHere 104 = .ok (.ifCond .eq 5, 3) := by decide +kernel
theorem dX11_sortHere_107 : decode cX11_sortHere 107 = .ok (.iconst 4, 1) := by decide +kernel
theorem dX11_sortHere_108 : decode cX11_sortHere 108 = .ok (.ireturn, 1) := by decide +kernel
theorem dX11_sortHere_109 : decode cX11_sortHere 109 = .ok (.aload_n 0, 1) := by decide +kernel
theorem dX11_sortHere_110 : decode cX11_sortHere 110 = .ok (.bipush 116, 2) := by decide +kernel
theorem dX11_sortHere_112 : decode cX11_sortHere 112 = .ok (.bipush 101, 2) := by decide +kernel
theorem dX11_sortHere_114 : decode cX11_sortHere 114 = .ok (.bipush 120, 2) := by decide +kernel
theorem dX11_sortHere_116 : decode cX11_sortHere 116 = .ok (.bipush 116, 2) := by decide +kernel
theorem dX11_sortHere_118 : decode cX11_sortHere 118 = .ok (.iconst 0, 1) := by decide +kernel
theorem dX11_sortHere_119 : decode cX11_sortHere 119 = .ok (.iconst 0, 1) := by decide +kernel
theorem dX11_sortHere_120 : decode cX11_sortHere 120 = .ok (.invokestatic 278, 3) := by decide +kernel
theorem dX11_sortHere_123 : decode cX11_sortHere 123 = .ok (.invokevirtual 282, 3) := by decide +kernel
theorem dX11_sortHere_126 : decode cX11_sortHere 126 = .ok (.ifCond .eq 5, 3) := by decide +kernel
theorem dX11_sortHere_129 : decode cX11_sortHere 129 = .ok (.iconst 5, 1) := by decide +kernel
theorem dX11_sortHere_130 : decode cX11_sortHere 130 = .ok (.ireturn, 1) := by decide +kernel
theorem dX11_sortHere_131 : decode cX11_sortHere 131 = .ok (.aload_n 0, 1) := by decide +kernel
theorem dX11_sortHere_132 : decode cX11_sortHere 132 = .ok (.bipush 108, 2) := by decide +kernel
theorem dX11_sortHere_134 : decode cX11_sortHere 134 = .ok (.bipush 105, 2) := by decide +kernel
theorem dX11_sortHere_136 : decode cX11_sortHere 136 = .ok (.bipush 115, 2) := by decide +kernel
theorem dX11_sortHere_138 : decode cX11_sortHere 138 = .ok (.bipush 116, 2) := by decide +kernel
theorem dX11_sortHere_140 : decode cX11_sortHere 140 = .ok (.iconst 0, 1) := by decide +kernel
theorem dX11_sortHere_141 : decode cX11_sortHere 141 = .ok (.iconst 0, 1) := by decide +kernel
theorem dX11_sortHere_142 : decode cX11_sortHere 142 = .ok (.invokestatic 278, 3) := by decide +kernel
theorem dX11_sortHere_145 : decode cX11_sortHere 145 = .ok (.invokevirtual 282, 3) := by decide +kernel
theorem dX11_sortHere_148 : decode cX11_sortHere 148 = .ok (.ifCond .eq 6, 3) := by decide +kernel
theorem dX11_sortHere_151 : decode cX11_sortHere 151 = .ok (.bipush 6, 2) := by decide +kernel
theorem dX11_sortHere_153 : decode cX11_sortHere 153 = .ok (.ireturn, 1) := by decide +kernel
theorem dX11_sortHere_154 : decode cX11_sortHere 154 = .ok (.aload_n 0, 1) := by decide +kernel
theorem dX11_sortHere_155 : decode cX11_sortHere 155 = .ok (.bipush 101, 2) := by decide +kernel
theorem dX11_sortHere_157 : decode cX11_sortHere 157 = .ok (.bipush 105, 2) := by decide +kernel
theorem dX11_sortHere_159 : decode cX11_sortHere 159 = .ok (.bipush 116, 2) := by decide +kernel
theorem dX11_sortHere_161 : decode cX11_sortHere 161 = .ok (.bipush 104, 2) := by decide +kernel
theorem dX11_sortHere_163 : decode cX11_sortHere 163 = .ok (.bipush 101, 2) := by decide +kernel
theorem dX11_sortHere_165 : decode cX11_sortHere 165 = .ok (.bipush 114, 2) := by decide +kernel
theorem dX11_sortHere_167 : decode cX11_sortHere 167 = .ok (.invokestatic 278, 3) := by decide +kernel
theorem dX11_sortHere_170 : decode cX11_sortHere 170 = .ok (.invokevirtual 282, 3) := by decide +kernel
theorem dX11_sortHere_173 : decode cX11_sortHere 173 = .ok (.ifCond .eq 8, 3) := by decide +kernel
theorem dX11_sortHere_176 : decode cX11_sortHere 176 = .ok (.bipush 8, 2) := by decide +kernel
theorem dX11_sortHere_178 : decode cX11_sortHere 178 = .ok (.goto 4, 3) := by decide +kernel
theorem dX11_sortHere_181 : decode cX11_sortHere 181 = .ok (.iconst (-1), 1) := by decide +kernel
theorem dX11_sortHere_182 : decode cX11_sortHere 182 = .ok (.ireturn, 1) := by decide +kernel
theorem dX11_wrong_0 : decode cX11_wrong 0 = .ok (.aload_n 0, 1) := by decide +kernel
theorem dX11_wrong_1 : decode cX11_wrong 1 = .ok (.aload_n 0, 1) := by decide +kernel
theorem dX11_wrong_2 : decode cX11_wrong 2 = .ok (.getfield 265, 3) := by decide +kernel
theorem dX11_wrong_5 : decode cX11_wrong 5 = .ok (.ifCond .ne 12, 3) := by decide +kernel
theorem dX11_wrong_8 : decode cX11_wrong 8 = .ok (.bipush 8, 2) := by decide +kernel
theorem dX11_wrong_10 : decode cX11_wrong 10 = .ok (.iload_n 2, 1) := by decide +kernel
theorem dX11_wrong_11 : decode cX11_wrong 11 = .ok (.imul, 1) := by decide +kernel
theorem dX11_wrong_12 : decode cX11_wrong 12 = .ok (.iload_n 1, 1) := by decide +kernel
theorem dX11_wrong_13 : decode cX11_wrong 13 = .ok (.iadd, 1) := by decide +kernel
theorem dX11_wrong_14 : decode cX11_wrong 14 = .ok (.goto 7, 3) := by decide +kernel
theorem dX11_wrong_17 : decode cX11_wrong 17 = .ok (.aload_n 0, 1) := by decide +kernel
theorem dX11_wrong_18 : decode cX11_wrong 18 = .ok (.getfield 265, 3) := by decide +kernel
theorem dX11_wrong_21 : decode cX11_wrong 21 = .ok (.putfield 265, 3) := by decide +kernel
theorem dX11_wrong_24 : decode cX11_wrong 24 = .ok (.iconst 0, 1) := by decide +kernel
theorem dX11_wrong_25 : decode cX11_wrong 25 = .ok (.ireturn, 1) := by decide +kernel
def f_X11_begins (p0 : Int32) (σ : ST) : Option (ST) := (f_X11_go   (stI (stI (stI (stI σ 0 3 p0) 0 2 0) 0 5 0) 0 12 0)).bind fun q1 => some q1

set_option maxRecDepth 100000 in
set_option maxHeartbeats 4000000 in
theorem b_X11_begins_e {p : Program} {l : Launch} {e : Env} {s : State} {m : MethodId} {args : Array Value} {below : List Frame} {meth : Method} {c : Code} {dC : Nat → ClassId} {dI : Nat → Nat → Nat} {a : Nat → Nat} {k : Nat → ClassId} {A : Nat → Prop} {q : ST} (hC : CxB p s m args meth c dC dI k A cX11_begins RX11 none 2)   {p0 : Int32} {σ : ST} (h : f_X11_begins  p0 σ = some q) : GoB p l e ({ frames := 5, cells := 0, slots := 0, locals := 108 } : Room) s m args below meth c (MQ below (qBv dC dI a k A q) args s 0 0 A) dC dI a k A 2 0 σ (lv_args 0 [.ref (a 0), .int p0]) [] := by
  have hC0 := hC
  obtain ⟨hx, hb, hr, hml, hown, hts, hlocks, hA, hN, hK⟩ := hC0
  intro H locs ls hP hD hS hl
  have hD0 : ∀ σ1 : ST, va_D A (wB a k σ1) := fun σ1 => wB_D hD
  replace hl : lv_has ls 2 [(0, .ref (a 0)), (1, .int p0)] := hl
  unfold f_X11_begins at h
  refine lv_aload_n hx hb dX11_begins_0 rfl (lv_at hl 0 rfl) ?_
  refine lv_iload_n hx hb dX11_begins_1 rfl (lv_at hl 1 rfl) ?_
  refine va_put (D := (dC, dI)) (ci := 11) (ty := .int) (C := RX11) (T := TX11) (N := 95) hx hb hts inlX11 tyX11 tyX11_ok nmX11 hown hK hP hD hS 0 gB_0 rfl 3 (by decide) (hts (.fieldLink RX11 189 "ShapeReaderModel" "size" "I") mw_28_27) (fun _ h9 => h9) rfl (by decide +kernel) rfl rfl (Nat.le_of_ble_eq_true rfl) dX11_begins_2 (fun H locs hP hD hS => ?_)
  replace hP := uB_0_3 hP
  replace hD := hD0 ((stI σ 0 3 p0))
  refine lv_aload_n hx hb dX11_begins_5 rfl (lv_at hl 0 rfl) ?_
  refine lv_iconst (v := 0) hx hb dX11_begins_6 (by decide) ?_
  refine va_put (D := (dC, dI)) (ci := 11) (ty := .int) (C := RX11) (T := TX11) (N := 95) hx hb hts inlX11 tyX11 tyX11_ok nmX11 hown hK hP hD hS 0 gB_0 rfl 2 (by decide) (hts (.fieldLink RX11 182 "ShapeReaderModel" "taped" "I") mw_28_23) (fun _ h9 => h9) rfl (by decide +kernel) rfl rfl (Nat.le_of_ble_eq_true rfl) dX11_begins_7 (fun H locs hP hD hS => ?_)
  replace hP := uB_0_2 hP
  replace hD := hD0 ((stI (stI σ 0 3 p0) 0 2 0))
  refine lv_aload_n hx hb dX11_begins_10 rfl (lv_at hl 0 rfl) ?_
  refine lv_iconst (v := 0) hx hb dX11_begins_11 (by decide) ?_
  refine va_put (D := (dC, dI)) (ci := 11) (ty := .int) (C := RX11) (T := TX11) (N := 95) hx hb hts inlX11 tyX11 tyX11_ok nmX11 hown hK hP hD hS 0 gB_0 rfl 5 (by decide) (hts (.fieldLink RX11 211 "ShapeReaderModel" "next" "I") mw_29_6) (fun _ h9 => h9) rfl (by decide +kernel) rfl rfl (Nat.le_of_ble_eq_true rfl) dX11_begins_12 (fun H locs hP hD hS => ?_)
  replace hP := uB_0_5 hP
  replace hD := hD0 ((stI (stI (stI σ 0 3 p0) 0 2 0) 0 5 0))
  refine lv_aload_n hx hb dX11_begins_15 rfl (lv_at hl 0 rfl) ?_
  refine lv_iconst (v := 0) hx hb dX11_begins_16 (by decide) ?_
  refine va_put (D := (dC, dI)) (ci := 11) (ty := .int) (C := RX11) (T := TX11) (N := 95) hx hb hts inlX11 tyX11 tyX11_ok nmX11 hown hK hP hD hS 0 gB_0 rfl 12 (by decide) (hts (.fieldLink RX11 265 "ShapeReaderModel" "fault" "I") mw_30_5) (fun _ h9 => h9) rfl (by decide +kernel) rfl rfl (Nat.le_of_ble_eq_true rfl) dX11_begins_17 (fun H locs hP hD hS => ?_)
  replace hP := uB_0_12 hP
  replace hD := hD0 ((stI (stI (stI (stI σ 0 3 p0) 0 2 0) 0 5 0) 0 12 0))
  refine lv_aload_n hx hb dX11_begins_20 rfl (lv_at hl 0 rfl) ?_
  obtain ⟨q1, hc, h⟩ := ib h
  have hF := va_frees hD hS hA
  refine va_callv (va_runV (As := []) (rest := []) ⟨hx, hb, hml, hown, hts⟩ (s_X11_go hc) (cwV 0 hts (gV mw_30_12 mw_30_13 mw_30_14 mw_0_15 mw_54_6) rfl rfl rfl (by decide +kernel) ⟨(Nat.le_of_ble_eq_true rfl), (Nat.le_of_ble_eq_true rfl)⟩) (vV (ci := 11) (q0 := 0) hK hP hD hN rfl gB_0) rfl rfl hl.1 rfl (lv_room (Nat.le_of_ble_eq_true rfl)) dX11_begins_21 ⟨(Nat.le_of_ble_eq_true rfl), (Nat.le_of_ble_eq_true rfl)⟩) hS (fun q _ h => hF q h) hF (fun u t H locs ht hvm hw hB _ _ hS => ?_)
  replace hP : va_P (dC, dI) vwCl (wB a k q1) H := by rw [← ht]; exact hB.1
  replace hD := hD0 (q1)
  clear hB hF
  obtain rfl := Option.some.inj h
  exact W.vret hx hb hr (fun t ht hW => ⟨⟨(), rfl, trivial, ⟨by rw [ht]; exact hP, va_K.moved hW.alike hK, hD⟩⟩, hS.F ht⟩) hS.2.2 dX11_begins_24

theorem s_X11_begins {l : Launch} {dC : Nat → ClassId} {dI : Nat → Nat → Nat} {a : Nat → Nat} {k : Nat → ClassId} {sz : Nat} {p0 : Int32} {σ : ST} {q : ST} (h : f_X11_begins  p0 σ = some q) : Met l yX11_begins (.code yX11_begins cX11_begins 2 none :: pw) ({ frames := 5, cells := 0, slots := 0, locals := 108 } : Room) (va_Pc [.ref (a 0), .int p0] (vPre dC dI (wB a k σ) (tB k) sz)) (qBv dC dI a k (va_A (wB a k σ) sz) q) 0 0 (va_A (wB a k σ) sz) := metB (fun A => qBv dC dI a k A q) (plainFor_of_name (by decide)) (Nat.le_of_ble_eq_true rfl) (fun _ _ _ _ _ _ _ _ hC => b_X11_begins_e hC h)

def f_X11_isWord (p0 : Int64) (σ : ST) : Option (Int32 × ST) := if (σ.1 0 6) = 1 then (if (lg_cmp (σ.2.1 0 7) p0) = 0 then (some (1, σ)) else (some (0, σ))) else (some (0, σ))

set_option maxRecDepth 100000 in
set_option maxHeartbeats 4000000 in
theorem b_X11_isWord_e {p : Program} {l : Launch} {e : Env} {s : State} {m : MethodId} {args : Array Value} {below : List Frame} {meth : Method} {c : Code} {dC : Nat → ClassId} {dI : Nat → Nat → Nat} {a : Nat → Nat} {k : Nat → ClassId} {A : Nat → Prop} {q : Int32 × ST} (hC : CxB p s m args meth c dC dI k A cX11_isWord RX11 (some .boolean) 3)   {p0 : Int64} {σ : ST} (h : f_X11_isWord  p0 σ = some q) : GoB p l e ({ frames := 0, cells := 0, slots := 0, locals := 0 } : Room) s m args below meth c (MQ below (qBi dC dI a k A q) args s 0 0 A) dC dI a k A 3 0 σ (lv_args 0 [.ref (a 0), .long p0]) [] := by
  have hC0 := hC
  obtain ⟨hx, hb, hr, hml, hown, hts, hlocks, hA, hN, hK⟩ := hC0
  intro H locs ls hP hD hS hl
  have hD0 : ∀ σ1 : ST, va_D A (wB a k σ1) := fun σ1 => wB_D hD
  replace hl : lv_has ls 3 [(0, .ref (a 0)), (1, .long p0)] := hl
  unfold f_X11_isWord at h
  refine lv_aload_n hx hb dX11_isWord_0 rfl (lv_at hl 0 rfl) ?_
  refine va_get (D := (dC, dI)) (ci := 11) (C := RX11) (T := TX11) (N := 95) hx hb hts inlX11 hown hK hP 0 gB_0 rfl 6 (by decide) (hts (.fieldLink RX11 244 "ShapeReaderModel" "token" "I") mw_29_21) (fun _ h9 => h9) rfl dX11_isWord_1 ?_
  refine lv_iconst (v := 1) hx hb dX11_isWord_4 (by decide) ?_
  refine lv_icmp_ne (tgt := 21) hx hb dX11_isWord_5 (by decide) (fun hc => ?_) (fun hc => ?_)
  · replace h := iq hc h
    refine lv_iconst (v := 0) hx hb dX11_isWord_21 (by decide) ?_
    obtain rfl := Option.some.inj h
    exact W.zret hx hb hr rfl (fun t ht hW => ⟨⟨_, (), rfl, rfl, ⟨by rw [ht]; exact hP, va_K.moved hW.alike hK, hD⟩⟩, hS.F ht⟩) hS.2.2 dX11_isWord_22
  · replace h := ip hc h
    refine lv_aload_n hx hb dX11_isWord_8 rfl (lv_at hl 0 rfl) ?_
    refine va_get (D := (dC, dI)) (ci := 11) (C := RX11) (T := TX11) (N := 95) hx hb hts inlX11 hown hK hP 0 gB_0 rfl 7 (by decide) (hts (.fieldLink RX11 204 "ShapeReaderModel" "letters" "J") mw_29_4) (fun _ h9 => h9) rfl dX11_isWord_9 ?_
    refine lv_lload_n hx hb dX11_isWord_12 rfl (lv_at hl 1 rfl) ?_
    refine W.lcmp hx hb dX11_isWord_13 ?_
    refine lv_if_ne (tgt := 21) hx hb dX11_isWord_14 (by decide) (fun hc => ?_) (fun hc => ?_)
    · replace h := iq hc h
      refine lv_iconst (v := 0) hx hb dX11_isWord_21 (by decide) ?_
      obtain rfl := Option.some.inj h
      exact W.zret hx hb hr rfl (fun t ht hW => ⟨⟨_, (), rfl, rfl, ⟨by rw [ht]; exact hP, va_K.moved hW.alike hK, hD⟩⟩, hS.F ht⟩) hS.2.2 dX11_isWord_22
    · replace h := ip hc h
      refine lv_iconst (v := 1) hx hb dX11_isWord_17 (by decide) ?_
      refine lv_goto (tgt := 22) hx hb dX11_isWord_18 (by decide) ?_
      obtain rfl := Option.some.inj h
      exact W.zret hx hb hr rfl (fun t ht hW => ⟨⟨_, (), rfl, rfl, ⟨by rw [ht]; exact hP, va_K.moved hW.alike hK, hD⟩⟩, hS.F ht⟩) hS.2.2 dX11_isWord_22

theorem s_X11_isWord {l : Launch} {dC : Nat → ClassId} {dI : Nat → Nat → Nat} {a : Nat → Nat} {k : Nat → ClassId} {sz : Nat} {p0 : Int64} {σ : ST} {q : Int32 × ST} (h : f_X11_isWord  p0 σ = some q) : Met l yX11_isWord (.code yX11_isWord cX11_isWord 3 (some .boolean) :: pw) ({ frames := 0, cells := 0, slots := 0, locals := 0 } : Room) (va_Pc [.ref (a 0), .long p0] (vPre dC dI (wB a k σ) (tB k) sz)) (qBi dC dI a k (va_A (wB a k σ) sz) q) 0 0 (va_A (wB a k σ) sz) := metB (fun A => qBi dC dI a k A q) (plainFor_of_name (by decide)) (Nat.le_of_ble_eq_true rfl) (fun _ _ _ _ _ _ _ _ hC => b_X11_isWord_e hC h)

def f_X11_isYes (σ : ST) : Option ((Int32 × ST) × Nat) := (f_X11_spelt  121 101 115 0 0 0 σ).bind fun q1 => ac q1.2 ((f_X11_isWord  q1.1.1 q1.1.2).bind fun q3 => if q3.1 = 0 ∨ q3.1 = 1 then some ((q3.1, q3.2), 0) else none)

set_option maxRecDepth 100000 in
set_option maxHeartbeats 4000000 in
theorem b_X11_isYes_e {p : Program} {l : Launch} {e : Env} {s : State} {m : MethodId} {args : Array Value} {below : List Frame} {meth : Method} {c : Code} {dC : Nat → ClassId} {dI : Nat → Nat → Nat} {a : Nat → Nat} {k : Nat → ClassId} {A : Nat → Prop} {q : Int32 × ST} {T r : Nat} (hC : CxB p s m args meth c dC dI k A cX11_isYes RX11 (some .boolean) 1)    {σ : ST} (h : f_X11_isYes   σ = some (q, r)) (hκ : 0 + r = T) : GkB p l e ({ frames := 1, cells := T, slots := 6 * T, locals := 29 } : Room) s m args below meth c (MQ below (qBi dC dI a k A q) args s T (6 * T) A) dC dI a k A 1 0 0 σ (lv_args 0 [.ref (a 0)]) [] := by
  have hC0 := hC
  obtain ⟨hx, hb, hr, hml, hown, hts, hlocks, hA, hN, hK⟩ := hC0
  intro H locs ls hP hD hS hl
  have hD0 : ∀ σ1 : ST, va_D A (wB a k σ1) := fun σ1 => wB_D hD
  replace hl : lv_has ls 1 [(0, .ref (a 0))] := hl
  unfold f_X11_isYes at h
  refine lv_aload_n hx hb dX11_isYes_0 rfl (lv_at hl 0 rfl) ?_
  refine lv_bipush (v := 121) hx hb dX11_isYes_1 (by decide) ?_
  refine lv_bipush (v := 101) hx hb dX11_isYes_3 (by decide) ?_
  refine lv_bipush (v := 115) hx hb dX11_isYes_5 (by decide) ?_
  refine lv_iconst (v := 0) hx hb dX11_isYes_7 (by decide) ?_
  refine lv_iconst (v := 0) hx hb dX11_isYes_8 (by decide) ?_
  refine lv_iconst (v := 0) hx hb dX11_isYes_9 (by decide) ?_
  obtain ⟨q1, hc, h⟩ := ib h
  obtain ⟨r2, h, hz⟩ := acE h
  have hF := va_frees hD hS hA
  refine va_calll (va_runS (As := [.int 121, .int 101, .int 115, .int 0, .int 0, .int 0]) (rest := [.ref (a 0)]) ⟨hx, hb, hml, hown, hts⟩ (s_X11_spelt (q := q1.1) (r := q1.2) hc) (va_cwS 6 hts (gS mw_30_15 mw_30_16 mw_0_15 mw_54_7) rfl rfl rfl (by decide +kernel) ⟨(Nat.le_of_ble_eq_true rfl), (Nat.le_of_ble_eq_true rfl)⟩) (vS hK hP hD hN) rfl rfl hl.1 rfl (lv_room (Nat.le_of_ble_eq_true rfl)) dX11_isYes_10 ⟨by show 0 + q1.2 ≤ T; omega, by show 6 * 0 + 6 * q1.2 ≤ 6 * T; omega⟩) hS (fun q _ h => hF q h) hF (fun r2 u t H locs ht hvm hw hB _ _ hS => ?_)
  obtain rfl : r2 = q1.1.1 := hw
  replace hκ : (0 + q1.2) + r2 = T := by omega
  clear hz
  refine W.widen (k := (0 + q1.2)) (n := 6 * (0 + q1.2)) (Nat.le_refl _) (by omega) ?_
  replace hP : va_P (dC, dI) vwCl (wB a k q1.1.2) H := by rw [← ht]; exact hB.1
  replace hD := hD0 (q1.1.2)
  clear hB hF
  obtain ⟨q3, hc, h⟩ := ib h
  have hF := va_frees hD hS hA
  refine va_calli (va_runV (As := [.long q1.1.1]) (rest := []) ⟨hx, hb, hml, hown, hts⟩ (s_X11_isWord hc) (cwV 1 hts (gV mw_30_17 mw_30_18 mw_30_19 mw_0_15 mw_54_8) rfl rfl rfl (by decide +kernel) ⟨(Nat.le_of_ble_eq_true rfl), (Nat.le_of_ble_eq_true rfl)⟩) (vV (ci := 11) (q0 := 0) hK hP hD hN rfl gB_0) rfl rfl hl.1 rfl (lv_room (Nat.le_of_ble_eq_true rfl)) dX11_isYes_13 ⟨by show (0 + q1.2) + 0 ≤ T; omega, by show 6 * (0 + q1.2) + 0 ≤ 6 * T; omega⟩) hS (fun q _ h => hF q h) hF (fun r4 u t H locs ht hvm hw hB _ _ hS => ?_)
  obtain rfl : r4 = q3.1 := hw
  replace hP : va_P (dC, dI) vwCl (wB a k q3.2) H := by rw [← ht]; exact hB.1
  replace hD := hD0 (q3.2)
  clear hB hF
  obtain ⟨hg, h⟩ := ig h
  obtain ⟨rfl, rfl⟩ := Prod.mk.inj (Option.some.inj h)
  subst hκ
  exact W.zret hx hb hr (zn hg) (fun t ht hW => ⟨⟨_, (), rfl, rfl, ⟨by rw [ht]; exact hP, va_K.moved hW.alike hK, hD⟩⟩, hS.F ht⟩) hS.2.2 dX11_isYes_16

theorem s_X11_isYes {l : Launch} {dC : Nat → ClassId} {dI : Nat → Nat → Nat} {a : Nat → Nat} {k : Nat → ClassId} {sz : Nat}  {σ : ST} {q : Int32 × ST} {r : Nat} (h : f_X11_isYes   σ = some (q, r)) : Met l yX11_isYes (.code yX11_isYes cX11_isYes 1 (some .boolean) :: pw) ({ frames := 1, cells := r, slots := 6 * r, locals := 29 } : Room) (va_Pc [.ref (a 0)] (vPre dC dI (wB a k σ) (tB k) sz)) (qBi dC dI a k (va_A (wB a k σ) sz) q) r (6 * r) (va_A (wB a k σ) sz) := mekB (fun A => qBi dC dI a k A q) (plainFor_of_name (by decide)) (Nat.le_of_ble_eq_true rfl) (fun _ _ _ _ _ _ _ _ hC => b_X11_isYes_e hC h (Nat.zero_add _))

def f_X11_bitsOf_31 (y0 : UInt64) (σ : ST) : Option ((Int64 × ST) × Nat) := (f_Jxe99ae_doubleToLongBits_ccdee  y0 σ).bind fun q1 => some ((q1.1, q1.2), 0)
def f_X11_bitsOf_65 (σ : ST) : Option ((Int64 × ST) × Nat) := some (((σ.2.1 0 9), σ), 0)
def f_X11_bitsOf (p0 : Int32) (σ : ST) : Option ((Int64 × ST) × Nat) := if 0 ≤ p0.toInt ∧ p0.toInt < 800 then (if (σ.1 2 p0.toNatClampNeg) = 4 then (if (σ.1 0 10) = 0 then (f_X11_bitsOf_31  (FP.l2d (σ.2.1 0 9)) σ) else (f_X11_bitsOf_31  (σ.2.2.1 0 11) σ)) else (if (σ.1 2 p0.toNatClampNeg) = 1 then ((f_X11_isYes   σ).bind fun q2 => ac q2.2 (if q2.1.1 = 0 then (some ((0, q2.1.2), 0)) else (some ((1, q2.1.2), 0)))) else (if (σ.1 2 p0.toNatClampNeg) = 2 then (f_X11_bitsOf_65   σ) else (if (σ.1 2 p0.toNatClampNeg) = 3 then (f_X11_bitsOf_65   σ) else (some ((0, σ), 0)))))) else none

set_option maxRecDepth 100000 in
set_option maxHeartbeats 4000000 in
theorem b_X11_bitsOf_31 {p : Program} {l : Launch} {e : Env} {s : State} {m : MethodId} {args : Array Value} {below : List Frame} {meth : Method} {c : Code} {dC : Nat → ClassId} {dI : Nat → Nat → Nat} {a : Nat → Nat} {k : Nat → ClassId} {A : Nat → Prop} {q : Int64 × ST} {T r κ : Nat} (hC : CxB p s m args meth c dC dI k A cX11_bitsOf RX11 (some .long) 3)   {y0 : UInt64} {σ : ST} (h : f_X11_bitsOf_31  y0 σ = some (q, r)) (hκ : κ + r = T) : GkB p l e ({ frames := 2, cells := T, slots := 6 * T, locals := 51 } : Room) s m args below meth c (MQ below (qBl dC dI a k A q) args s T (6 * T) A) dC dI a k A 3 31 κ σ [] [.double y0] := by
  have hC0 := hC
  obtain ⟨hx, hb, hr, hml, hown, hts, hlocks, hA, hN, hK⟩ := hC0
  intro H locs ls hP hD hS hl
  have hD0 : ∀ σ1 : ST, va_D A (wB a k σ1) := fun σ1 => wB_D hD
  unfold f_X11_bitsOf_31 at h
  obtain ⟨q1, hc, h⟩ := ib h
  have hF := va_frees hD hS hA
  refine va_calll (va_runS (As := [.double y0]) (rest := []) ⟨hx, hb, hml, hown, hts⟩ (s_Jxe99ae_doubleToLongBits_ccdee hc) (va_cwS 1 hts (gS mw_31_29 mw_32_0 mw_32_1 mw_57_20) rfl rfl rfl (by decide +kernel) ⟨(Nat.le_of_ble_eq_true rfl), (Nat.le_of_ble_eq_true rfl)⟩) (vS hK hP hD hN) rfl rfl hl.1 rfl (lv_room (Nat.le_of_ble_eq_true rfl)) dX11_bitsOf_31 ⟨by show κ + 0 ≤ T; omega, by show 6 * κ + 0 ≤ 6 * T; omega⟩) hS (fun q _ h => hF q h) hF (fun r2 u t H locs ht hvm hw hB _ _ hS => ?_)
  obtain rfl : r2 = q1.1 := hw
  replace hP : va_P (dC, dI) vwCl (wB a k q1.2) H := by rw [← ht]; exact hB.1
  replace hD := hD0 (q1.2)
  clear hB hF
  obtain ⟨rfl, rfl⟩ := Prod.mk.inj (Option.some.inj h)
  subst hκ
  exact W.lret hx hb hr (fun t ht hW => ⟨⟨_, (), rfl, rfl, ⟨by rw [ht]; exact hP, va_K.moved hW.alike hK, hD⟩⟩, hS.F ht⟩) hS.2.2 dX11_bitsOf_34

set_option maxRecDepth 100000 in
set_option maxHeartbeats 4000000 in
theorem b_X11_bitsOf_65 {p : Program} {l : Launch} {e : Env} {s : State} {m : MethodId} {args : Array Value} {below : List Frame} {meth : Method} {c : Code} {dC : Nat → ClassId} {dI : Nat → Nat → Nat} {a : Nat → Nat} {k : Nat → ClassId} {A : Nat → Prop} {q : Int64 × ST} {T r κ : Nat} (hC : CxB p s m args meth c dC dI k A cX11_bitsOf RX11 (some .long) 3)    {σ : ST} (h : f_X11_bitsOf_65   σ = some (q, r)) (hκ : κ + r = T) : GkB p l e ({ frames := 2, cells := T, slots := 6 * T, locals := 51 } : Room) s m args below meth c (MQ below (qBl dC dI a k A q) args s T (6 * T) A) dC dI a k A 3 65 κ σ [(0, .ref (a 0))] [] := by
  have hC0 := hC
  obtain ⟨hx, hb, hr, hml, hown, hts, hlocks, hA, hN, hK⟩ := hC0
  intro H locs ls hP hD hS hl
  have hD0 : ∀ σ1 : ST, va_D A (wB a k σ1) := fun σ1 => wB_D hD
  unfold f_X11_bitsOf_65 at h
  refine lv_aload_n hx hb dX11_bitsOf_65 rfl (lv_at hl 0 rfl) ?_
  refine va_get (D := (dC, dI)) (ci := 11) (C := RX11) (T := TX11) (N := 95) hx hb hts inlX11 hown hK hP 0 gB_0 rfl 9 (by decide) (hts (.fieldLink RX11 226 "ShapeReaderModel" "whole" "J") mw_29_14) (fun _ h9 => h9) rfl dX11_bitsOf_66 ?_
  refine lv_goto (tgt := 73) hx hb dX11_bitsOf_69 (by decide) ?_
  obtain ⟨rfl, rfl⟩ := Prod.mk.inj (Option.some.inj h)
  subst hκ
  exact W.lret hx hb hr (fun t ht hW => ⟨⟨_, (), rfl, rfl, ⟨by rw [ht]; exact hP, va_K.moved hW.alike hK, hD⟩⟩, hS.F ht⟩) hS.2.2 dX11_bitsOf_73

set_option maxRecDepth 100000 in
set_option maxHeartbeats 4000000 in
theorem b_X11_bitsOf_e {p : Program} {l : Launch} {e : Env} {s : State} {m : MethodId} {args : Array Value} {below : List Frame} {meth : Method} {c : Code} {dC : Nat → ClassId} {dI : Nat → Nat → Nat} {a : Nat → Nat} {k : Nat → ClassId} {A : Nat → Prop} {q : Int64 × ST} {T r : Nat} (hC : CxB p s m args meth c dC dI k A cX11_bitsOf RX11 (some .long) 3)   {p0 : Int32} {σ : ST} (h : f_X11_bitsOf  p0 σ = some (q, r)) (hκ : 0 + r = T) : GkB p l e ({ frames := 2, cells := T, slots := 6 * T, locals := 51 } : Room) s m args below meth c (MQ below (qBl dC dI a k A q) args s T (6 * T) A) dC dI a k A 3 0 0 σ (lv_args 0 [.ref (a 0), .int p0]) [] := by
  have hC0 := hC
  obtain ⟨hx, hb, hr, hml, hown, hts, hlocks, hA, hN, hK⟩ := hC0
  intro H locs ls hP hD hS hl
  have hD0 : ∀ σ1 : ST, va_D A (wB a k σ1) := fun σ1 => wB_D hD
  replace hl : lv_has ls 3 [(0, .ref (a 0)), (1, .int p0)] := hl
  unfold f_X11_bitsOf at h
  refine lv_aload_n hx hb dX11_bitsOf_0 rfl (lv_at hl 0 rfl) ?_
  refine va_get (D := (dC, dI)) (ci := 11) (C := RX11) (T := TX11) (N := 95) hx hb hts inlX11 hown hK hP 0 gB_0 rfl 14 (by decide) (hts (.fieldLink RX11 13 "ShapeReaderModel" "typeSort" "[I") mw_26_28) (fun _ h9 => h9) rfl dX11_bitsOf_1 ?_
  refine lv_iload_n hx hb dX11_bitsOf_4 rfl (lv_at hl 1 rfl) ?_
  obtain ⟨hg1, h⟩ := ig h
  refine va_iald hx hb hK hP 2 1 gB_2 yB_2 (vp_in_iff.mpr hg1) dX11_bitsOf_5 ?_
  refine lv_istore_n (lv' := [(2, .int (σ.1 2 p0.toNatClampNeg)), (0, .ref (a 0)), (1, .int p0)]) hx hb dX11_bitsOf_6 rfl hl (by decide) rfl (fun ls hl => ?_)
  refine lv_iload_n hx hb dX11_bitsOf_7 rfl (lv_at hl 0 rfl) ?_
  refine lv_iconst (v := 4) hx hb dX11_bitsOf_8 (by decide) ?_
  refine lv_icmp_ne (tgt := 35) hx hb dX11_bitsOf_9 (by decide) (fun hc => ?_) (fun hc => ?_)
  · replace h := iq hc h
    refine lv_iload_n hx hb dX11_bitsOf_35 rfl (lv_at hl 0 rfl) ?_
    refine lv_iconst (v := 1) hx hb dX11_bitsOf_36 (by decide) ?_
    refine lv_icmp_ne (tgt := 55) hx hb dX11_bitsOf_37 (by decide) (fun hc => ?_) (fun hc => ?_)
    · replace h := iq hc h
      refine lv_iload_n hx hb dX11_bitsOf_55 rfl (lv_at hl 0 rfl) ?_
      refine lv_iconst (v := 2) hx hb dX11_bitsOf_56 (by decide) ?_
      refine lv_icmp_eq (tgt := 65) hx hb dX11_bitsOf_57 (by decide) (fun hc => ?_) (fun hc => ?_)
      · replace h := ip hc h
        exact b_X11_bitsOf_65 hC h hκ _ _ _ hP hD hS (lv_sub hl [1] rfl)
      · replace h := iq hc h
        refine lv_iload_n hx hb dX11_bitsOf_60 rfl (lv_at hl 0 rfl) ?_
        refine lv_iconst (v := 3) hx hb dX11_bitsOf_61 (by decide) ?_
        refine lv_icmp_ne (tgt := 72) hx hb dX11_bitsOf_62 (by decide) (fun hc => ?_) (fun hc => ?_)
        · replace h := iq hc h
          refine lv_lconst (v := 0) hx hb dX11_bitsOf_72 (by decide) ?_
          obtain ⟨rfl, rfl⟩ := Prod.mk.inj (Option.some.inj h)
          subst hκ
          exact W.lret hx hb hr (fun t ht hW => ⟨⟨_, (), rfl, rfl, ⟨by rw [ht]; exact hP, va_K.moved hW.alike hK, hD⟩⟩, hS.F ht⟩) hS.2.2 dX11_bitsOf_73
        · replace h := ip hc h
          exact b_X11_bitsOf_65 hC h hκ _ _ _ hP hD hS (lv_sub hl [1] rfl)
    · replace h := ip hc h
      refine lv_aload_n hx hb dX11_bitsOf_40 rfl (lv_at hl 1 rfl) ?_
      obtain ⟨q2, hc, h⟩ := ib h
      obtain ⟨r2, h, hz⟩ := acE h
      have hF := va_frees hD hS hA
      refine va_calli (va_runV (As := []) (rest := []) ⟨hx, hb, hml, hown, hts⟩ (s_X11_isYes (q := q2.1) (r := q2.2) hc) (cwV 0 hts (gV mw_31_8 mw_31_9 mw_31_10 mw_0_15 mw_54_18) rfl rfl rfl (by decide +kernel) ⟨(Nat.le_of_ble_eq_true rfl), (Nat.le_of_ble_eq_true rfl)⟩) (vV (ci := 11) (q0 := 0) hK hP hD hN rfl gB_0) rfl rfl hl.1 rfl (lv_room (Nat.le_of_ble_eq_true rfl)) dX11_bitsOf_41 ⟨by show 0 + q2.2 ≤ T; omega, by show 6 * 0 + 6 * q2.2 ≤ 6 * T; omega⟩) hS (fun q _ h => hF q h) hF (fun r3 u t H locs ht hvm hw hB _ _ hS => ?_)
      obtain rfl : r3 = q2.1.1 := hw
      replace hκ : (0 + q2.2) + r2 = T := by omega
      clear hz
      refine W.widen (k := (0 + q2.2)) (n := 6 * (0 + q2.2)) (Nat.le_refl _) (by omega) ?_
      replace hP : va_P (dC, dI) vwCl (wB a k q2.1.2) H := by rw [← ht]; exact hB.1
      replace hD := hD0 (q2.1.2)
      clear hB hF
      refine lv_if_eq (tgt := 51) hx hb dX11_bitsOf_44 (by decide) (fun hc => ?_) (fun hc => ?_)
      · replace h := ip hc h
        refine lv_lconst (v := 0) hx hb dX11_bitsOf_51 (by decide) ?_
        refine lv_goto (tgt := 73) hx hb dX11_bitsOf_52 (by decide) ?_
        obtain ⟨rfl, rfl⟩ := Prod.mk.inj (Option.some.inj h)
        subst hκ
        exact W.lret hx hb hr (fun t ht hW => ⟨⟨_, (), rfl, rfl, ⟨by rw [ht]; exact hP, va_K.moved hW.alike hK, hD⟩⟩, hS.F ht⟩) hS.2.2 dX11_bitsOf_73
      · replace h := iq hc h
        refine lv_lconst (v := 1) hx hb dX11_bitsOf_47 (by decide) ?_
        refine lv_goto (tgt := 73) hx hb dX11_bitsOf_48 (by decide) ?_
        obtain ⟨rfl, rfl⟩ := Prod.mk.inj (Option.some.inj h)
        subst hκ
        exact W.lret hx hb hr (fun t ht hW => ⟨⟨_, (), rfl, rfl, ⟨by rw [ht]; exact hP, va_K.moved hW.alike hK, hD⟩⟩, hS.F ht⟩) hS.2.2 dX11_bitsOf_73
  · replace h := ip hc h
    refine lv_aload_n hx hb dX11_bitsOf_12 rfl (lv_at hl 1 rfl) ?_
    refine va_get (D := (dC, dI)) (ci := 11) (C := RX11) (T := TX11) (N := 95) hx hb hts inlX11 hown hK hP 0 gB_0 rfl 10 (by decide) (hts (.fieldLink RX11 234 "ShapeReaderModel" "isPointed" "Z") mw_29_18) (fun _ h9 => h9) rfl dX11_bitsOf_13 ?_
    refine lv_if_eq (tgt := 26) hx hb dX11_bitsOf_16 (by decide) (fun hc => ?_) (fun hc => ?_)
    · replace h := ip hc h
      refine lv_aload_n hx hb dX11_bitsOf_26 rfl (lv_at hl 1 rfl) ?_
      refine va_get (D := (dC, dI)) (ci := 11) (C := RX11) (T := TX11) (N := 95) hx hb hts inlX11 hown hK hP 0 gB_0 rfl 9 (by decide) (hts (.fieldLink RX11 226 "ShapeReaderModel" "whole" "J") mw_29_14) (fun _ h9 => h9) rfl dX11_bitsOf_27 ?_
      refine lv_l2d hx hb dX11_bitsOf_30 ?_
      exact b_X11_bitsOf_31 hC h hκ _ _ _ hP hD hS (lv_sub hl [] rfl)
    · replace h := iq hc h
      refine lv_aload_n hx hb dX11_bitsOf_19 rfl (lv_at hl 1 rfl) ?_
      refine va_get (D := (dC, dI)) (ci := 11) (C := RX11) (T := TX11) (N := 95) hx hb hts inlX11 hown hK hP 0 gB_0 rfl 11 (by decide) (hts (.fieldLink RX11 240 "ShapeReaderModel" "pointed" "D") mw_29_20) (fun _ h9 => h9) rfl dX11_bitsOf_20 ?_
      refine lv_goto (tgt := 31) hx hb dX11_bitsOf_23 (by decide) ?_
      exact b_X11_bitsOf_31 hC h hκ _ _ _ hP hD hS (lv_sub hl [] rfl)

theorem s_X11_bitsOf {l : Launch} {dC : Nat → ClassId} {dI : Nat → Nat → Nat} {a : Nat → Nat} {k : Nat → ClassId} {sz : Nat} {p0 : Int32} {σ : ST} {q : Int64 × ST} {r : Nat} (h : f_X11_bitsOf  p0 σ = some (q, r)) : Met l yX11_bitsOf (.code yX11_bitsOf cX11_bitsOf 3 (some .long) :: pw) ({ frames := 2, cells := r, slots := 6 * r, locals := 51 } : Room) (va_Pc [.ref (a 0), .int p0] (vPre dC dI (wB a k σ) (tB k) sz)) (qBl dC dI a k (va_A (wB a k σ) sz) q) r (6 * r) (va_A (wB a k σ) sz) := mekB (fun A => qBl dC dI a k A q) (plainFor_of_name (by decide)) (Nat.le_of_ble_eq_true rfl) (fun _ _ _ _ _ _ _ _ hC => b_X11_bitsOf_e hC h (Nat.zero_add _))

def f_X11_isNo (σ : ST) : Option ((Int32 × ST) × Nat) := (f_X11_spelt  110 111 0 0 0 0 σ).bind fun q1 => ac q1.2 ((f_X11_isWord  q1.1.1 q1.1.2).bind fun q3 => if q3.1 = 0 ∨ q3.1 = 1 then some ((q3.1, q3.2), 0) else none)

set_option maxRecDepth 100000 in
set_option maxHeartbeats 4000000 in
theorem b_X11_isNo_e {p : Program} {l : Launch} {e : Env} {s : State} {m : MethodId} {args : Array Value} {below : List Frame} {meth : Method} {c : Code} {dC : Nat → ClassId} {dI : Nat → Nat → Nat} {a : Nat → Nat} {k : Nat → ClassId} {A : Nat → Prop} {q : Int32 × ST} {T r : Nat} (hC : CxB p s m args meth c dC dI k A cX11_isNo RX11 (some .boolean) 1)    {σ : ST} (h : f_X11_isNo   σ = some (q, r)) (hκ : 0 + r = T) : GkB p l e ({ frames := 1, cells := T, slots := 6 * T, locals := 29 } : Room) s m args below meth c (MQ below (qBi dC dI a k A q) args s T (6 * T) A) dC dI a k A 1 0 0 σ (lv_args 0 [.ref (a 0)]) [] := by
  have hC0 := hC
  obtain ⟨hx, hb, hr, hml, hown, hts, hlocks, hA, hN, hK⟩ := hC0
  intro H locs ls hP hD hS hl
  have hD0 : ∀ σ1 : ST, va_D A (wB a k σ1) := fun σ1 => wB_D hD
  replace hl : lv_has ls 1 [(0, .ref (a 0))] := hl
  unfold f_X11_isNo at h
  refine lv_aload_n hx hb dX11_isNo_0 rfl (lv_at hl 0 rfl) ?_
  refine lv_bipush (v := 110) hx hb dX11_isNo_1 (by decide) ?_
  refine lv_bipush (v := 111) hx hb dX11_isNo_3 (by decide) ?_
  refine lv_iconst (v := 0) hx hb dX11_isNo_5 (by decide) ?_
  refine lv_iconst (v := 0) hx hb dX11_isNo_6 (by decide) ?_
  refine lv_iconst (v := 0) hx hb dX11_isNo_7 (by decide) ?_
  refine lv_iconst (v := 0) hx hb dX11_isNo_8 (by decide) ?_
  obtain ⟨q1, hc, h⟩ := ib h
  obtain ⟨r2, h, hz⟩ := acE h
  have hF := va_frees hD hS hA
  refine va_calll (va_runS (As := [.int 110, .int 111, .int 0, .int 0, .int 0, .int 0]) (rest := [.ref (a 0)]) ⟨hx, hb, hml, hown, hts⟩ (s_X11_spelt (q := q1.1) (r := q1.2) hc) (va_cwS 6 hts (gS mw_30_15 mw_30_16 mw_0_15 mw_54_7) rfl rfl rfl (by decide +kernel) ⟨(Nat.le_of_ble_eq_true rfl), (Nat.le_of_ble_eq_true rfl)⟩) (vS hK hP hD hN) rfl rfl hl.1 rfl (lv_room (Nat.le_of_ble_eq_true rfl)) dX11_isNo_9 ⟨by show 0 + q1.2 ≤ T; omega, by show 6 * 0 + 6 * q1.2 ≤ 6 * T; omega⟩) hS (fun q _ h => hF q h) hF (fun r2 u t H locs ht hvm hw hB _ _ hS => ?_)
  obtain rfl : r2 = q1.1.1 := hw
  replace hκ : (0 + q1.2) + r2 = T := by omega
  clear hz
  refine W.widen (k := (0 + q1.2)) (n := 6 * (0 + q1.2)) (Nat.le_refl _) (by omega) ?_
  replace hP : va_P (dC, dI) vwCl (wB a k q1.1.2) H := by rw [← ht]; exact hB.1
  replace hD := hD0 (q1.1.2)
  clear hB hF
  obtain ⟨q3, hc, h⟩ := ib h
  have hF := va_frees hD hS hA
  refine va_calli (va_runV (As := [.long q1.1.1]) (rest := []) ⟨hx, hb, hml, hown, hts⟩ (s_X11_isWord hc) (cwV 1 hts (gV mw_30_17 mw_30_18 mw_30_19 mw_0_15 mw_54_8) rfl rfl rfl (by decide +kernel) ⟨(Nat.le_of_ble_eq_true rfl), (Nat.le_of_ble_eq_true rfl)⟩) (vV (ci := 11) (q0 := 0) hK hP hD hN rfl gB_0) rfl rfl hl.1 rfl (lv_room (Nat.le_of_ble_eq_true rfl)) dX11_isNo_12 ⟨by show (0 + q1.2) + 0 ≤ T; omega, by show 6 * (0 + q1.2) + 0 ≤ 6 * T; omega⟩) hS (fun q _ h => hF q h) hF (fun r4 u t H locs ht hvm hw hB _ _ hS => ?_)
  obtain rfl : r4 = q3.1 := hw
  replace hP : va_P (dC, dI) vwCl (wB a k q3.2) H := by rw [← ht]; exact hB.1
  replace hD := hD0 (q3.2)
  clear hB hF
  obtain ⟨hg, h⟩ := ig h
  obtain ⟨rfl, rfl⟩ := Prod.mk.inj (Option.some.inj h)
  subst hκ
  exact W.zret hx hb hr (zn hg) (fun t ht hW => ⟨⟨_, (), rfl, rfl, ⟨by rw [ht]; exact hP, va_K.moved hW.alike hK, hD⟩⟩, hS.F ht⟩) hS.2.2 dX11_isNo_15

theorem s_X11_isNo {l : Launch} {dC : Nat → ClassId} {dI : Nat → Nat → Nat} {a : Nat → Nat} {k : Nat → ClassId} {sz : Nat}  {σ : ST} {q : Int32 × ST} {r : Nat} (h : f_X11_isNo   σ = some (q, r)) : Met l yX11_isNo (.code yX11_isNo cX11_isNo 1 (some .boolean) :: pw) ({ frames := 1, cells := r, slots := 6 * r, locals := 29 } : Room) (va_Pc [.ref (a 0)] (vPre dC dI (wB a k σ) (tB k) sz)) (qBi dC dI a k (va_A (wB a k σ) sz) q) r (6 * r) (va_A (wB a k σ) sz) := mekB (fun A => qBi dC dI a k A q) (plainFor_of_name (by decide)) (Nat.le_of_ble_eq_true rfl) (fun _ _ _ _ _ _ _ _ hC => b_X11_isNo_e hC h (Nat.zero_add _))

def f_X11_sortHere (σ : ST) : Option ((Int32 × ST) × Nat) := (f_X11_spelt  110 111 110 101 0 0 σ).bind fun q1 => ac q1.2 ((f_X11_isWord  q1.1.1 q1.1.2).bind fun q3 => if q3.1 = 0 then ((f_X11_spelt  102 108 97 103 0 0 q3.2).bind fun q5 => ac q5.2 ((f_X11_isWord  q5.1.1 q5.1.2).bind fun q7 => if q7.1 = 0 then ((f_X11_spelt  105 110 116 0 0 0 q7.2).bind fun q9 => ac q9.2 ((f_X11_isWord  q9.1.1 q9.1.2).bind fun q11 => if q11.1 = 0 then ((f_X11_spelt  108 111 110 103 0 0 q11.2).bind fun q13 => ac q13.2 ((f_X11_isWord  q13.1.1 q13.1.2).bind fun q15 => if q15.1 = 0 then ((f_X11_spelt  114 101 97 108 0 0 q15.2).bind fun q17 => ac q17.2 ((f_X11_isWord  q17.1.1 q17.1.2).bind fun q19 => if q19.1 = 0 then ((f_X11_spelt  116 101 120 116 0 0 q19.2).bind fun q21 => ac q21.2 ((f_X11_isWord  q21.1.1 q21.1.2).bind fun q23 => if q23.1 = 0 then ((f_X11_spelt  108 105 115 116 0 0 q23.2).bind fun q25 => ac q25.2 ((f_X11_isWord  q25.1.1 q25.1.2).bind fun q27 => if q27.1 = 0 then ((f_X11_spelt  101 105 116 104 101 114 q27.2).bind fun q29 => ac q29.2 ((f_X11_isWord  q29.1.1 q29.1.2).bind fun q31 => if q31.1 = 0 then (some (((-1), q31.2), 0)) else (some ((8, q31.2), 0)))) else (some ((6, q27.2), 0)))) else (some ((5, q23.2), 0)))) else (some ((4, q19.2), 0)))) else (some ((3, q15.2), 0)))) else (some ((2, q11.2), 0)))) else (some ((1, q7.2), 0)))) else (some ((0, q3.2), 0)))

set_option maxRecDepth 100000 in
set_option maxHeartbeats 4000000 in
theorem b_X11_sortHere_e {p : Program} {l : Launch} {e : Env} {s : State} {m : MethodId} {args : Array Value} {below : List Frame} {meth : Method} {c : Code} {dC : Nat → ClassId} {dI : Nat → Nat → Nat} {a : Nat → Nat} {k : Nat → ClassId} {A : Nat → Prop} {q : Int32 × ST} {T r : Nat} (hC : CxB p s m args meth c dC dI k A cX11_sortHere RX11 (some .int) 1)    {σ : ST} (h : f_X11_sortHere   σ = some (q, r)) (hκ : 0 + r = T) : GkB p l e ({ frames := 1, cells := T, slots := 6 * T, locals := 29 } : Room) s m args below meth c (MQ below (qBi dC dI a k A q) args s T (6 * T) A) dC dI a k A 1 0 0 σ (lv_args 0 [.ref (a 0)]) [] := by
  have hC0 := hC
  obtain ⟨hx, hb, hr, hml, hown, hts, hlocks, hA, hN, hK⟩ := hC0
  intro H locs ls hP hD hS hl
  have hD0 : ∀ σ1 : ST, va_D A (wB a k σ1) := fun σ1 => wB_D hD
  replace hl : lv_has ls 1 [(0, .ref (a 0))] := hl
  unfold f_X11_sortHere at h
  refine lv_aload_n hx hb dX11_sortHere_0 rfl (lv_at hl 0 rfl) ?_
  refine lv_bipush (v := 110) hx hb dX11_sortHere_1 (by decide) ?_
  refine lv_bipush (v := 111) hx hb dX11_sortHere_3 (by decide) ?_
  refine lv_bipush (v := 110) hx hb dX11_sortHere_5 (by decide) ?_
  refine lv_bipush (v := 101) hx hb dX11_sortHere_7 (by decide) ?_
  refine lv_iconst (v := 0) hx hb dX11_sortHere_9 (by decide) ?_
  refine lv_iconst (v := 0) hx hb dX11_sortHere_10 (by decide) ?_
  obtain ⟨q1, hc, h⟩ := ib h
  obtain ⟨r2, h, hz⟩ := acE h
  have hF := va_frees hD hS hA
  refine va_calll (va_runS (As := [.int 110, .int 111, .int 110, .int 101, .int 0, .int 0]) (rest := [.ref (a 0)]) ⟨hx, hb, hml, hown, hts⟩ (s_X11_spelt (q := q1.1) (r := q1.2) hc) (va_cwS 6 hts (gS mw_30_15 mw_30_16 mw_0_15 mw_54_7) rfl rfl rfl (by decide +kernel) ⟨(Nat.le_of_ble_eq_true rfl), (Nat.le_of_ble_eq_true rfl)⟩) (vS hK hP hD hN) rfl rfl hl.1 rfl (lv_room (Nat.le_of_ble_eq_true rfl)) dX11_sortHere_11 ⟨by show 0 + q1.2 ≤ T; omega, by show 6 * 0 + 6 * q1.2 ≤ 6 * T; omega⟩) hS (fun q _ h => hF q h) hF (fun r2 u t H locs ht hvm hw hB _ _ hS => ?_)
  obtain rfl : r2 = q1.1.1 := hw
  replace hκ : (0 + q1.2) + r2 = T := by omega
  clear hz
  refine W.widen (k := (0 + q1.2)) (n := 6 * (0 + q1.2)) (Nat.le_refl _) (by omega) ?_
  replace hP : va_P (dC, dI) vwCl (wB a k q1.1.2) H := by rw [← ht]; exact hB.1
  replace hD := hD0 (q1.1.2)
  clear hB hF
  obtain ⟨q3, hc, h⟩ := ib h
  have hF := va_frees hD hS hA
  refine va_calli (va_runV (As := [.long q1.1.1]) (rest := []) ⟨hx, hb, hml, hown, hts⟩ (s_X11_isWord hc) (cwV 1 hts (gV mw_30_17 mw_30_18 mw_30_19 mw_0_15 mw_54_8) rfl rfl rfl (by decide +kernel) ⟨(Nat.le_of_ble_eq_true rfl), (Nat.le_of_ble_eq_true rfl)⟩) (vV (ci := 11) (q0 := 0) hK hP hD hN rfl gB_0) rfl rfl hl.1 rfl (lv_room (Nat.le_of_ble_eq_true rfl)) dX11_sortHere_14 ⟨by show (0 + q1.2) + 0 ≤ T; omega, by show 6 * (0 + q1.2) + 0 ≤ 6 * T; omega⟩) hS (fun q _ h => hF q h) hF (fun r4 u t H locs ht hvm hw hB _ _ hS => ?_)
  obtain rfl : r4 = q3.1 := hw
  replace hP : va_P (dC, dI) vwCl (wB a k q3.2) H := by rw [← ht]; exact hB.1
  replace hD := hD0 (q3.2)
  clear hB hF
  refine lv_if_eq (tgt := 22) hx hb dX11_sortHere_17 (by decide) (fun hc => ?_) (fun hc => ?_)
  · replace h := ip hc h
    refine lv_aload_n hx hb dX11_sortHere_22 rfl (lv_at hl 0 rfl) ?_
    refine lv_bipush (v := 102) hx hb dX11_sortHere_23 (by decide) ?_
    refine lv_bipush (v := 108) hx hb dX11_sortHere_25 (by decide) ?_
    refine lv_bipush (v := 97) hx hb dX11_sortHere_27 (by decide) ?_
    refine lv_bipush (v := 103) hx hb dX11_sortHere_29 (by decide) ?_
    refine lv_iconst (v := 0) hx hb dX11_sortHere_31 (by decide) ?_
    refine lv_iconst (v := 0) hx hb dX11_sortHere_32 (by decide) ?_
    obtain ⟨q5, hc, h⟩ := ib h
    obtain ⟨r2, h, hz⟩ := acE h
    have hF := va_frees hD hS hA
    refine va_calll (va_runS (As := [.int 102, .int 108, .int 97, .int 103, .int 0, .int 0]) (rest := [.ref (a 0)]) ⟨hx, hb, hml, hown, hts⟩ (s_X11_spelt (q := q5.1) (r := q5.2) hc) (va_cwS 6 hts (gS mw_30_15 mw_30_16 mw_0_15 mw_54_7) rfl rfl rfl (by decide +kernel) ⟨(Nat.le_of_ble_eq_true rfl), (Nat.le_of_ble_eq_true rfl)⟩) (vS hK hP hD hN) rfl rfl hl.1 rfl (lv_room (Nat.le_of_ble_eq_true rfl)) dX11_sortHere_33 ⟨by show (0 + q1.2) + q5.2 ≤ T; omega, by show 6 * (0 + q1.2) + 6 * q5.2 ≤ 6 * T; omega⟩) hS (fun q _ h => hF q h) hF (fun r6 u t H locs ht hvm hw hB _ _ hS => ?_)
    obtain rfl : r6 = q5.1.1 := hw
    replace hκ : ((0 + q1.2) + q5.2) + r2 = T := by omega
    clear hz
    refine W.widen (k := ((0 + q1.2) + q5.2)) (n := 6 * ((0 + q1.2) + q5.2)) (Nat.le_refl _) (by omega) ?_
    replace hP : va_P (dC, dI) vwCl (wB a k q5.1.2) H := by rw [← ht]; exact hB.1
    replace hD := hD0 (q5.1.2)
    clear hB hF
    obtain ⟨q7, hc, h⟩ := ib h
    have hF := va_frees hD hS hA
    refine va_calli (va_runV (As := [.long q5.1.1]) (rest := []) ⟨hx, hb, hml, hown, hts⟩ (s_X11_isWord hc) (cwV 1 hts (gV mw_30_17 mw_30_18 mw_30_19 mw_0_15 mw_54_8) rfl rfl rfl (by decide +kernel) ⟨(Nat.le_of_ble_eq_true rfl), (Nat.le_of_ble_eq_true rfl)⟩) (vV (ci := 11) (q0 := 0) hK hP hD hN rfl gB_0) rfl rfl hl.1 rfl (lv_room (Nat.le_of_ble_eq_true rfl)) dX11_sortHere_36 ⟨by show ((0 + q1.2) + q5.2) + 0 ≤ T; omega, by show 6 * ((0 + q1.2) + q5.2) + 0 ≤ 6 * T; omega⟩) hS (fun q _ h => hF q h) hF (fun r8 u t H locs ht hvm hw hB _ _ hS => ?_)
    obtain rfl : r8 = q7.1 := hw
    replace hP : va_P (dC, dI) vwCl (wB a k q7.2) H := by rw [← ht]; exact hB.1
    replace hD := hD0 (q7.2)
    clear hB hF
    refine lv_if_eq (tgt := 44) hx hb dX11_sortHere_39 (by decide) (fun hc => ?_) (fun hc => ?_)
    · replace h := ip hc h
      refine lv_aload_n hx hb dX11_sortHere_44 rfl (lv_at hl 0 rfl) ?_
      refine lv_bipush (v := 105) hx hb dX11_sortHere_45 (by decide) ?_
      refine lv_bipush (v := 110) hx hb dX11_sortHere_47 (by decide) ?_
      refine lv_bipush (v := 116) hx hb dX11_sortHere_49 (by decide) ?_
      refine lv_iconst (v := 0) hx hb dX11_sortHere_51 (by decide) ?_
      refine lv_iconst (v := 0) hx hb dX11_sortHere_52 (by decide) ?_
      refine lv_iconst (v := 0) hx hb dX11_sortHere_53 (by decide) ?_
      obtain ⟨q9, hc, h⟩ := ib h
      obtain ⟨r2, h, hz⟩ := acE h
      have hF := va_frees hD hS hA
      refine va_calll (va_runS (As := [.int 105, .int 110, .int 116, .int 0, .int 0, .int 0]) (rest := [.ref (a 0)]) ⟨hx, hb, hml, hown, hts⟩ (s_X11_spelt (q := q9.1) (r := q9.2) hc) (va_cwS 6 hts (gS mw_30_15 mw_30_16 mw_0_15 mw_54_7) rfl rfl rfl (by decide +kernel) ⟨(Nat.le_of_ble_eq_true rfl), (Nat.le_of_ble_eq_true rfl)⟩) (vS hK hP hD hN) rfl rfl hl.1 rfl (lv_room (Nat.le_of_ble_eq_true rfl)) dX11_sortHere_54 ⟨by show ((0 + q1.2) + q5.2) + q9.2 ≤ T; omega, by show 6 * ((0 + q1.2) + q5.2) + 6 * q9.2 ≤ 6 * T; omega⟩) hS (fun q _ h => hF q h) hF (fun r10 u t H locs ht hvm hw hB _ _ hS => ?_)
      obtain rfl : r10 = q9.1.1 := hw
      replace hκ : (((0 + q1.2) + q5.2) + q9.2) + r2 = T := by omega
      clear hz
      refine W.widen (k := (((0 + q1.2) + q5.2) + q9.2)) (n := 6 * (((0 + q1.2) + q5.2) + q9.2)) (Nat.le_refl _) (by omega) ?_
      replace hP : va_P (dC, dI) vwCl (wB a k q9.1.2) H := by rw [← ht]; exact hB.1
      replace hD := hD0 (q9.1.2)
      clear hB hF
      obtain ⟨q11, hc, h⟩ := ib h
      have hF := va_frees hD hS hA
      refine va_calli (va_runV (As := [.long q9.1.1]) (rest := []) ⟨hx, hb, hml, hown, hts⟩ (s_X11_isWord hc) (cwV 1 hts (gV mw_30_17 mw_30_18 mw_30_19 mw_0_15 mw_54_8) rfl rfl rfl (by decide +kernel) ⟨(Nat.le_of_ble_eq_true rfl), (Nat.le_of_ble_eq_true rfl)⟩) (vV (ci := 11) (q0 := 0) hK hP hD hN rfl gB_0) rfl rfl hl.1 rfl (lv_room (Nat.le_of_ble_eq_true rfl)) dX11_sortHere_57 ⟨by show (((0 + q1.2) + q5.2) + q9.2) + 0 ≤ T; omega, by show 6 * (((0 + q1.2) + q5.2) + q9.2) + 0 ≤ 6 * T; omega⟩) hS (fun q _ h => hF q h) hF (fun r12 u t H locs ht hvm hw hB _ _ hS => ?_)
      obtain rfl : r12 = q11.1 := hw
      replace hP : va_P (dC, dI) vwCl (wB a k q11.2) H := by rw [← ht]; exact hB.1
      replace hD := hD0 (q11.2)
      clear hB hF
      refine lv_if_eq (tgt := 65) hx hb dX11_sortHere_60 (by decide) (fun hc => ?_) (fun hc => ?_)
      · replace h := ip hc h
        refine lv_aload_n hx hb dX11_sortHere_65 rfl (lv_at hl 0 rfl) ?_
        refine lv_bipush (v := 108) hx hb dX11_sortHere_66 (by decide) ?_
        refine lv_bipush (v := 111) hx hb dX11_sortHere_68 (by decide) ?_
        refine lv_bipush (v := 110) hx hb dX11_sortHere_70 (by decide) ?_
        refine lv_bipush (v := 103) hx hb dX11_sortHere_72 (by decide) ?_
        refine lv_iconst (v := 0) hx hb dX11_sortHere_74 (by decide) ?_
        refine lv_iconst (v := 0) hx hb dX11_sortHere_75 (by decide) ?_
        obtain ⟨q13, hc, h⟩ := ib h
        obtain ⟨r2, h, hz⟩ := acE h
        have hF := va_frees hD hS hA
        refine va_calll (va_runS (As := [.int 108, .int 111, .int 110, .int 103, .int 0, .int 0]) (rest := [.ref (a 0)]) ⟨hx, hb, hml, hown, hts⟩ (s_X11_spelt (q := q13.1) (r := q13.2) hc) (va_cwS 6 hts (gS mw_30_15 mw_30_16 mw_0_15 mw_54_7) rfl rfl rfl (by decide +kernel) ⟨(Nat.le_of_ble_eq_true rfl), (Nat.le_of_ble_eq_true rfl)⟩) (vS hK hP hD hN) rfl rfl hl.1 rfl (lv_room (Nat.le_of_ble_eq_true rfl)) dX11_sortHere_76 ⟨by show (((0 + q1.2) + q5.2) + q9.2) + q13.2 ≤ T; omega, by show 6 * (((0 + q1.2) + q5.2) + q9.2) + 6 * q13.2 ≤ 6 * T; omega⟩) hS (fun q _ h => hF q h) hF (fun r14 u t H locs ht hvm hw hB _ _ hS => ?_)
        obtain rfl : r14 = q13.1.1 := hw
        replace hκ : ((((0 + q1.2) + q5.2) + q9.2) + q13.2) + r2 = T := by omega
        clear hz
        refine W.widen (k := ((((0 + q1.2) + q5.2) + q9.2) + q13.2)) (n := 6 * ((((0 + q1.2) + q5.2) + q9.2) + q13.2)) (Nat.le_refl _) (by omega) ?_
        replace hP : va_P (dC, dI) vwCl (wB a k q13.1.2) H := by rw [← ht]; exact hB.1
        replace hD := hD0 (q13.1.2)
        clear hB hF
        obtain ⟨q15, hc, h⟩ := ib h
        have hF := va_frees hD hS hA
        refine va_calli (va_runV (As := [.long q13.1.1]) (rest := []) ⟨hx, hb, hml, hown, hts⟩ (s_X11_isWord hc) (cwV 1 hts (gV mw_30_17 mw_30_18 mw_30_19 mw_0_15 mw_54_8) rfl rfl rfl (by decide +kernel) ⟨(Nat.le_of_ble_eq_true rfl), (Nat.le_of_ble_eq_true rfl)⟩) (vV (ci := 11) (q0 := 0) hK hP hD hN rfl gB_0) rfl rfl hl.1 rfl (lv_room (Nat.le_of_ble_eq_true rfl)) dX11_sortHere_79 ⟨by show ((((0 + q1.2) + q5.2) + q9.2) + q13.2) + 0 ≤ T; omega, by show 6 * ((((0 + q1.2) + q5.2) + q9.2) + q13.2) + 0 ≤ 6 * T; omega⟩) hS (fun q _ h => hF q h) hF (fun r16 u t H locs ht hvm hw hB _ _ hS => ?_)
        obtain rfl : r16 = q15.1 := hw
        replace hP : va_P (dC, dI) vwCl (wB a k q15.2) H := by rw [← ht]; exact hB.1
        replace hD := hD0 (q15.2)
        clear hB hF
        refine lv_if_eq (tgt := 87) hx hb dX11_sortHere_82 (by decide) (fun hc => ?_) (fun hc => ?_)
        · replace h := ip hc h
          refine lv_aload_n hx hb dX11_sortHere_87 rfl (lv_at hl 0 rfl) ?_
          refine lv_bipush (v := 114) hx hb dX11_sortHere_88 (by decide) ?_
          refine lv_bipush (v := 101) hx hb dX11_sortHere_90 (by decide) ?_
          refine lv_bipush (v := 97) hx hb dX11_sortHere_92 (by decide) ?_
          refine lv_bipush (v := 108) hx hb dX11_sortHere_94 (by decide) ?_
          refine lv_iconst (v := 0) hx hb dX11_sortHere_96 (by decide) ?_
          refine lv_iconst (v := 0) hx hb dX11_sortHere_97 (by decide) ?_
          obtain ⟨q17, hc, h⟩ := ib h
          obtain ⟨r2, h, hz⟩ := acE h
          have hF := va_frees hD hS hA
          refine va_calll (va_runS (As := [.int 114, .int 101, .int 97, .int 108, .int 0, .int 0]) (rest := [.ref (a 0)]) ⟨hx, hb, hml, hown, hts⟩ (s_X11_spelt (q := q17.1) (r := q17.2) hc) (va_cwS 6 hts (gS mw_30_15 mw_30_16 mw_0_15 mw_54_7) rfl rfl rfl (by decide +kernel) ⟨(Nat.le_of_ble_eq_true rfl), (Nat.le_of_ble_eq_true rfl)⟩) (vS hK hP hD hN) rfl rfl hl.1 rfl (lv_room (Nat.le_of_ble_eq_true rfl)) dX11_sortHere_98 ⟨by show ((((0 + q1.2) + q5.2) + q9.2) + q13.2) + q17.2 ≤ T; omega, by show 6 * ((((0 + q1.2) + q5.2) + q9.2) + q13.2) + 6 * q17.2 ≤ 6 * T; omega⟩) hS (fun q _ h => hF q h) hF (fun r18 u t H locs ht hvm hw hB _ _ hS => ?_)
          obtain rfl : r18 = q17.1.1 := hw
          replace hκ : (((((0 + q1.2) + q5.2) + q9.2) + q13.2) + q17.2) + r2 = T := by omega
          clear hz
          refine W.widen (k := (((((0 + q1.2) + q5.2) + q9.2) + q13.2) + q17.2)) (n := 6 * (((((0 + q1.2) + q5.2) + q9.2) + q13.2) + q17.2)) (Nat.le_refl _) (by omega) ?_
          replace hP : va_P (dC, dI) vwCl (wB a k q17.1.2) H := by rw [← ht]; exact hB.1
          replace hD := hD0 (q17.1.2)
          clear hB hF
          obtain ⟨q19, hc, h⟩ := ib h
          have hF := va_frees hD hS hA
          refine va_calli (va_runV (As := [.long q17.1.1]) (rest := []) ⟨hx, hb, hml, hown, hts⟩ (s_X11_isWord hc) (cwV 1 hts (gV mw_30_17 mw_30_18 mw_30_19 mw_0_15 mw_54_8) rfl rfl rfl (by decide +kernel) ⟨(Nat.le_of_ble_eq_true rfl), (Nat.le_of_ble_eq_true rfl)⟩) (vV (ci := 11) (q0 := 0) hK hP hD hN rfl gB_0) rfl rfl hl.1 rfl (lv_room (Nat.le_of_ble_eq_true rfl)) dX11_sortHere_101 ⟨by show (((((0 + q1.2) + q5.2) + q9.2) + q13.2) + q17.2) + 0 ≤ T; omega, by show 6 * (((((0 + q1.2) + q5.2) + q9.2) + q13.2) + q17.2) + 0 ≤ 6 * T; omega⟩) hS (fun q _ h => hF q h) hF (fun r20 u t H locs ht hvm hw hB _ _ hS => ?_)
          obtain rfl : r20 = q19.1 := hw
          replace hP : va_P (dC, dI) vwCl (wB a k q19.2) H := by rw [← ht]; exact hB.1
          replace hD := hD0 (q19.2)
          clear hB hF
          refine lv_if_eq (tgt := 109) hx hb dX11_sortHere_104 (by decide) (fun hc => ?_) (fun hc => ?_)
          · replace h := ip hc h
            refine lv_aload_n hx hb dX11_sortHere_109 rfl (lv_at hl 0 rfl) ?_
            refine lv_bipush (v := 116) hx hb dX11_sortHere_110 (by decide) ?_
            refine lv_bipush (v := 101) hx hb dX11_sortHere_112 (by decide) ?_
            refine lv_bipush (v := 120) hx hb dX11_sortHere_114 (by decide) ?_
            refine lv_bipush (v := 116) hx hb dX11_sortHere_116 (by decide) ?_
            refine lv_iconst (v := 0) hx hb dX11_sortHere_118 (by decide) ?_
            refine lv_iconst (v := 0) hx hb dX11_sortHere_119 (by decide) ?_
            obtain ⟨q21, hc, h⟩ := ib h
            obtain ⟨r2, h, hz⟩ := acE h
            have hF := va_frees hD hS hA
            refine va_calll (va_runS (As := [.int 116, .int 101, .int 120, .int 116, .int 0, .int 0]) (rest := [.ref (a 0)]) ⟨hx, hb, hml, hown, hts⟩ (s_X11_spelt (q := q21.1) (r := q21.2) hc) (va_cwS 6 hts (gS mw_30_15 mw_30_16 mw_0_15 mw_54_7) rfl rfl rfl (by decide +kernel) ⟨(Nat.le_of_ble_eq_true rfl), (Nat.le_of_ble_eq_true rfl)⟩) (vS hK hP hD hN) rfl rfl hl.1 rfl (lv_room (Nat.le_of_ble_eq_true rfl)) dX11_sortHere_120 ⟨by show (((((0 + q1.2) + q5.2) + q9.2) + q13.2) + q17.2) + q21.2 ≤ T; omega, by show 6 * (((((0 + q1.2) + q5.2) + q9.2) + q13.2) + q17.2) + 6 * q21.2 ≤ 6 * T; omega⟩) hS (fun q _ h => hF q h) hF (fun r22 u t H locs ht hvm hw hB _ _ hS => ?_)
            obtain rfl : r22 = q21.1.1 := hw
            replace hκ : ((((((0 + q1.2) + q5.2) + q9.2) + q13.2) + q17.2) + q21.2) + r2 = T := by omega
            clear hz
            refine W.widen (k := ((((((0 + q1.2) + q5.2) + q9.2) + q13.2) + q17.2) + q21.2)) (n := 6 * ((((((0 + q1.2) + q5.2) + q9.2) + q13.2) + q17.2) + q21.2)) (Nat.le_refl _) (by omega) ?_
            replace hP : va_P (dC, dI) vwCl (wB a k q21.1.2) H := by rw [← ht]; exact hB.1
            replace hD := hD0 (q21.1.2)
            clear hB hF
            obtain ⟨q23, hc, h⟩ := ib h
            have hF := va_frees hD hS hA
            refine va_calli (va_runV (As := [.long q21.1.1]) (rest := []) ⟨hx, hb, hml, hown, hts⟩ (s_X11_isWord hc) (cwV 1 hts (gV mw_30_17 mw_30_18 mw_30_19 mw_0_15 mw_54_8) rfl rfl rfl (by decide +kernel) ⟨(Nat.le_of_ble_eq_true rfl), (Nat.le_of_ble_eq_true rfl)⟩) (vV (ci := 11) (q0 := 0) hK hP hD hN rfl gB_0) rfl rfl hl.1 rfl (lv_room (Nat.le_of_ble_eq_true rfl)) dX11_sortHere_123 ⟨by show ((((((0 + q1.2) + q5.2) + q9.2) + q13.2) + q17.2) + q21.2) + 0 ≤ T; omega, by show 6 * ((((((0 + q1.2) + q5.2) + q9.2) + q13.2) + q17.2) + q21.2) + 0 ≤ 6 * T; omega⟩) hS (fun q _ h => hF q h) hF (fun r24 u t H locs ht hvm hw hB _ _ hS => ?_)
            obtain rfl : r24 = q23.1 := hw
            replace hP : va_P (dC, dI) vwCl (wB a k q23.2) H := by rw [← ht]; exact hB.1
            replace hD := hD0 (q23.2)
            clear hB hF
            refine lv_if_eq (tgt := 131) hx hb dX11_sortHere_126 (by decide) (fun hc => ?_) (fun hc => ?_)
            · replace h := ip hc h
              refine lv_aload_n hx hb dX11_sortHere_131 rfl (lv_at hl 0 rfl) ?_
              refine lv_bipush (v := 108) hx hb dX11_sortHere_132 (by decide) ?_
              refine lv_bipush (v := 105) hx hb dX11_sortHere_134 (by decide) ?_
              refine lv_bipush (v := 115) hx hb dX11_sortHere_136 (by decide) ?_
              refine lv_bipush (v := 116) hx hb dX11_sortHere_138 (by decide) ?_
              refine lv_iconst (v := 0) hx hb dX11_sortHere_140 (by decide) ?_
              refine lv_iconst (v := 0) hx hb dX11_sortHere_141 (by decide) ?_
              obtain ⟨q25, hc, h⟩ := ib h
              obtain ⟨r2, h, hz⟩ := acE h
              have hF := va_frees hD hS hA
              refine va_calll (va_runS (As := [.int 108, .int 105, .int 115, .int 116, .int 0, .int 0]) (rest := [.ref (a 0)]) ⟨hx, hb, hml, hown, hts⟩ (s_X11_spelt (q := q25.1) (r := q25.2) hc) (va_cwS 6 hts (gS mw_30_15 mw_30_16 mw_0_15 mw_54_7) rfl rfl rfl (by decide +kernel) ⟨(Nat.le_of_ble_eq_true rfl), (Nat.le_of_ble_eq_true rfl)⟩) (vS hK hP hD hN) rfl rfl hl.1 rfl (lv_room (Nat.le_of_ble_eq_true rfl)) dX11_sortHere_142 ⟨by show ((((((0 + q1.2) + q5.2) + q9.2) + q13.2) + q17.2) + q21.2) + q25.2 ≤ T; omega, by show 6 * ((((((0 + q1.2) + q5.2) + q9.2) + q13.2) + q17.2) + q21.2) + 6 * q25.2 ≤ 6 * T; omega⟩) hS (fun q _ h => hF q h) hF (fun r26 u t H locs ht hvm hw hB _ _ hS => ?_)
              obtain rfl : r26 = q25.1.1 := hw
              replace hκ : (((((((0 + q1.2) + q5.2) + q9.2) + q13.2) + q17.2) + q21.2) + q25.2) + r2 = T := by omega
              clear hz
              refine W.widen (k := (((((((0 + q1.2) + q5.2) + q9.2) + q13.2) + q17.2) + q21.2) + q25.2)) (n := 6 * (((((((0 + q1.2) + q5.2) + q9.2) + q13.2) + q17.2) + q21.2) + q25.2)) (Nat.le_refl _) (by omega) ?_
              replace hP : va_P (dC, dI) vwCl (wB a k q25.1.2) H := by rw [← ht]; exact hB.1
              replace hD := hD0 (q25.1.2)
              clear hB hF
              obtain ⟨q27, hc, h⟩ := ib h
              have hF := va_frees hD hS hA
              refine va_calli (va_runV (As := [.long q25.1.1]) (rest := []) ⟨hx, hb, hml, hown, hts⟩ (s_X11_isWord hc) (cwV 1 hts (gV mw_30_17 mw_30_18 mw_30_19 mw_0_15 mw_54_8) rfl rfl rfl (by decide +kernel) ⟨(Nat.le_of_ble_eq_true rfl), (Nat.le_of_ble_eq_true rfl)⟩) (vV (ci := 11) (q0 := 0) hK hP hD hN rfl gB_0) rfl rfl hl.1 rfl (lv_room (Nat.le_of_ble_eq_true rfl)) dX11_sortHere_145 ⟨by show (((((((0 + q1.2) + q5.2) + q9.2) + q13.2) + q17.2) + q21.2) + q25.2) + 0 ≤ T; omega, by show 6 * (((((((0 + q1.2) + q5.2) + q9.2) + q13.2) + q17.2) + q21.2) + q25.2) + 0 ≤ 6 * T; omega⟩) hS (fun q _ h => hF q h) hF (fun r28 u t H locs ht hvm hw hB _ _ hS => ?_)
              obtain rfl : r28 = q27.1 := hw
              replace hP : va_P (dC, dI) vwCl (wB a k q27.2) H := by rw [← ht]; exact hB.1
              replace hD := hD0 (q27.2)
              clear hB hF
              refine lv_if_eq (tgt := 154) hx hb dX11_sortHere_148 (by decide) (fun hc => ?_) (fun hc => ?_)
              · replace h := ip hc h
                refine lv_aload_n hx hb dX11_sortHere_154 rfl (lv_at hl 0 rfl) ?_
                refine lv_bipush (v := 101) hx hb dX11_sortHere_155 (by decide) ?_
                refine lv_bipush (v := 105) hx hb dX11_sortHere_157 (by decide) ?_
                refine lv_bipush (v := 116) hx hb dX11_sortHere_159 (by decide) ?_
                refine lv_bipush (v := 104) hx hb dX11_sortHere_161 (by decide) ?_
                refine lv_bipush (v := 101) hx hb dX11_sortHere_163 (by decide) ?_
                refine lv_bipush (v := 114) hx hb dX11_sortHere_165 (by decide) ?_
                obtain ⟨q29, hc, h⟩ := ib h
                obtain ⟨r2, h, hz⟩ := acE h
                have hF := va_frees hD hS hA
                refine va_calll (va_runS (As := [.int 101, .int 105, .int 116, .int 104, .int 101, .int 114]) (rest := [.ref (a 0)]) ⟨hx, hb, hml, hown, hts⟩ (s_X11_spelt (q := q29.1) (r := q29.2) hc) (va_cwS 6 hts (gS mw_30_15 mw_30_16 mw_0_15 mw_54_7) rfl rfl rfl (by decide +kernel) ⟨(Nat.le_of_ble_eq_true rfl), (Nat.le_of_ble_eq_true rfl)⟩) (vS hK hP hD hN) rfl rfl hl.1 rfl (lv_room (Nat.le_of_ble_eq_true rfl)) dX11_sortHere_167 ⟨by show (((((((0 + q1.2) + q5.2) + q9.2) + q13.2) + q17.2) + q21.2) + q25.2) + q29.2 ≤ T; omega, by show 6 * (((((((0 + q1.2) + q5.2) + q9.2) + q13.2) + q17.2) + q21.2) + q25.2) + 6 * q29.2 ≤ 6 * T; omega⟩) hS (fun q _ h => hF q h) hF (fun r30 u t H locs ht hvm hw hB _ _ hS => ?_)
                obtain rfl : r30 = q29.1.1 := hw
                replace hκ : ((((((((0 + q1.2) + q5.2) + q9.2) + q13.2) + q17.2) + q21.2) + q25.2) + q29.2) + r2 = T := by omega
                clear hz
                refine W.widen (k := ((((((((0 + q1.2) + q5.2) + q9.2) + q13.2) + q17.2) + q21.2) + q25.2) + q29.2)) (n := 6 * ((((((((0 + q1.2) + q5.2) + q9.2) + q13.2) + q17.2) + q21.2) + q25.2) + q29.2)) (Nat.le_refl _) (by omega) ?_
                replace hP : va_P (dC, dI) vwCl (wB a k q29.1.2) H := by rw [← ht]; exact hB.1
                replace hD := hD0 (q29.1.2)
                clear hB hF
                obtain ⟨q31, hc, h⟩ := ib h
                have hF := va_frees hD hS hA
                refine va_calli (va_runV (As := [.long q29.1.1]) (rest := []) ⟨hx, hb, hml, hown, hts⟩ (s_X11_isWord hc) (cwV 1 hts (gV mw_30_17 mw_30_18 mw_30_19 mw_0_15 mw_54_8) rfl rfl rfl (by decide +kernel) ⟨(Nat.le_of_ble_eq_true rfl), (Nat.le_of_ble_eq_true rfl)⟩) (vV (ci := 11) (q0 := 0) hK hP hD hN rfl gB_0) rfl rfl hl.1 rfl (lv_room (Nat.le_of_ble_eq_true rfl)) dX11_sortHere_170 ⟨by show ((((((((0 + q1.2) + q5.2) + q9.2) + q13.2) + q17.2) + q21.2) + q25.2) + q29.2) + 0 ≤ T; omega, by show 6 * ((((((((0 + q1.2) + q5.2) + q9.2) + q13.2) + q17.2) + q21.2) + q25.2) + q29.2) + 0 ≤ 6 * T; omega⟩) hS (fun q _ h => hF q h) hF (fun r32 u t H locs ht hvm hw hB _ _ hS => ?_)
                obtain rfl : r32 = q31.1 := hw
                replace hP : va_P (dC, dI) vwCl (wB a k q31.2) H := by rw [← ht]; exact hB.1
                replace hD := hD0 (q31.2)
                clear hB hF
                refine lv_if_eq (tgt := 181) hx hb dX11_sortHere_173 (by decide) (fun hc => ?_) (fun hc => ?_)
                · replace h := ip hc h
                  refine lv_iconst (v := (-1)) hx hb dX11_sortHere_181 (by decide) ?_
                  obtain ⟨rfl, rfl⟩ := Prod.mk.inj (Option.some.inj h)
                  subst hκ
                  exact W.iret hx hb hr (fun t ht hW => ⟨⟨_, (), rfl, rfl, ⟨by rw [ht]; exact hP, va_K.moved hW.alike hK, hD⟩⟩, hS.F ht⟩) hS.2.2 dX11_sortHere_182
                · replace h := iq hc h
                  refine lv_bipush (v := 8) hx hb dX11_sortHere_176 (by decide) ?_
                  refine lv_goto (tgt := 182) hx hb dX11_sortHere_178 (by decide) ?_
                  obtain ⟨rfl, rfl⟩ := Prod.mk.inj (Option.some.inj h)
                  subst hκ
                  exact W.iret hx hb hr (fun t ht hW => ⟨⟨_, (), rfl, rfl, ⟨by rw [ht]; exact hP, va_K.moved hW.alike hK, hD⟩⟩, hS.F ht⟩) hS.2.2 dX11_sortHere_182
              · replace h := iq hc h
                refine lv_bipush (v := 6) hx hb dX11_sortHere_151 (by decide) ?_
                obtain ⟨rfl, rfl⟩ := Prod.mk.inj (Option.some.inj h)
                subst hκ
                exact W.iret hx hb hr (fun t ht hW => ⟨⟨_, (), rfl, rfl, ⟨by rw [ht]; exact hP, va_K.moved hW.alike hK, hD⟩⟩, hS.F ht⟩) hS.2.2 dX11_sortHere_153
            · replace h := iq hc h
              refine lv_iconst (v := 5) hx hb dX11_sortHere_129 (by decide) ?_
              obtain ⟨rfl, rfl⟩ := Prod.mk.inj (Option.some.inj h)
              subst hκ
              exact W.iret hx hb hr (fun t ht hW => ⟨⟨_, (), rfl, rfl, ⟨by rw [ht]; exact hP, va_K.moved hW.alike hK, hD⟩⟩, hS.F ht⟩) hS.2.2 dX11_sortHere_130
          · replace h := iq hc h
            refine lv_iconst (v := 4) hx hb dX11_sortHere_107 (by decide) ?_
            obtain ⟨rfl, rfl⟩ := Prod.mk.inj (Option.some.inj h)
            subst hκ
            exact W.iret hx hb hr (fun t ht hW => ⟨⟨_, (), rfl, rfl, ⟨by rw [ht]; exact hP, va_K.moved hW.alike hK, hD⟩⟩, hS.F ht⟩) hS.2.2 dX11_sortHere_108
        · replace h := iq hc h
          refine lv_iconst (v := 3) hx hb dX11_sortHere_85 (by decide) ?_
          obtain ⟨rfl, rfl⟩ := Prod.mk.inj (Option.some.inj h)
          subst hκ
          exact W.iret hx hb hr (fun t ht hW => ⟨⟨_, (), rfl, rfl, ⟨by rw [ht]; exact hP, va_K.moved hW.alike hK, hD⟩⟩, hS.F ht⟩) hS.2.2 dX11_sortHere_86
      · replace h := iq hc h
        refine lv_iconst (v := 2) hx hb dX11_sortHere_63 (by decide) ?_
        obtain ⟨rfl, rfl⟩ := Prod.mk.inj (Option.some.inj h)
        subst hκ
        exact W.iret hx hb hr (fun t ht hW => ⟨⟨_, (), rfl, rfl, ⟨by rw [ht]; exact hP, va_K.moved hW.alike hK, hD⟩⟩, hS.F ht⟩) hS.2.2 dX11_sortHere_64
    · replace h := iq hc h
      refine lv_iconst (v := 1) hx hb dX11_sortHere_42 (by decide) ?_
      obtain ⟨rfl, rfl⟩ := Prod.mk.inj (Option.some.inj h)
      subst hκ
      exact W.iret hx hb hr (fun t ht hW => ⟨⟨_, (), rfl, rfl, ⟨by rw [ht]; exact hP, va_K.moved hW.alike hK, hD⟩⟩, hS.F ht⟩) hS.2.2 dX11_sortHere_43
  · replace h := iq hc h
    refine lv_iconst (v := 0) hx hb dX11_sortHere_20 (by decide) ?_
    obtain ⟨rfl, rfl⟩ := Prod.mk.inj (Option.some.inj h)
    subst hκ
    exact W.iret hx hb hr (fun t ht hW => ⟨⟨_, (), rfl, rfl, ⟨by rw [ht]; exact hP, va_K.moved hW.alike hK, hD⟩⟩, hS.F ht⟩) hS.2.2 dX11_sortHere_21

theorem s_X11_sortHere {l : Launch} {dC : Nat → ClassId} {dI : Nat → Nat → Nat} {a : Nat → Nat} {k : Nat → ClassId} {sz : Nat}  {σ : ST} {q : Int32 × ST} {r : Nat} (h : f_X11_sortHere   σ = some (q, r)) : Met l yX11_sortHere (.code yX11_sortHere cX11_sortHere 1 (some .int) :: pw) ({ frames := 1, cells := r, slots := 6 * r, locals := 29 } : Room) (va_Pc [.ref (a 0)] (vPre dC dI (wB a k σ) (tB k) sz)) (qBi dC dI a k (va_A (wB a k σ) sz) q) r (6 * r) (va_A (wB a k σ) sz) := mekB (fun A => qBi dC dI a k A q) (plainFor_of_name (by decide)) (Nat.le_of_ble_eq_true rfl) (fun _ _ _ _ _ _ _ _ hC => b_X11_sortHere_e hC h (Nat.zero_add _))

def f_X11_fits_75 (σ : ST) : Option ((Int32 × ST) × Nat) := some ((1, σ), 0)
def f_X11_fits (p0 : Int32) (σ : ST) : Option ((Int32 × ST) × Nat) := if 0 ≤ p0.toInt ∧ p0.toInt < 800 then (if (σ.1 2 p0.toNatClampNeg) = 0 then ((f_X11_sortHere   σ).bind fun q9 => ac q9.2 (if q9.1.1 = 0 then (some ((1, q9.1.2), 0)) else (some ((0, q9.1.2), 0)))) else (if (σ.1 2 p0.toNatClampNeg) = 1 then ((f_X11_isYes   σ).bind fun q11 => ac q11.2 (if q11.1.1 = 0 then ((f_X11_isNo   q11.1.2).bind fun q13 => ac q13.2 (if q13.1.1 = 0 then (some ((0, q13.1.2), 0)) else (f_X11_fits_75   q13.1.2))) else (f_X11_fits_75   q11.1.2))) else (if (σ.1 2 p0.toNatClampNeg) = 2 then (if (σ.1 0 6) = 2 then (if (σ.1 0 10) = 0 then ((f_X11_within  (σ.2.1 0 9) (-2147483648) 2147483647 σ).bind fun q15 => if q15.1 = 0 then (some ((0, q15.2), 0)) else (some ((1, q15.2), 0))) else (some ((0, σ), 0))) else (some ((0, σ), 0))) else (if (σ.1 2 p0.toNatClampNeg) = 3 then (if (σ.1 0 6) = 2 then (if (σ.1 0 10) = 0 then (some ((1, σ), 0)) else (some ((0, σ), 0))) else (some ((0, σ), 0))) else (if (σ.1 2 p0.toNatClampNeg) = 4 then (if (σ.1 0 6) = 2 then (some ((1, σ), 0)) else (some ((0, σ), 0))) else (if (σ.1 2 p0.toNatClampNeg) = 5 then (if (σ.1 0 6) = 3 then (some ((1, σ), 0)) else (some ((0, σ), 0))) else (if (σ.1 2 p0.toNatClampNeg) = 6 then (if (σ.1 0 13) = 91 then (some ((1, σ), 0)) else (some ((0, σ), 0))) else (if (σ.1 2 p0.toNatClampNeg) = 7 then (if (σ.1 0 13) = 123 then (some ((1, σ), 0)) else (some ((0, σ), 0))) else (some ((0, σ), 0)))))))))) else none

set_option maxRecDepth 100000 in
set_option maxHeartbeats 4000000 in
theorem b_X11_fits_75 {p : Program} {l : Launch} {e : Env} {s : State} {m : MethodId} {args : Array Value} {below : List Frame} {meth : Method} {c : Code} {dC : Nat → ClassId} {dI : Nat → Nat → Nat} {a : Nat → Nat} {k : Nat → ClassId} {A : Nat → Prop} {q : Int32 × ST} {T r κ : Nat} (hC : CxB p s m args meth c dC dI k A cX11_fits RX11 (some .boolean) 2)    {σ : ST} (h : f_X11_fits_75   σ = some (q, r)) (hκ : κ + r = T) : GkB p l e ({ frames := 2, cells := T, slots := 6 * T, locals := 49 } : Room) s m args below meth c (MQ below (qBi dC dI a k A q) args s T (6 * T) A) dC dI a k A 2 75 κ σ [] [] := by
  have hC0 := hC
  obtain ⟨hx, hb, hr, hml, hown, hts, hlocks, hA, hN, hK⟩ := hC0
  intro H locs ls hP hD hS hl
  have hD0 : ∀ σ1 : ST, va_D A (wB a k σ1) := fun σ1 => wB_D hD
  unfold f_X11_fits_75 at h
  refine lv_iconst (v := 1) hx hb dX11_fits_75 (by decide) ?_
  refine lv_goto (tgt := 80) hx hb dX11_fits_76 (by decide) ?_
  obtain ⟨rfl, rfl⟩ := Prod.mk.inj (Option.some.inj h)
  subst hκ
  exact W.zret hx hb hr rfl (fun t ht hW => ⟨⟨_, (), rfl, rfl, ⟨by rw [ht]; exact hP, va_K.moved hW.alike hK, hD⟩⟩, hS.F ht⟩) hS.2.2 dX11_fits_80

set_option maxRecDepth 100000 in
set_option maxHeartbeats 4000000 in
theorem b_X11_fits_e {p : Program} {l : Launch} {e : Env} {s : State} {m : MethodId} {args : Array Value} {below : List Frame} {meth : Method} {c : Code} {dC : Nat → ClassId} {dI : Nat → Nat → Nat} {a : Nat → Nat} {k : Nat → ClassId} {A : Nat → Prop} {q : Int32 × ST} {T r : Nat} (hC : CxB p s m args meth c dC dI k A cX11_fits RX11 (some .boolean) 2)   {p0 : Int32} {σ : ST} (h : f_X11_fits  p0 σ = some (q, r)) (hκ : 0 + r = T) : GkB p l e ({ frames := 2, cells := T, slots := 6 * T, locals := 49 } : Room) s m args below meth c (MQ below (qBi dC dI a k A q) args s T (6 * T) A) dC dI a k A 2 0 0 σ (lv_args 0 [.ref (a 0), .int p0]) [] := by
  have hC0 := hC
  obtain ⟨hx, hb, hr, hml, hown, hts, hlocks, hA, hN, hK⟩ := hC0
  intro H locs ls hP hD hS hl
  have hD0 : ∀ σ1 : ST, va_D A (wB a k σ1) := fun σ1 => wB_D hD
  replace hl : lv_has ls 2 [(0, .ref (a 0)), (1, .int p0)] := hl
  unfold f_X11_fits at h
  refine lv_aload_n hx hb dX11_fits_0 rfl (lv_at hl 0 rfl) ?_
  refine va_get (D := (dC, dI)) (ci := 11) (C := RX11) (T := TX11) (N := 95) hx hb hts inlX11 hown hK hP 0 gB_0 rfl 14 (by decide) (hts (.fieldLink RX11 13 "ShapeReaderModel" "typeSort" "[I") mw_26_28) (fun _ h9 => h9) rfl dX11_fits_1 ?_
  refine lv_iload_n hx hb dX11_fits_4 rfl (lv_at hl 1 rfl) ?_
  obtain ⟨hg1, h⟩ := ig h
  refine va_iald hx hb hK hP 2 1 gB_2 yB_2 (vp_in_iff.mpr hg1) dX11_fits_5 ?_
  rcases (il_sw7 (σ.1 2 p0.toNatClampNeg) (0) (1) (2) (3) (4) (5) (6)) with s2 | s3 | s4 | s5 | s6 | s7 | s8 | ⟨s2, s3, s4, s5, s6, s7, s8⟩
  · replace h := ip s2 h
    refine lv_tableIn (off := 42) (tgt := 48) hx hb dX11_fits_6 (by rw [s2]; decide) (by rw [s2]; decide) (by rw [s2]; rfl) (by decide) ?_
    refine lv_aload_n hx hb dX11_fits_48 rfl (lv_at hl 0 rfl) ?_
    obtain ⟨q9, hc, h⟩ := ib h
    obtain ⟨r2, h, hz⟩ := acE h
    have hF := va_frees hD hS hA
    refine va_calli (va_runV (As := []) (rest := []) ⟨hx, hb, hml, hown, hts⟩ (s_X11_sortHere (q := q9.1) (r := q9.2) hc) (cwV 0 hts (gV mw_30_20 mw_30_21 mw_30_22 mw_0_15 mw_54_12) rfl rfl rfl (by decide +kernel) ⟨(Nat.le_of_ble_eq_true rfl), (Nat.le_of_ble_eq_true rfl)⟩) (vV (ci := 11) (q0 := 0) hK hP hD hN rfl gB_0) rfl rfl hl.1 rfl (lv_room (Nat.le_of_ble_eq_true rfl)) dX11_fits_49 ⟨by show 0 + q9.2 ≤ T; omega, by show 6 * 0 + 6 * q9.2 ≤ 6 * T; omega⟩) hS (fun q _ h => hF q h) hF (fun r10 u t H locs ht hvm hw hB _ _ hS => ?_)
    obtain rfl : r10 = q9.1.1 := hw
    replace hκ : (0 + q9.2) + r2 = T := by omega
    clear hz
    refine W.widen (k := (0 + q9.2)) (n := 6 * (0 + q9.2)) (Nat.le_refl _) (by omega) ?_
    replace hP : va_P (dC, dI) vwCl (wB a k q9.1.2) H := by rw [← ht]; exact hB.1
    replace hD := hD0 (q9.1.2)
    clear hB hF
    refine lv_if_ne (tgt := 59) hx hb dX11_fits_52 (by decide) (fun hc => ?_) (fun hc => ?_)
    · replace h := iq hc h
      refine lv_iconst (v := 0) hx hb dX11_fits_59 (by decide) ?_
      obtain ⟨rfl, rfl⟩ := Prod.mk.inj (Option.some.inj h)
      subst hκ
      exact W.zret hx hb hr rfl (fun t ht hW => ⟨⟨_, (), rfl, rfl, ⟨by rw [ht]; exact hP, va_K.moved hW.alike hK, hD⟩⟩, hS.F ht⟩) hS.2.2 dX11_fits_60
    · replace h := ip hc h
      refine lv_iconst (v := 1) hx hb dX11_fits_55 (by decide) ?_
      refine lv_goto (tgt := 60) hx hb dX11_fits_56 (by decide) ?_
      obtain ⟨rfl, rfl⟩ := Prod.mk.inj (Option.some.inj h)
      subst hκ
      exact W.zret hx hb hr rfl (fun t ht hW => ⟨⟨_, (), rfl, rfl, ⟨by rw [ht]; exact hP, va_K.moved hW.alike hK, hD⟩⟩, hS.F ht⟩) hS.2.2 dX11_fits_60
  · replace h := ip s3 (iq (by rw [s3]; decide) h)
    refine lv_tableIn (off := 55) (tgt := 61) hx hb dX11_fits_6 (by rw [s3]; decide) (by rw [s3]; decide) (by rw [s3]; rfl) (by decide) ?_
    refine lv_aload_n hx hb dX11_fits_61 rfl (lv_at hl 0 rfl) ?_
    obtain ⟨q11, hc, h⟩ := ib h
    obtain ⟨r2, h, hz⟩ := acE h
    have hF := va_frees hD hS hA
    refine va_calli (va_runV (As := []) (rest := []) ⟨hx, hb, hml, hown, hts⟩ (s_X11_isYes (q := q11.1) (r := q11.2) hc) (cwV 0 hts (gV mw_31_8 mw_31_9 mw_31_10 mw_0_15 mw_54_18) rfl rfl rfl (by decide +kernel) ⟨(Nat.le_of_ble_eq_true rfl), (Nat.le_of_ble_eq_true rfl)⟩) (vV (ci := 11) (q0 := 0) hK hP hD hN rfl gB_0) rfl rfl hl.1 rfl (lv_room (Nat.le_of_ble_eq_true rfl)) dX11_fits_62 ⟨by show 0 + q11.2 ≤ T; omega, by show 6 * 0 + 6 * q11.2 ≤ 6 * T; omega⟩) hS (fun q _ h => hF q h) hF (fun r12 u t H locs ht hvm hw hB _ _ hS => ?_)
    obtain rfl : r12 = q11.1.1 := hw
    replace hκ : (0 + q11.2) + r2 = T := by omega
    clear hz
    refine W.widen (k := (0 + q11.2)) (n := 6 * (0 + q11.2)) (Nat.le_refl _) (by omega) ?_
    replace hP : va_P (dC, dI) vwCl (wB a k q11.1.2) H := by rw [← ht]; exact hB.1
    replace hD := hD0 (q11.1.2)
    clear hB hF
    refine lv_if_ne (tgt := 75) hx hb dX11_fits_65 (by decide) (fun hc => ?_) (fun hc => ?_)
    · replace h := iq hc h
      exact b_X11_fits_75 hC h hκ _ _ _ hP hD hS (lv_sub hl [] rfl)
    · replace h := ip hc h
      refine lv_aload_n hx hb dX11_fits_68 rfl (lv_at hl 0 rfl) ?_
      obtain ⟨q13, hc, h⟩ := ib h
      obtain ⟨r2, h, hz⟩ := acE h
      have hF := va_frees hD hS hA
      refine va_calli (va_runV (As := []) (rest := []) ⟨hx, hb, hml, hown, hts⟩ (s_X11_isNo (q := q13.1) (r := q13.2) hc) (cwV 0 hts (gV mw_31_11 mw_31_12 mw_31_13 mw_0_15 mw_54_19) rfl rfl rfl (by decide +kernel) ⟨(Nat.le_of_ble_eq_true rfl), (Nat.le_of_ble_eq_true rfl)⟩) (vV (ci := 11) (q0 := 0) hK hP hD hN rfl gB_0) rfl rfl hl.1 rfl (lv_room (Nat.le_of_ble_eq_true rfl)) dX11_fits_69 ⟨by show (0 + q11.2) + q13.2 ≤ T; omega, by show 6 * (0 + q11.2) + 6 * q13.2 ≤ 6 * T; omega⟩) hS (fun q _ h => hF q h) hF (fun r14 u t H locs ht hvm hw hB _ _ hS => ?_)
      obtain rfl : r14 = q13.1.1 := hw
      replace hκ : ((0 + q11.2) + q13.2) + r2 = T := by omega
      clear hz
      refine W.widen (k := ((0 + q11.2) + q13.2)) (n := 6 * ((0 + q11.2) + q13.2)) (Nat.le_refl _) (by omega) ?_
      replace hP : va_P (dC, dI) vwCl (wB a k q13.1.2) H := by rw [← ht]; exact hB.1
      replace hD := hD0 (q13.1.2)
      clear hB hF
      refine lv_if_eq (tgt := 79) hx hb dX11_fits_72 (by decide) (fun hc => ?_) (fun hc => ?_)
      · replace h := ip hc h
        refine lv_iconst (v := 0) hx hb dX11_fits_79 (by decide) ?_
        obtain ⟨rfl, rfl⟩ := Prod.mk.inj (Option.some.inj h)
        subst hκ
        exact W.zret hx hb hr rfl (fun t ht hW => ⟨⟨_, (), rfl, rfl, ⟨by rw [ht]; exact hP, va_K.moved hW.alike hK, hD⟩⟩, hS.F ht⟩) hS.2.2 dX11_fits_80
      · replace h := iq hc h
        exact b_X11_fits_75 hC h hκ _ _ _ hP hD hS (lv_sub hl [] rfl)
  · replace h := ip s4 (iq (by rw [s4]; decide) (iq (by rw [s4]; decide) h))
    refine lv_tableIn (off := 75) (tgt := 81) hx hb dX11_fits_6 (by rw [s4]; decide) (by rw [s4]; decide) (by rw [s4]; rfl) (by decide) ?_
    refine lv_aload_n hx hb dX11_fits_81 rfl (lv_at hl 0 rfl) ?_
    refine va_get (D := (dC, dI)) (ci := 11) (C := RX11) (T := TX11) (N := 95) hx hb hts inlX11 hown hK hP 0 gB_0 rfl 6 (by decide) (hts (.fieldLink RX11 244 "ShapeReaderModel" "token" "I") mw_29_21) (fun _ h9 => h9) rfl dX11_fits_82 ?_
    refine lv_iconst (v := 2) hx hb dX11_fits_85 (by decide) ?_
    refine lv_icmp_ne (tgt := 116) hx hb dX11_fits_86 (by decide) (fun hc => ?_) (fun hc => ?_)
    · replace h := iq hc h
      refine lv_iconst (v := 0) hx hb dX11_fits_116 (by decide) ?_
      obtain ⟨rfl, rfl⟩ := Prod.mk.inj (Option.some.inj h)
      subst hκ
      exact W.zret hx hb hr rfl (fun t ht hW => ⟨⟨_, (), rfl, rfl, ⟨by rw [ht]; exact hP, va_K.moved hW.alike hK, hD⟩⟩, hS.F ht⟩) hS.2.2 dX11_fits_117
    · replace h := ip hc h
      refine lv_aload_n hx hb dX11_fits_89 rfl (lv_at hl 0 rfl) ?_
      refine va_get (D := (dC, dI)) (ci := 11) (C := RX11) (T := TX11) (N := 95) hx hb hts inlX11 hown hK hP 0 gB_0 rfl 10 (by decide) (hts (.fieldLink RX11 234 "ShapeReaderModel" "isPointed" "Z") mw_29_18) (fun _ h9 => h9) rfl dX11_fits_90 ?_
      refine lv_if_ne (tgt := 116) hx hb dX11_fits_93 (by decide) (fun hc => ?_) (fun hc => ?_)
      · replace h := iq hc h
        refine lv_iconst (v := 0) hx hb dX11_fits_116 (by decide) ?_
        obtain ⟨rfl, rfl⟩ := Prod.mk.inj (Option.some.inj h)
        subst hκ
        exact W.zret hx hb hr rfl (fun t ht hW => ⟨⟨_, (), rfl, rfl, ⟨by rw [ht]; exact hP, va_K.moved hW.alike hK, hD⟩⟩, hS.F ht⟩) hS.2.2 dX11_fits_117
      · replace h := ip hc h
        refine lv_aload_n hx hb dX11_fits_96 rfl (lv_at hl 0 rfl) ?_
        refine va_get (D := (dC, dI)) (ci := 11) (C := RX11) (T := TX11) (N := 95) hx hb hts inlX11 hown hK hP 0 gB_0 rfl 9 (by decide) (hts (.fieldLink RX11 226 "ShapeReaderModel" "whole" "J") mw_29_14) (fun _ h9 => h9) rfl dX11_fits_97 ?_
        refine lv_ldc2 (v := (-2147483648)) hx hb hown (hts (.constantLong RX11 328 (-2147483648)) mw_31_27) dX11_fits_100 ?_
        refine lv_ldc2 (v := 2147483647) hx hb hown (hts (.constantLong RX11 330 (2147483647)) mw_31_28) dX11_fits_103 ?_
        obtain ⟨q15, hc, h⟩ := ib h
        have hF := va_frees hD hS hA
        refine va_calli (va_runS (As := [.long (σ.2.1 0 9), .long (-2147483648), .long 2147483647]) (rest := []) ⟨hx, hb, hml, hown, hts⟩ (s_X11_within hc) (va_cwS 3 hts (gS mw_29_0 mw_29_1 mw_0_15 mw_53_26) rfl rfl rfl (by decide +kernel) ⟨(Nat.le_of_ble_eq_true rfl), (Nat.le_of_ble_eq_true rfl)⟩) (vS hK hP hD hN) rfl rfl hl.1 rfl (lv_room (Nat.le_of_ble_eq_true rfl)) dX11_fits_106 ⟨by show 0 + 0 ≤ T; omega, by show 6 * 0 + 0 ≤ 6 * T; omega⟩) hS (fun q _ h => hF q h) hF (fun r16 u t H locs ht hvm hw hB _ _ hS => ?_)
        obtain rfl : r16 = q15.1 := hw
        replace hP : va_P (dC, dI) vwCl (wB a k q15.2) H := by rw [← ht]; exact hB.1
        replace hD := hD0 (q15.2)
        clear hB hF
        refine lv_if_eq (tgt := 116) hx hb dX11_fits_109 (by decide) (fun hc => ?_) (fun hc => ?_)
        · replace h := ip hc h
          refine lv_iconst (v := 0) hx hb dX11_fits_116 (by decide) ?_
          obtain ⟨rfl, rfl⟩ := Prod.mk.inj (Option.some.inj h)
          subst hκ
          exact W.zret hx hb hr rfl (fun t ht hW => ⟨⟨_, (), rfl, rfl, ⟨by rw [ht]; exact hP, va_K.moved hW.alike hK, hD⟩⟩, hS.F ht⟩) hS.2.2 dX11_fits_117
        · replace h := iq hc h
          refine lv_iconst (v := 1) hx hb dX11_fits_112 (by decide) ?_
          refine lv_goto (tgt := 117) hx hb dX11_fits_113 (by decide) ?_
          obtain ⟨rfl, rfl⟩ := Prod.mk.inj (Option.some.inj h)
          subst hκ
          exact W.zret hx hb hr rfl (fun t ht hW => ⟨⟨_, (), rfl, rfl, ⟨by rw [ht]; exact hP, va_K.moved hW.alike hK, hD⟩⟩, hS.F ht⟩) hS.2.2 dX11_fits_117
  · replace h := ip s5 (iq (by rw [s5]; decide) (iq (by rw [s5]; decide) (iq (by rw [s5]; decide) h)))
    refine lv_tableIn (off := 112) (tgt := 118) hx hb dX11_fits_6 (by rw [s5]; decide) (by rw [s5]; decide) (by rw [s5]; rfl) (by decide) ?_
    refine lv_aload_n hx hb dX11_fits_118 rfl (lv_at hl 0 rfl) ?_
    refine va_get (D := (dC, dI)) (ci := 11) (C := RX11) (T := TX11) (N := 95) hx hb hts inlX11 hown hK hP 0 gB_0 rfl 6 (by decide) (hts (.fieldLink RX11 244 "ShapeReaderModel" "token" "I") mw_29_21) (fun _ h9 => h9) rfl dX11_fits_119 ?_
    refine lv_iconst (v := 2) hx hb dX11_fits_122 (by decide) ?_
    refine lv_icmp_ne (tgt := 137) hx hb dX11_fits_123 (by decide) (fun hc => ?_) (fun hc => ?_)
    · replace h := iq hc h
      refine lv_iconst (v := 0) hx hb dX11_fits_137 (by decide) ?_
      obtain ⟨rfl, rfl⟩ := Prod.mk.inj (Option.some.inj h)
      subst hκ
      exact W.zret hx hb hr rfl (fun t ht hW => ⟨⟨_, (), rfl, rfl, ⟨by rw [ht]; exact hP, va_K.moved hW.alike hK, hD⟩⟩, hS.F ht⟩) hS.2.2 dX11_fits_138
    · replace h := ip hc h
      refine lv_aload_n hx hb dX11_fits_126 rfl (lv_at hl 0 rfl) ?_
      refine va_get (D := (dC, dI)) (ci := 11) (C := RX11) (T := TX11) (N := 95) hx hb hts inlX11 hown hK hP 0 gB_0 rfl 10 (by decide) (hts (.fieldLink RX11 234 "ShapeReaderModel" "isPointed" "Z") mw_29_18) (fun _ h9 => h9) rfl dX11_fits_127 ?_
      refine lv_if_ne (tgt := 137) hx hb dX11_fits_130 (by decide) (fun hc => ?_) (fun hc => ?_)
      · replace h := iq hc h
        refine lv_iconst (v := 0) hx hb dX11_fits_137 (by decide) ?_
        obtain ⟨rfl, rfl⟩ := Prod.mk.inj (Option.some.inj h)
        subst hκ
        exact W.zret hx hb hr rfl (fun t ht hW => ⟨⟨_, (), rfl, rfl, ⟨by rw [ht]; exact hP, va_K.moved hW.alike hK, hD⟩⟩, hS.F ht⟩) hS.2.2 dX11_fits_138
      · replace h := ip hc h
        refine lv_iconst (v := 1) hx hb dX11_fits_133 (by decide) ?_
        refine lv_goto (tgt := 138) hx hb dX11_fits_134 (by decide) ?_
        obtain ⟨rfl, rfl⟩ := Prod.mk.inj (Option.some.inj h)
        subst hκ
        exact W.zret hx hb hr rfl (fun t ht hW => ⟨⟨_, (), rfl, rfl, ⟨by rw [ht]; exact hP, va_K.moved hW.alike hK, hD⟩⟩, hS.F ht⟩) hS.2.2 dX11_fits_138
  · replace h := ip s6 (iq (by rw [s6]; decide) (iq (by rw [s6]; decide) (iq (by rw [s6]; decide) (iq (by rw [s6]; decide) h))))
    refine lv_tableIn (off := 133) (tgt := 139) hx hb dX11_fits_6 (by rw [s6]; decide) (by rw [s6]; decide) (by rw [s6]; rfl) (by decide) ?_
    refine lv_aload_n hx hb dX11_fits_139 rfl (lv_at hl 0 rfl) ?_
    refine va_get (D := (dC, dI)) (ci := 11) (C := RX11) (T := TX11) (N := 95) hx hb hts inlX11 hown hK hP 0 gB_0 rfl 6 (by decide) (hts (.fieldLink RX11 244 "ShapeReaderModel" "token" "I") mw_29_21) (fun _ h9 => h9) rfl dX11_fits_140 ?_
    refine lv_iconst (v := 2) hx hb dX11_fits_143 (by decide) ?_
    refine lv_icmp_ne (tgt := 151) hx hb dX11_fits_144 (by decide) (fun hc => ?_) (fun hc => ?_)
    · replace h := iq hc h
      refine lv_iconst (v := 0) hx hb dX11_fits_151 (by decide) ?_
      obtain ⟨rfl, rfl⟩ := Prod.mk.inj (Option.some.inj h)
      subst hκ
      exact W.zret hx hb hr rfl (fun t ht hW => ⟨⟨_, (), rfl, rfl, ⟨by rw [ht]; exact hP, va_K.moved hW.alike hK, hD⟩⟩, hS.F ht⟩) hS.2.2 dX11_fits_152
    · replace h := ip hc h
      refine lv_iconst (v := 1) hx hb dX11_fits_147 (by decide) ?_
      refine lv_goto (tgt := 152) hx hb dX11_fits_148 (by decide) ?_
      obtain ⟨rfl, rfl⟩ := Prod.mk.inj (Option.some.inj h)
      subst hκ
      exact W.zret hx hb hr rfl (fun t ht hW => ⟨⟨_, (), rfl, rfl, ⟨by rw [ht]; exact hP, va_K.moved hW.alike hK, hD⟩⟩, hS.F ht⟩) hS.2.2 dX11_fits_152
  · replace h := ip s7 (iq (by rw [s7]; decide) (iq (by rw [s7]; decide) (iq (by rw [s7]; decide) (iq (by rw [s7]; decide) (iq (by rw [s7]; decide) h)))))
    refine lv_tableIn (off := 147) (tgt := 153) hx hb dX11_fits_6 (by rw [s7]; decide) (by rw [s7]; decide) (by rw [s7]; rfl) (by decide) ?_
    refine lv_aload_n hx hb dX11_fits_153 rfl (lv_at hl 0 rfl) ?_
    refine va_get (D := (dC, dI)) (ci := 11) (C := RX11) (T := TX11) (N := 95) hx hb hts inlX11 hown hK hP 0 gB_0 rfl 6 (by decide) (hts (.fieldLink RX11 244 "ShapeReaderModel" "token" "I") mw_29_21) (fun _ h9 => h9) rfl dX11_fits_154 ?_
    refine lv_iconst (v := 3) hx hb dX11_fits_157 (by decide) ?_
    refine lv_icmp_ne (tgt := 165) hx hb dX11_fits_158 (by decide) (fun hc => ?_) (fun hc => ?_)
    · replace h := iq hc h
      refine lv_iconst (v := 0) hx hb dX11_fits_165 (by decide) ?_
      obtain ⟨rfl, rfl⟩ := Prod.mk.inj (Option.some.inj h)
      subst hκ
      exact W.zret hx hb hr rfl (fun t ht hW => ⟨⟨_, (), rfl, rfl, ⟨by rw [ht]; exact hP, va_K.moved hW.alike hK, hD⟩⟩, hS.F ht⟩) hS.2.2 dX11_fits_166
    · replace h := ip hc h
      refine lv_iconst (v := 1) hx hb dX11_fits_161 (by decide) ?_
      refine lv_goto (tgt := 166) hx hb dX11_fits_162 (by decide) ?_
      obtain ⟨rfl, rfl⟩ := Prod.mk.inj (Option.some.inj h)
      subst hκ
      exact W.zret hx hb hr rfl (fun t ht hW => ⟨⟨_, (), rfl, rfl, ⟨by rw [ht]; exact hP, va_K.moved hW.alike hK, hD⟩⟩, hS.F ht⟩) hS.2.2 dX11_fits_166
  · replace h := ip s8 (iq (by rw [s8]; decide) (iq (by rw [s8]; decide) (iq (by rw [s8]; decide) (iq (by rw [s8]; decide) (iq (by rw [s8]; decide) (iq (by rw [s8]; decide) h))))))
    refine lv_tableIn (off := 161) (tgt := 167) hx hb dX11_fits_6 (by rw [s8]; decide) (by rw [s8]; decide) (by rw [s8]; rfl) (by decide) ?_
    refine lv_aload_n hx hb dX11_fits_167 rfl (lv_at hl 0 rfl) ?_
    refine va_get (D := (dC, dI)) (ci := 11) (C := RX11) (T := TX11) (N := 95) hx hb hts inlX11 hown hK hP 0 gB_0 rfl 13 (by decide) (hts (.fieldLink RX11 253 "ShapeReaderModel" "sign" "I") mw_29_26) (fun _ h9 => h9) rfl dX11_fits_168 ?_
    refine lv_bipush (v := 91) hx hb dX11_fits_171 (by decide) ?_
    refine lv_icmp_ne (tgt := 180) hx hb dX11_fits_173 (by decide) (fun hc => ?_) (fun hc => ?_)
    · replace h := iq hc h
      refine lv_iconst (v := 0) hx hb dX11_fits_180 (by decide) ?_
      obtain ⟨rfl, rfl⟩ := Prod.mk.inj (Option.some.inj h)
      subst hκ
      exact W.zret hx hb hr rfl (fun t ht hW => ⟨⟨_, (), rfl, rfl, ⟨by rw [ht]; exact hP, va_K.moved hW.alike hK, hD⟩⟩, hS.F ht⟩) hS.2.2 dX11_fits_181
    · replace h := ip hc h
      refine lv_iconst (v := 1) hx hb dX11_fits_176 (by decide) ?_
      refine lv_goto (tgt := 181) hx hb dX11_fits_177 (by decide) ?_
      obtain ⟨rfl, rfl⟩ := Prod.mk.inj (Option.some.inj h)
      subst hκ
      exact W.zret hx hb hr rfl (fun t ht hW => ⟨⟨_, (), rfl, rfl, ⟨by rw [ht]; exact hP, va_K.moved hW.alike hK, hD⟩⟩, hS.F ht⟩) hS.2.2 dX11_fits_181
  · replace h := (iq s8 (iq s7 (iq s6 (iq s5 (iq s4 (iq s3 (iq s2 h)))))))
    refine lv_tableOut (tgt := 182) hx hb dX11_fits_6 (by have a0 := il_ne s2; have e0 : (0 : Int32).toInt = 0 := (by decide); have a1 := il_ne s3; have e1 : (1 : Int32).toInt = 1 := (by decide); have a2 := il_ne s4; have e2 : (2 : Int32).toInt = 2 := (by decide); have a3 := il_ne s5; have e3 : (3 : Int32).toInt = 3 := (by decide); have a4 := il_ne s6; have e4 : (4 : Int32).toInt = 4 := (by decide); have a5 := il_ne s7; have e5 : (5 : Int32).toInt = 5 := (by decide); have a6 := il_ne s8; have e6 : (6 : Int32).toInt = 6 := (by decide); omega) (by decide) ?_
    refine lv_aload_n hx hb dX11_fits_182 rfl (lv_at hl 0 rfl) ?_
    refine va_get (D := (dC, dI)) (ci := 11) (C := RX11) (T := TX11) (N := 95) hx hb hts inlX11 hown hK hP 0 gB_0 rfl 14 (by decide) (hts (.fieldLink RX11 13 "ShapeReaderModel" "typeSort" "[I") mw_26_28) (fun _ h9 => h9) rfl dX11_fits_183 ?_
    refine lv_iload_n hx hb dX11_fits_186 rfl (lv_at hl 1 rfl) ?_
    refine va_iald hx hb hK hP 2 1 gB_2 yB_2 (vp_in_iff.mpr hg1) dX11_fits_187 ?_
    refine lv_bipush (v := 7) hx hb dX11_fits_188 (by decide) ?_
    refine lv_icmp_ne (tgt := 206) hx hb dX11_fits_190 (by decide) (fun hc => ?_) (fun hc => ?_)
    · replace h := iq hc h
      refine lv_iconst (v := 0) hx hb dX11_fits_206 (by decide) ?_
      obtain ⟨rfl, rfl⟩ := Prod.mk.inj (Option.some.inj h)
      subst hκ
      exact W.zret hx hb hr rfl (fun t ht hW => ⟨⟨_, (), rfl, rfl, ⟨by rw [ht]; exact hP, va_K.moved hW.alike hK, hD⟩⟩, hS.F ht⟩) hS.2.2 dX11_fits_207
    · replace h := ip hc h
      refine lv_aload_n hx hb dX11_fits_193 rfl (lv_at hl 0 rfl) ?_
      refine va_get (D := (dC, dI)) (ci := 11) (C := RX11) (T := TX11) (N := 95) hx hb hts inlX11 hown hK hP 0 gB_0 rfl 13 (by decide) (hts (.fieldLink RX11 253 "ShapeReaderModel" "sign" "I") mw_29_26) (fun _ h9 => h9) rfl dX11_fits_194 ?_
      refine lv_bipush (v := 123) hx hb dX11_fits_197 (by decide) ?_
      refine lv_icmp_ne (tgt := 206) hx hb dX11_fits_199 (by decide) (fun hc => ?_) (fun hc => ?_)
      · replace h := iq hc h
        refine lv_iconst (v := 0) hx hb dX11_fits_206 (by decide) ?_
        obtain ⟨rfl, rfl⟩ := Prod.mk.inj (Option.some.inj h)
        subst hκ
        exact W.zret hx hb hr rfl (fun t ht hW => ⟨⟨_, (), rfl, rfl, ⟨by rw [ht]; exact hP, va_K.moved hW.alike hK, hD⟩⟩, hS.F ht⟩) hS.2.2 dX11_fits_207
      · replace h := ip hc h
        refine lv_iconst (v := 1) hx hb dX11_fits_202 (by decide) ?_
        refine lv_goto (tgt := 207) hx hb dX11_fits_203 (by decide) ?_
        obtain ⟨rfl, rfl⟩ := Prod.mk.inj (Option.some.inj h)
        subst hκ
        exact W.zret hx hb hr rfl (fun t ht hW => ⟨⟨_, (), rfl, rfl, ⟨by rw [ht]; exact hP, va_K.moved hW.alike hK, hD⟩⟩, hS.F ht⟩) hS.2.2 dX11_fits_207

theorem s_X11_fits {l : Launch} {dC : Nat → ClassId} {dI : Nat → Nat → Nat} {a : Nat → Nat} {k : Nat → ClassId} {sz : Nat} {p0 : Int32} {σ : ST} {q : Int32 × ST} {r : Nat} (h : f_X11_fits  p0 σ = some (q, r)) : Met l yX11_fits (.code yX11_fits cX11_fits 2 (some .boolean) :: pw) ({ frames := 2, cells := r, slots := 6 * r, locals := 49 } : Room) (va_Pc [.ref (a 0), .int p0] (vPre dC dI (wB a k σ) (tB k) sz)) (qBi dC dI a k (va_A (wB a k σ) sz) q) r (6 * r) (va_A (wB a k σ) sz) := mekB (fun A => qBi dC dI a k A q) (plainFor_of_name (by decide)) (Nat.le_of_ble_eq_true rfl) (fun _ _ _ _ _ _ _ _ hC => b_X11_fits_e hC h (Nat.zero_add _))

def f_X11_branchFor_2  : Nat → Int32 → Int32 → ST → Option ((Int32 × ST) × Nat)
  | 0, _, _, _ => none
  | n + 1, x1, x2, σ => if 0 ≤ x1.toInt ∧ x1.toInt < 800 then (if (σ.1 4 x1.toNatClampNeg) ≤ x2 then (some (((-1), σ), 0)) else (if 0 ≤ ((4 * x1) + x2).toInt ∧ ((4 * x1) + x2).toInt < 3200 then ((f_X11_fits  (σ.1 5 ((4 * x1) + x2).toNatClampNeg) σ).bind fun q3 => ac q3.2 (if q3.1.1 = 0 then (f_X11_branchFor_2  n x1 (x2 + 1) q3.1.2) else (some ((x2, q3.1.2), 0)))) else none)) else none
def f_X11_branchFor (p0 : Int32) (σ : ST) : Option ((Int32 × ST) × Nat) := f_X11_branchFor_2  FU p0 0 σ

set_option maxRecDepth 100000 in
set_option maxHeartbeats 4000000 in
theorem b_X11_branchFor_2 {p : Program} {l : Launch} {e : Env} {s : State} {m : MethodId} {args : Array Value} {below : List Frame} {meth : Method} {c : Code} {dC : Nat → ClassId} {dI : Nat → Nat → Nat} {a : Nat → Nat} {k : Nat → ClassId} {A : Nat → Prop} {q : Int32 × ST} {T : Nat} (hC : CxB p s m args meth c dC dI k A cX11_branchFor RX11 (some .int) 3)   : ∀ (n : Nat) (x1 : Int32) (x2 : Int32) (σ : ST) (κ r : Nat), f_X11_branchFor_2  n x1 x2 σ = some (q, r) → κ + r = T → GkB p l e ({ frames := 3, cells := T, slots := 6 * T, locals := 70 } : Room) s m args below meth c (MQ below (qBi dC dI a k A q) args s T (6 * T) A) dC dI a k A 3 2 κ σ [(0, .ref (a 0)), (1, .int x1), (2, .int x2)] [] := by
  intro n
  induction n with
  | zero =>
    intro x1 x2 σ κ r h
    rw [f_X11_branchFor_2] at h
    cases h
  | succ n ih =>
    intro x1 x2 σ κ r h hκ
    have hC0 := hC
    obtain ⟨hx, hb, hr, hml, hown, hts, hlocks, hA, hN, hK⟩ := hC0
    intro H locs ls hP hD hS hl
    have hD0 : ∀ σ1 : ST, va_D A (wB a k σ1) := fun σ1 => wB_D hD
    rw [f_X11_branchFor_2] at h
    refine lv_iload_n hx hb dX11_branchFor_2 rfl (lv_at hl 2 rfl) ?_
    refine lv_aload_n hx hb dX11_branchFor_3 rfl (lv_at hl 0 rfl) ?_
    refine va_get (D := (dC, dI)) (ci := 11) (C := RX11) (T := TX11) (N := 95) hx hb hts inlX11 hown hK hP 0 gB_0 rfl 16 (by decide) (hts (.fieldLink RX11 20 "ShapeReaderModel" "typeMany" "[I") mw_27_0) (fun _ h9 => h9) rfl dX11_branchFor_4 ?_
    refine lv_iload_n hx hb dX11_branchFor_7 rfl (lv_at hl 1 rfl) ?_
    obtain ⟨hg1, h⟩ := ig h
    refine va_iald hx hb hK hP 4 3 gB_4 yB_4 (vp_in_iff.mpr hg1) dX11_branchFor_8 ?_
    refine lv_icmp_ge (tgt := 37) hx hb dX11_branchFor_9 (by decide) (fun hc => ?_) (fun hc => ?_)
    · replace h := ip hc h
      refine lv_iconst (v := (-1)) hx hb dX11_branchFor_37 (by decide) ?_
      obtain ⟨rfl, rfl⟩ := Prod.mk.inj (Option.some.inj h)
      subst hκ
      exact W.iret hx hb hr (fun t ht hW => ⟨⟨_, (), rfl, rfl, ⟨by rw [ht]; exact hP, va_K.moved hW.alike hK, hD⟩⟩, hS.F ht⟩) hS.2.2 dX11_branchFor_38
    · replace h := iq hc h
      refine lv_aload_n hx hb dX11_branchFor_12 rfl (lv_at hl 0 rfl) ?_
      refine lv_aload_n hx hb dX11_branchFor_13 rfl (lv_at hl 0 rfl) ?_
      refine va_get (D := (dC, dI)) (ci := 11) (C := RX11) (T := TX11) (N := 95) hx hb hts inlX11 hown hK hP 0 gB_0 rfl 17 (by decide) (hts (.fieldLink RX11 23 "ShapeReaderModel" "branch" "[I") mw_27_1) (fun _ h9 => h9) rfl dX11_branchFor_14 ?_
      refine lv_iconst (v := 4) hx hb dX11_branchFor_17 (by decide) ?_
      refine lv_iload_n hx hb dX11_branchFor_18 rfl (lv_at hl 1 rfl) ?_
      refine lv_imul hx hb dX11_branchFor_19 ?_
      refine lv_iload_n hx hb dX11_branchFor_20 rfl (lv_at hl 2 rfl) ?_
      refine lv_iadd hx hb dX11_branchFor_21 ?_
      obtain ⟨hg2, h⟩ := ig h
      refine va_iald hx hb hK hP 5 4 gB_5 yB_5 (vp_in_iff.mpr hg2) dX11_branchFor_22 ?_
      obtain ⟨q3, hc, h⟩ := ib h
      obtain ⟨r2, h, hz⟩ := acE h
      have hF := va_frees hD hS hA
      refine va_calli (va_runV (As := [.int (σ.1 5 ((4 * x1) + x2).toNatClampNeg)]) (rest := []) ⟨hx, hb, hml, hown, hts⟩ (s_X11_fits (q := q3.1) (r := q3.2) hc) (cwV 1 hts (gV mw_32_7 mw_32_8 mw_32_9 mw_0_15 mw_54_24) rfl rfl rfl (by decide +kernel) ⟨(Nat.le_of_ble_eq_true rfl), (Nat.le_of_ble_eq_true rfl)⟩) (vV (ci := 11) (q0 := 0) hK hP hD hN rfl gB_0) rfl rfl hl.1 rfl (lv_room (Nat.le_of_ble_eq_true rfl)) dX11_branchFor_23 ⟨by show κ + q3.2 ≤ T; omega, by show 6 * κ + 6 * q3.2 ≤ 6 * T; omega⟩) hS (fun q _ h => hF q h) hF (fun r4 u t H locs ht hvm hw hB _ _ hS => ?_)
      obtain rfl : r4 = q3.1.1 := hw
      replace hκ : (κ + q3.2) + r2 = T := by omega
      clear hz
      refine W.widen (k := (κ + q3.2)) (n := 6 * (κ + q3.2)) (Nat.le_refl _) (by omega) ?_
      replace hP : va_P (dC, dI) vwCl (wB a k q3.1.2) H := by rw [← ht]; exact hB.1
      replace hD := hD0 (q3.1.2)
      clear hB hF
      refine lv_if_eq (tgt := 31) hx hb dX11_branchFor_26 (by decide) (fun hc => ?_) (fun hc => ?_)
      · replace h := ip hc h
        refine lv_iinc (v := (x2 + 1)) (lv' := [(2, .int (x2 + 1)), (0, .ref (a 0)), (1, .int x1)]) hx hb dX11_branchFor_31 hl (k := 2) rfl rfl (by decide) rfl (fun ls hl => ?_)
        refine lv_goto (tgt := 2) hx hb dX11_branchFor_34 (by decide) ?_
        exact ih _ _ _ _ _ h hκ _ _ _ hP hD hS (lv_sub hl [1, 2, 0] rfl)
      · replace h := iq hc h
        refine lv_iload_n hx hb dX11_branchFor_29 rfl (lv_at hl 2 rfl) ?_
        obtain ⟨rfl, rfl⟩ := Prod.mk.inj (Option.some.inj h)
        subst hκ
        exact W.iret hx hb hr (fun t ht hW => ⟨⟨_, (), rfl, rfl, ⟨by rw [ht]; exact hP, va_K.moved hW.alike hK, hD⟩⟩, hS.F ht⟩) hS.2.2 dX11_branchFor_30

set_option maxRecDepth 100000 in
set_option maxHeartbeats 4000000 in
theorem b_X11_branchFor_e {p : Program} {l : Launch} {e : Env} {s : State} {m : MethodId} {args : Array Value} {below : List Frame} {meth : Method} {c : Code} {dC : Nat → ClassId} {dI : Nat → Nat → Nat} {a : Nat → Nat} {k : Nat → ClassId} {A : Nat → Prop} {q : Int32 × ST} {T r : Nat} (hC : CxB p s m args meth c dC dI k A cX11_branchFor RX11 (some .int) 3)   {p0 : Int32} {σ : ST} (h : f_X11_branchFor  p0 σ = some (q, r)) (hκ : 0 + r = T) : GkB p l e ({ frames := 3, cells := T, slots := 6 * T, locals := 70 } : Room) s m args below meth c (MQ below (qBi dC dI a k A q) args s T (6 * T) A) dC dI a k A 3 0 0 σ (lv_args 0 [.ref (a 0), .int p0]) [] := by
  have hC0 := hC
  obtain ⟨hx, hb, hr, hml, hown, hts, hlocks, hA, hN, hK⟩ := hC0
  intro H locs ls hP hD hS hl
  have hD0 : ∀ σ1 : ST, va_D A (wB a k σ1) := fun σ1 => wB_D hD
  replace hl : lv_has ls 3 [(0, .ref (a 0)), (1, .int p0)] := hl
  unfold f_X11_branchFor at h
  refine lv_iconst (v := 0) hx hb dX11_branchFor_0 (by decide) ?_
  refine lv_istore_n (lv' := [(2, .int 0), (0, .ref (a 0)), (1, .int p0)]) hx hb dX11_branchFor_1 rfl hl (by decide) rfl (fun ls hl => ?_)
  exact b_X11_branchFor_2 hC FU _ _ _ _ _ h hκ _ _ _ hP hD hS (lv_sub hl [1, 2, 0] rfl)

theorem s_X11_branchFor {l : Launch} {dC : Nat → ClassId} {dI : Nat → Nat → Nat} {a : Nat → Nat} {k : Nat → ClassId} {sz : Nat} {p0 : Int32} {σ : ST} {q : Int32 × ST} {r : Nat} (h : f_X11_branchFor  p0 σ = some (q, r)) : Met l yX11_branchFor (.code yX11_branchFor cX11_branchFor 3 (some .int) :: pw) ({ frames := 3, cells := r, slots := 6 * r, locals := 70 } : Room) (va_Pc [.ref (a 0), .int p0] (vPre dC dI (wB a k σ) (tB k) sz)) (qBi dC dI a k (va_A (wB a k σ) sz) q) r (6 * r) (va_A (wB a k σ) sz) := mekB (fun A => qBi dC dI a k A q) (plainFor_of_name (by decide)) (Nat.le_of_ble_eq_true rfl) (fun _ _ _ _ _ _ _ _ hC => b_X11_branchFor_e hC h (Nat.zero_add _))

def f_X11_isOr (σ : ST) : Option ((Int32 × ST) × Nat) := (f_X11_spelt  111 114 0 0 0 0 σ).bind fun q1 => ac q1.2 ((f_X11_isWord  q1.1.1 q1.1.2).bind fun q3 => if q3.1 = 0 ∨ q3.1 = 1 then some ((q3.1, q3.2), 0) else none)

set_option maxRecDepth 100000 in
set_option maxHeartbeats 4000000 in
theorem b_X11_isOr_e {p : Program} {l : Launch} {e : Env} {s : State} {m : MethodId} {args : Array Value} {below : List Frame} {meth : Method} {c : Code} {dC : Nat → ClassId} {dI : Nat → Nat → Nat} {a : Nat → Nat} {k : Nat → ClassId} {A : Nat → Prop} {q : Int32 × ST} {T r : Nat} (hC : CxB p s m args meth c dC dI k A cX11_isOr RX11 (some .boolean) 1)    {σ : ST} (h : f_X11_isOr   σ = some (q, r)) (hκ : 0 + r = T) : GkB p l e ({ frames := 1, cells := T, slots := 6 * T, locals := 29 } : Room) s m args below meth c (MQ below (qBi dC dI a k A q) args s T (6 * T) A) dC dI a k A 1 0 0 σ (lv_args 0 [.ref (a 0)]) [] := by
  have hC0 := hC
  obtain ⟨hx, hb, hr, hml, hown, hts, hlocks, hA, hN, hK⟩ := hC0
  intro H locs ls hP hD hS hl
  have hD0 : ∀ σ1 : ST, va_D A (wB a k σ1) := fun σ1 => wB_D hD
  replace hl : lv_has ls 1 [(0, .ref (a 0))] := hl
  unfold f_X11_isOr at h
  refine lv_aload_n hx hb dX11_isOr_0 rfl (lv_at hl 0 rfl) ?_
  refine lv_bipush (v := 111) hx hb dX11_isOr_1 (by decide) ?_
  refine lv_bipush (v := 114) hx hb dX11_isOr_3 (by decide) ?_
  refine lv_iconst (v := 0) hx hb dX11_isOr_5 (by decide) ?_
  refine lv_iconst (v := 0) hx hb dX11_isOr_6 (by decide) ?_
  refine lv_iconst (v := 0) hx hb dX11_isOr_7 (by decide) ?_
  refine lv_iconst (v := 0) hx hb dX11_isOr_8 (by decide) ?_
  obtain ⟨q1, hc, h⟩ := ib h
  obtain ⟨r2, h, hz⟩ := acE h
  have hF := va_frees hD hS hA
  refine va_calll (va_runS (As := [.int 111, .int 114, .int 0, .int 0, .int 0, .int 0]) (rest := [.ref (a 0)]) ⟨hx, hb, hml, hown, hts⟩ (s_X11_spelt (q := q1.1) (r := q1.2) hc) (va_cwS 6 hts (gS mw_30_15 mw_30_16 mw_0_15 mw_54_7) rfl rfl rfl (by decide +kernel) ⟨(Nat.le_of_ble_eq_true rfl), (Nat.le_of_ble_eq_true rfl)⟩) (vS hK hP hD hN) rfl rfl hl.1 rfl (lv_room (Nat.le_of_ble_eq_true rfl)) dX11_isOr_9 ⟨by show 0 + q1.2 ≤ T; omega, by show 6 * 0 + 6 * q1.2 ≤ 6 * T; omega⟩) hS (fun q _ h => hF q h) hF (fun r2 u t H locs ht hvm hw hB _ _ hS => ?_)
  obtain rfl : r2 = q1.1.1 := hw
  replace hκ : (0 + q1.2) + r2 = T := by omega
  clear hz
  refine W.widen (k := (0 + q1.2)) (n := 6 * (0 + q1.2)) (Nat.le_refl _) (by omega) ?_
  replace hP : va_P (dC, dI) vwCl (wB a k q1.1.2) H := by rw [← ht]; exact hB.1
  replace hD := hD0 (q1.1.2)
  clear hB hF
  obtain ⟨q3, hc, h⟩ := ib h
  have hF := va_frees hD hS hA
  refine va_calli (va_runV (As := [.long q1.1.1]) (rest := []) ⟨hx, hb, hml, hown, hts⟩ (s_X11_isWord hc) (cwV 1 hts (gV mw_30_17 mw_30_18 mw_30_19 mw_0_15 mw_54_8) rfl rfl rfl (by decide +kernel) ⟨(Nat.le_of_ble_eq_true rfl), (Nat.le_of_ble_eq_true rfl)⟩) (vV (ci := 11) (q0 := 0) hK hP hD hN rfl gB_0) rfl rfl hl.1 rfl (lv_room (Nat.le_of_ble_eq_true rfl)) dX11_isOr_12 ⟨by show (0 + q1.2) + 0 ≤ T; omega, by show 6 * (0 + q1.2) + 0 ≤ 6 * T; omega⟩) hS (fun q _ h => hF q h) hF (fun r4 u t H locs ht hvm hw hB _ _ hS => ?_)
  obtain rfl : r4 = q3.1 := hw
  replace hP : va_P (dC, dI) vwCl (wB a k q3.2) H := by rw [← ht]; exact hB.1
  replace hD := hD0 (q3.2)
  clear hB hF
  obtain ⟨hg, h⟩ := ig h
  obtain ⟨rfl, rfl⟩ := Prod.mk.inj (Option.some.inj h)
  subst hκ
  exact W.zret hx hb hr (zn hg) (fun t ht hW => ⟨⟨_, (), rfl, rfl, ⟨by rw [ht]; exact hP, va_K.moved hW.alike hK, hD⟩⟩, hS.F ht⟩) hS.2.2 dX11_isOr_15

theorem s_X11_isOr {l : Launch} {dC : Nat → ClassId} {dI : Nat → Nat → Nat} {a : Nat → Nat} {k : Nat → ClassId} {sz : Nat}  {σ : ST} {q : Int32 × ST} {r : Nat} (h : f_X11_isOr   σ = some (q, r)) : Met l yX11_isOr (.code yX11_isOr cX11_isOr 1 (some .boolean) :: pw) ({ frames := 1, cells := r, slots := 6 * r, locals := 29 } : Room) (va_Pc [.ref (a 0)] (vPre dC dI (wB a k σ) (tB k) sz)) (qBi dC dI a k (va_A (wB a k σ) sz) q) r (6 * r) (va_A (wB a k σ) sz) := mekB (fun A => qBi dC dI a k A q) (plainFor_of_name (by decide)) (Nat.le_of_ble_eq_true rfl) (fun _ _ _ _ _ _ _ _ hC => b_X11_isOr_e hC h (Nat.zero_add _))

def f_X11_isAsked_45 (k5 : Int32 → Int32 → Int32 → Int32 → ST → Option (Int32 × ST)) (x1 : Int32) (x2 : Int32) (x4 : Int32) (y0 : Int32) (σ : ST) : Option (Int32 × ST) := k5 x1 x2 y0 (x4 + 1) σ
def f_X11_isAsked_40 (k5 : Int32 → Int32 → Int32 → Int32 → ST → Option (Int32 × ST)) (x1 : Int32) (x2 : Int32) (x4 : Int32) (σ : ST) : Option (Int32 × ST) := f_X11_isAsked_45 k5 x1 x2 x4 1 σ
def f_X11_isAsked_5  : Nat → Int32 → Int32 → Int32 → Int32 → ST → Option (Int32 × ST)
  | 0, _, _, _, _, _ => none
  | n + 1, x1, x2, x3, x4, σ => if 0 ≤ x1.toInt ∧ x1.toInt < 800 then (if (σ.1 4 x1.toNatClampNeg) ≤ x4 then (if x3 = 0 ∨ x3 = 1 then some (x3, σ) else none) else (if x3 = 0 then (if 0 ≤ ((4 * x1) + x4).toInt ∧ ((4 * x1) + x4).toInt < 3200 then (if 0 ≤ (σ.1 5 ((4 * x1) + x4).toNatClampNeg).toInt ∧ (σ.1 5 ((4 * x1) + x4).toNatClampNeg).toInt < 800 then (if (σ.1 2 (σ.1 5 ((4 * x1) + x4).toNatClampNeg).toNatClampNeg) = x2 then (f_X11_isAsked_40 (f_X11_isAsked_5  n) x1 x2 x4 σ) else (f_X11_isAsked_45 (f_X11_isAsked_5  n) x1 x2 x4 0 σ)) else none) else none) else (f_X11_isAsked_40 (f_X11_isAsked_5  n) x1 x2 x4 σ))) else none
def f_X11_isAsked (p0 : Int32) (p1 : Int32) (σ : ST) : Option (Int32 × ST) := f_X11_isAsked_5  FU p0 p1 0 0 σ

set_option maxRecDepth 100000 in
set_option maxHeartbeats 4000000 in
theorem b_X11_isAsked_45 {p : Program} {l : Launch} {e : Env} {s : State} {m : MethodId} {args : Array Value} {below : List Frame} {meth : Method} {c : Code} {dC : Nat → ClassId} {dI : Nat → Nat → Nat} {a : Nat → Nat} {k : Nat → ClassId} {A : Nat → Prop} {q : Int32 × ST} (hC : CxB p s m args meth c dC dI k A cX11_isAsked RX11 (some .boolean) 5)  {k5 : Int32 → Int32 → Int32 → Int32 → ST → Option (Int32 × ST)} (hk5 : ∀ (x1 : Int32) (x2 : Int32) (x3 : Int32) (x4 : Int32) (σ : ST), k5 x1 x2 x3 x4 σ = some q → GoB p l e ({ frames := 0, cells := 0, slots := 0, locals := 0 } : Room) s m args below meth c (MQ below (qBi dC dI a k A q) args s 0 0 A) dC dI a k A 5 5 σ [(0, .ref (a 0)), (1, .int x1), (2, .int x2), (3, .int x3), (4, .int x4)] []) {x1 : Int32} {x2 : Int32} {x4 : Int32} {y0 : Int32} {σ : ST} (h : f_X11_isAsked_45 k5 x1 x2 x4 y0 σ = some q) : GoB p l e ({ frames := 0, cells := 0, slots := 0, locals := 0 } : Room) s m args below meth c (MQ below (qBi dC dI a k A q) args s 0 0 A) dC dI a k A 5 45 σ [(0, .ref (a 0)), (1, .int x1), (2, .int x2), (4, .int x4)] [.int y0] := by
  have hC0 := hC
  obtain ⟨hx, hb, hr, hml, hown, hts, hlocks, hA, hN, hK⟩ := hC0
  intro H locs ls hP hD hS hl
  have hD0 : ∀ σ1 : ST, va_D A (wB a k σ1) := fun σ1 => wB_D hD
  unfold f_X11_isAsked_45 at h
  refine lv_istore_n (lv' := [(3, .int y0), (0, .ref (a 0)), (1, .int x1), (2, .int x2), (4, .int x4)]) hx hb dX11_isAsked_45 rfl hl (by decide) rfl (fun ls hl => ?_)
  refine lv_iinc (v := (x4 + 1)) (lv' := [(4, .int (x4 + 1)), (3, .int y0), (0, .ref (a 0)), (1, .int x1), (2, .int x2)]) hx hb dX11_isAsked_46 hl (k := 4) rfl rfl (by decide) rfl (fun ls hl => ?_)
  refine lv_goto (tgt := 5) hx hb dX11_isAsked_49 (by decide) ?_
  exact hk5 _ _ _ _ _ h _ _ _ hP hD hS (lv_sub hl [2, 3, 4, 1, 0] rfl)

set_option maxRecDepth 100000 in
set_option maxHeartbeats 4000000 in
theorem b_X11_isAsked_40 {p : Program} {l : Launch} {e : Env} {s : State} {m : MethodId} {args : Array Value} {below : List Frame} {meth : Method} {c : Code} {dC : Nat → ClassId} {dI : Nat → Nat → Nat} {a : Nat → Nat} {k : Nat → ClassId} {A : Nat → Prop} {q : Int32 × ST} (hC : CxB p s m args meth c dC dI k A cX11_isAsked RX11 (some .boolean) 5)  {k5 : Int32 → Int32 → Int32 → Int32 → ST → Option (Int32 × ST)} (hk5 : ∀ (x1 : Int32) (x2 : Int32) (x3 : Int32) (x4 : Int32) (σ : ST), k5 x1 x2 x3 x4 σ = some q → GoB p l e ({ frames := 0, cells := 0, slots := 0, locals := 0 } : Room) s m args below meth c (MQ below (qBi dC dI a k A q) args s 0 0 A) dC dI a k A 5 5 σ [(0, .ref (a 0)), (1, .int x1), (2, .int x2), (3, .int x3), (4, .int x4)] []) {x1 : Int32} {x2 : Int32} {x4 : Int32} {σ : ST} (h : f_X11_isAsked_40 k5 x1 x2 x4 σ = some q) : GoB p l e ({ frames := 0, cells := 0, slots := 0, locals := 0 } : Room) s m args below meth c (MQ below (qBi dC dI a k A q) args s 0 0 A) dC dI a k A 5 40 σ [(0, .ref (a 0)), (1, .int x1), (2, .int x2), (4, .int x4)] [] := by
  have hC0 := hC
  obtain ⟨hx, hb, hr, hml, hown, hts, hlocks, hA, hN, hK⟩ := hC0
  intro H locs ls hP hD hS hl
  have hD0 : ∀ σ1 : ST, va_D A (wB a k σ1) := fun σ1 => wB_D hD
  unfold f_X11_isAsked_40 at h
  refine lv_iconst (v := 1) hx hb dX11_isAsked_40 (by decide) ?_
  refine lv_goto (tgt := 45) hx hb dX11_isAsked_41 (by decide) ?_
  exact b_X11_isAsked_45 hC hk5 h _ _ _ hP hD hS (lv_sub hl [0, 1, 2, 3] rfl)

set_option maxRecDepth 100000 in
set_option maxHeartbeats 4000000 in
theorem b_X11_isAsked_5 {p : Program} {l : Launch} {e : Env} {s : State} {m : MethodId} {args : Array Value} {below : List Frame} {meth : Method} {c : Code} {dC : Nat → ClassId} {dI : Nat → Nat → Nat} {a : Nat → Nat} {k : Nat → ClassId} {A : Nat → Prop} {q : Int32 × ST} (hC : CxB p s m args meth c dC dI k A cX11_isAsked RX11 (some .boolean) 5)   : ∀ (n : Nat) (x1 : Int32) (x2 : Int32) (x3 : Int32) (x4 : Int32) (σ : ST), f_X11_isAsked_5  n x1 x2 x3 x4 σ = some q → GoB p l e ({ frames := 0, cells := 0, slots := 0, locals := 0 } : Room) s m args below meth c (MQ below (qBi dC dI a k A q) args s 0 0 A) dC dI a k A 5 5 σ [(0, .ref (a 0)), (1, .int x1), (2, .int x2), (3, .int x3), (4, .int x4)] [] := by
  intro n
  induction n with
  | zero =>
    intro x1 x2 x3 x4 σ h
    rw [f_X11_isAsked_5] at h
    cases h
  | succ n ih =>
    intro x1 x2 x3 x4 σ h
    have hC0 := hC
    obtain ⟨hx, hb, hr, hml, hown, hts, hlocks, hA, hN, hK⟩ := hC0
    intro H locs ls hP hD hS hl
    have hD0 : ∀ σ1 : ST, va_D A (wB a k σ1) := fun σ1 => wB_D hD
    rw [f_X11_isAsked_5] at h
    refine lv_iload hx hb dX11_isAsked_5 (lv_at hl 4 rfl) ?_
    refine lv_aload_n hx hb dX11_isAsked_7 rfl (lv_at hl 0 rfl) ?_
    refine va_get (D := (dC, dI)) (ci := 11) (C := RX11) (T := TX11) (N := 95) hx hb hts inlX11 hown hK hP 0 gB_0 rfl 16 (by decide) (hts (.fieldLink RX11 20 "ShapeReaderModel" "typeMany" "[I") mw_27_0) (fun _ h9 => h9) rfl dX11_isAsked_8 ?_
    refine lv_iload_n hx hb dX11_isAsked_11 rfl (lv_at hl 1 rfl) ?_
    obtain ⟨hg1, h⟩ := ig h
    refine va_iald hx hb hK hP 4 3 gB_4 yB_4 (vp_in_iff.mpr hg1) dX11_isAsked_12 ?_
    refine lv_icmp_ge (tgt := 52) hx hb dX11_isAsked_13 (by decide) (fun hc => ?_) (fun hc => ?_)
    · replace h := ip hc h
      refine lv_iload_n hx hb dX11_isAsked_52 rfl (lv_at hl 3 rfl) ?_
      obtain ⟨hg, h⟩ := ig h
      obtain rfl := Option.some.inj h
      exact W.zret hx hb hr (zn hg) (fun t ht hW => ⟨⟨_, (), rfl, rfl, ⟨by rw [ht]; exact hP, va_K.moved hW.alike hK, hD⟩⟩, hS.F ht⟩) hS.2.2 dX11_isAsked_53
    · replace h := iq hc h
      refine lv_iload_n hx hb dX11_isAsked_16 rfl (lv_at hl 3 rfl) ?_
      refine lv_if_ne (tgt := 40) hx hb dX11_isAsked_17 (by decide) (fun hc => ?_) (fun hc => ?_)
      · replace h := iq hc h
        exact b_X11_isAsked_40 hC ih h _ _ _ hP hD hS (lv_sub hl [0, 1, 2, 4] rfl)
      · replace h := ip hc h
        refine lv_aload_n hx hb dX11_isAsked_20 rfl (lv_at hl 0 rfl) ?_
        refine va_get (D := (dC, dI)) (ci := 11) (C := RX11) (T := TX11) (N := 95) hx hb hts inlX11 hown hK hP 0 gB_0 rfl 14 (by decide) (hts (.fieldLink RX11 13 "ShapeReaderModel" "typeSort" "[I") mw_26_28) (fun _ h9 => h9) rfl dX11_isAsked_21 ?_
        refine lv_aload_n hx hb dX11_isAsked_24 rfl (lv_at hl 0 rfl) ?_
        refine va_get (D := (dC, dI)) (ci := 11) (C := RX11) (T := TX11) (N := 95) hx hb hts inlX11 hown hK hP 0 gB_0 rfl 17 (by decide) (hts (.fieldLink RX11 23 "ShapeReaderModel" "branch" "[I") mw_27_1) (fun _ h9 => h9) rfl dX11_isAsked_25 ?_
        refine lv_iconst (v := 4) hx hb dX11_isAsked_28 (by decide) ?_
        refine lv_iload_n hx hb dX11_isAsked_29 rfl (lv_at hl 1 rfl) ?_
        refine lv_imul hx hb dX11_isAsked_30 ?_
        refine lv_iload hx hb dX11_isAsked_31 (lv_at hl 4 rfl) ?_
        refine lv_iadd hx hb dX11_isAsked_33 ?_
        obtain ⟨hg2, h⟩ := ig h
        refine va_iald hx hb hK hP 5 4 gB_5 yB_5 (vp_in_iff.mpr hg2) dX11_isAsked_34 ?_
        obtain ⟨hg3, h⟩ := ig h
        refine va_iald hx hb hK hP 2 1 gB_2 yB_2 (vp_in_iff.mpr hg3) dX11_isAsked_35 ?_
        refine lv_iload_n hx hb dX11_isAsked_36 rfl (lv_at hl 2 rfl) ?_
        refine lv_icmp_ne (tgt := 44) hx hb dX11_isAsked_37 (by decide) (fun hc => ?_) (fun hc => ?_)
        · replace h := iq hc h
          refine lv_iconst (v := 0) hx hb dX11_isAsked_44 (by decide) ?_
          exact b_X11_isAsked_45 hC ih h _ _ _ hP hD hS (lv_sub hl [0, 1, 2, 4] rfl)
        · replace h := ip hc h
          exact b_X11_isAsked_40 hC ih h _ _ _ hP hD hS (lv_sub hl [0, 1, 2, 4] rfl)

set_option maxRecDepth 100000 in
set_option maxHeartbeats 4000000 in
theorem b_X11_isAsked_e {p : Program} {l : Launch} {e : Env} {s : State} {m : MethodId} {args : Array Value} {below : List Frame} {meth : Method} {c : Code} {dC : Nat → ClassId} {dI : Nat → Nat → Nat} {a : Nat → Nat} {k : Nat → ClassId} {A : Nat → Prop} {q : Int32 × ST} (hC : CxB p s m args meth c dC dI k A cX11_isAsked RX11 (some .boolean) 5)   {p0 : Int32} {p1 : Int32} {σ : ST} (h : f_X11_isAsked  p0 p1 σ = some q) : GoB p l e ({ frames := 0, cells := 0, slots := 0, locals := 0 } : Room) s m args below meth c (MQ below (qBi dC dI a k A q) args s 0 0 A) dC dI a k A 5 0 σ (lv_args 0 [.ref (a 0), .int p0, .int p1]) [] := by
  have hC0 := hC
  obtain ⟨hx, hb, hr, hml, hown, hts, hlocks, hA, hN, hK⟩ := hC0
  intro H locs ls hP hD hS hl
  have hD0 : ∀ σ1 : ST, va_D A (wB a k σ1) := fun σ1 => wB_D hD
  replace hl : lv_has ls 5 [(0, .ref (a 0)), (1, .int p0), (2, .int p1)] := hl
  unfold f_X11_isAsked at h
  refine lv_iconst (v := 0) hx hb dX11_isAsked_0 (by decide) ?_
  refine lv_istore_n (lv' := [(3, .int 0), (0, .ref (a 0)), (1, .int p0), (2, .int p1)]) hx hb dX11_isAsked_1 rfl hl (by decide) rfl (fun ls hl => ?_)
  refine lv_iconst (v := 0) hx hb dX11_isAsked_2 (by decide) ?_
  refine lv_istore (lv' := [(4, .int 0), (3, .int 0), (0, .ref (a 0)), (1, .int p0), (2, .int p1)]) hx hb dX11_isAsked_3 hl (by decide) rfl (fun ls hl => ?_)
  exact b_X11_isAsked_5 hC FU _ _ _ _ _ h _ _ _ hP hD hS (lv_sub hl [2, 3, 4, 1, 0] rfl)

theorem s_X11_isAsked {l : Launch} {dC : Nat → ClassId} {dI : Nat → Nat → Nat} {a : Nat → Nat} {k : Nat → ClassId} {sz : Nat} {p0 : Int32} {p1 : Int32} {σ : ST} {q : Int32 × ST} (h : f_X11_isAsked  p0 p1 σ = some q) : Met l yX11_isAsked (.code yX11_isAsked cX11_isAsked 5 (some .boolean) :: pw) ({ frames := 0, cells := 0, slots := 0, locals := 0 } : Room) (va_Pc [.ref (a 0), .int p0, .int p1] (vPre dC dI (wB a k σ) (tB k) sz)) (qBi dC dI a k (va_A (wB a k σ) sz) q) 0 0 (va_A (wB a k σ) sz) := metB (fun A => qBi dC dI a k A q) (plainFor_of_name (by decide)) (Nat.le_of_ble_eq_true rfl) (fun _ _ _ _ _ _ _ _ hC => b_X11_isAsked_e hC h)

def f_X11_isElse (σ : ST) : Option ((Int32 × ST) × Nat) := (f_X11_spelt  101 108 115 101 0 0 σ).bind fun q1 => ac q1.2 ((f_X11_isWord  q1.1.1 q1.1.2).bind fun q3 => if q3.1 = 0 ∨ q3.1 = 1 then some ((q3.1, q3.2), 0) else none)

set_option maxRecDepth 100000 in
set_option maxHeartbeats 4000000 in
theorem b_X11_isElse_e {p : Program} {l : Launch} {e : Env} {s : State} {m : MethodId} {args : Array Value} {below : List Frame} {meth : Method} {c : Code} {dC : Nat → ClassId} {dI : Nat → Nat → Nat} {a : Nat → Nat} {k : Nat → ClassId} {A : Nat → Prop} {q : Int32 × ST} {T r : Nat} (hC : CxB p s m args meth c dC dI k A cX11_isElse RX11 (some .boolean) 1)    {σ : ST} (h : f_X11_isElse   σ = some (q, r)) (hκ : 0 + r = T) : GkB p l e ({ frames := 1, cells := T, slots := 6 * T, locals := 29 } : Room) s m args below meth c (MQ below (qBi dC dI a k A q) args s T (6 * T) A) dC dI a k A 1 0 0 σ (lv_args 0 [.ref (a 0)]) [] := by
  have hC0 := hC
  obtain ⟨hx, hb, hr, hml, hown, hts, hlocks, hA, hN, hK⟩ := hC0
  intro H locs ls hP hD hS hl
  have hD0 : ∀ σ1 : ST, va_D A (wB a k σ1) := fun σ1 => wB_D hD
  replace hl : lv_has ls 1 [(0, .ref (a 0))] := hl
  unfold f_X11_isElse at h
  refine lv_aload_n hx hb dX11_isElse_0 rfl (lv_at hl 0 rfl) ?_
  refine lv_bipush (v := 101) hx hb dX11_isElse_1 (by decide) ?_
  refine lv_bipush (v := 108) hx hb dX11_isElse_3 (by decide) ?_
  refine lv_bipush (v := 115) hx hb dX11_isElse_5 (by decide) ?_
  refine lv_bipush (v := 101) hx hb dX11_isElse_7 (by decide) ?_
  refine lv_iconst (v := 0) hx hb dX11_isElse_9 (by decide) ?_
  refine lv_iconst (v := 0) hx hb dX11_isElse_10 (by decide) ?_
  obtain ⟨q1, hc, h⟩ := ib h
  obtain ⟨r2, h, hz⟩ := acE h
  have hF := va_frees hD hS hA
  refine va_calll (va_runS (As := [.int 101, .int 108, .int 115, .int 101, .int 0, .int 0]) (rest := [.ref (a 0)]) ⟨hx, hb, hml, hown, hts⟩ (s_X11_spelt (q := q1.1) (r := q1.2) hc) (va_cwS 6 hts (gS mw_30_15 mw_30_16 mw_0_15 mw_54_7) rfl rfl rfl (by decide +kernel) ⟨(Nat.le_of_ble_eq_true rfl), (Nat.le_of_ble_eq_true rfl)⟩) (vS hK hP hD hN) rfl rfl hl.1 rfl (lv_room (Nat.le_of_ble_eq_true rfl)) dX11_isElse_11 ⟨by show 0 + q1.2 ≤ T; omega, by show 6 * 0 + 6 * q1.2 ≤ 6 * T; omega⟩) hS (fun q _ h => hF q h) hF (fun r2 u t H locs ht hvm hw hB _ _ hS => ?_)
  obtain rfl : r2 = q1.1.1 := hw
  replace hκ : (0 + q1.2) + r2 = T := by omega
  clear hz
  refine W.widen (k := (0 + q1.2)) (n := 6 * (0 + q1.2)) (Nat.le_refl _) (by omega) ?_
  replace hP : va_P (dC, dI) vwCl (wB a k q1.1.2) H := by rw [← ht]; exact hB.1
  replace hD := hD0 (q1.1.2)
  clear hB hF
  obtain ⟨q3, hc, h⟩ := ib h
  have hF := va_frees hD hS hA
  refine va_calli (va_runV (As := [.long q1.1.1]) (rest := []) ⟨hx, hb, hml, hown, hts⟩ (s_X11_isWord hc) (cwV 1 hts (gV mw_30_17 mw_30_18 mw_30_19 mw_0_15 mw_54_8) rfl rfl rfl (by decide +kernel) ⟨(Nat.le_of_ble_eq_true rfl), (Nat.le_of_ble_eq_true rfl)⟩) (vV (ci := 11) (q0 := 0) hK hP hD hN rfl gB_0) rfl rfl hl.1 rfl (lv_room (Nat.le_of_ble_eq_true rfl)) dX11_isElse_14 ⟨by show (0 + q1.2) + 0 ≤ T; omega, by show 6 * (0 + q1.2) + 0 ≤ 6 * T; omega⟩) hS (fun q _ h => hF q h) hF (fun r4 u t H locs ht hvm hw hB _ _ hS => ?_)
  obtain rfl : r4 = q3.1 := hw
  replace hP : va_P (dC, dI) vwCl (wB a k q3.2) H := by rw [← ht]; exact hB.1
  replace hD := hD0 (q3.2)
  clear hB hF
  obtain ⟨hg, h⟩ := ig h
  obtain ⟨rfl, rfl⟩ := Prod.mk.inj (Option.some.inj h)
  subst hκ
  exact W.zret hx hb hr (zn hg) (fun t ht hW => ⟨⟨_, (), rfl, rfl, ⟨by rw [ht]; exact hP, va_K.moved hW.alike hK, hD⟩⟩, hS.F ht⟩) hS.2.2 dX11_isElse_17

theorem s_X11_isElse {l : Launch} {dC : Nat → ClassId} {dI : Nat → Nat → Nat} {a : Nat → Nat} {k : Nat → ClassId} {sz : Nat}  {σ : ST} {q : Int32 × ST} {r : Nat} (h : f_X11_isElse   σ = some (q, r)) : Met l yX11_isElse (.code yX11_isElse cX11_isElse 1 (some .boolean) :: pw) ({ frames := 1, cells := r, slots := 6 * r, locals := 29 } : Room) (va_Pc [.ref (a 0)] (vPre dC dI (wB a k σ) (tB k) sz)) (qBi dC dI a k (va_A (wB a k σ) sz) q) r (6 * r) (va_A (wB a k σ) sz) := mekB (fun A => qBi dC dI a k A q) (plainFor_of_name (by decide)) (Nat.le_of_ble_eq_true rfl) (fun _ _ _ _ _ _ _ _ hC => b_X11_isElse_e hC h (Nat.zero_add _))

def f_X11_isPlan (σ : ST) : Option ((Int32 × ST) × Nat) := (f_X11_spelt  112 108 97 110 0 0 σ).bind fun q1 => ac q1.2 ((f_X11_isWord  q1.1.1 q1.1.2).bind fun q3 => if q3.1 = 0 ∨ q3.1 = 1 then some ((q3.1, q3.2), 0) else none)

set_option maxRecDepth 100000 in
set_option maxHeartbeats 4000000 in
theorem b_X11_isPlan_e {p : Program} {l : Launch} {e : Env} {s : State} {m : MethodId} {args : Array Value} {below : List Frame} {meth : Method} {c : Code} {dC : Nat → ClassId} {dI : Nat → Nat → Nat} {a : Nat → Nat} {k : Nat → ClassId} {A : Nat → Prop} {q : Int32 × ST} {T r : Nat} (hC : CxB p s m args meth c dC dI k A cX11_isPlan RX11 (some .boolean) 1)    {σ : ST} (h : f_X11_isPlan   σ = some (q, r)) (hκ : 0 + r = T) : GkB p l e ({ frames := 1, cells := T, slots := 6 * T, locals := 29 } : Room) s m args below meth c (MQ below (qBi dC dI a k A q) args s T (6 * T) A) dC dI a k A 1 0 0 σ (lv_args 0 [.ref (a 0)]) [] := by
  have hC0 := hC
  obtain ⟨hx, hb, hr, hml, hown, hts, hlocks, hA, hN, hK⟩ := hC0
  intro H locs ls hP hD hS hl
  have hD0 : ∀ σ1 : ST, va_D A (wB a k σ1) := fun σ1 => wB_D hD
  replace hl : lv_has ls 1 [(0, .ref (a 0))] := hl
  unfold f_X11_isPlan at h
  refine lv_aload_n hx hb dX11_isPlan_0 rfl (lv_at hl 0 rfl) ?_
  refine lv_bipush (v := 112) hx hb dX11_isPlan_1 (by decide) ?_
  refine lv_bipush (v := 108) hx hb dX11_isPlan_3 (by decide) ?_
  refine lv_bipush (v := 97) hx hb dX11_isPlan_5 (by decide) ?_
  refine lv_bipush (v := 110) hx hb dX11_isPlan_7 (by decide) ?_
  refine lv_iconst (v := 0) hx hb dX11_isPlan_9 (by decide) ?_
  refine lv_iconst (v := 0) hx hb dX11_isPlan_10 (by decide) ?_
  obtain ⟨q1, hc, h⟩ := ib h
  obtain ⟨r2, h, hz⟩ := acE h
  have hF := va_frees hD hS hA
  refine va_calll (va_runS (As := [.int 112, .int 108, .int 97, .int 110, .int 0, .int 0]) (rest := [.ref (a 0)]) ⟨hx, hb, hml, hown, hts⟩ (s_X11_spelt (q := q1.1) (r := q1.2) hc) (va_cwS 6 hts (gS mw_30_15 mw_30_16 mw_0_15 mw_54_7) rfl rfl rfl (by decide +kernel) ⟨(Nat.le_of_ble_eq_true rfl), (Nat.le_of_ble_eq_true rfl)⟩) (vS hK hP hD hN) rfl rfl hl.1 rfl (lv_room (Nat.le_of_ble_eq_true rfl)) dX11_isPlan_11 ⟨by show 0 + q1.2 ≤ T; omega, by show 6 * 0 + 6 * q1.2 ≤ 6 * T; omega⟩) hS (fun q _ h => hF q h) hF (fun r2 u t H locs ht hvm hw hB _ _ hS => ?_)
  obtain rfl : r2 = q1.1.1 := hw
  replace hκ : (0 + q1.2) + r2 = T := by omega
  clear hz
  refine W.widen (k := (0 + q1.2)) (n := 6 * (0 + q1.2)) (Nat.le_refl _) (by omega) ?_
  replace hP : va_P (dC, dI) vwCl (wB a k q1.1.2) H := by rw [← ht]; exact hB.1
  replace hD := hD0 (q1.1.2)
  clear hB hF
  obtain ⟨q3, hc, h⟩ := ib h
  have hF := va_frees hD hS hA
  refine va_calli (va_runV (As := [.long q1.1.1]) (rest := []) ⟨hx, hb, hml, hown, hts⟩ (s_X11_isWord hc) (cwV 1 hts (gV mw_30_17 mw_30_18 mw_30_19 mw_0_15 mw_54_8) rfl rfl rfl (by decide +kernel) ⟨(Nat.le_of_ble_eq_true rfl), (Nat.le_of_ble_eq_true rfl)⟩) (vV (ci := 11) (q0 := 0) hK hP hD hN rfl gB_0) rfl rfl hl.1 rfl (lv_room (Nat.le_of_ble_eq_true rfl)) dX11_isPlan_14 ⟨by show (0 + q1.2) + 0 ≤ T; omega, by show 6 * (0 + q1.2) + 0 ≤ 6 * T; omega⟩) hS (fun q _ h => hF q h) hF (fun r4 u t H locs ht hvm hw hB _ _ hS => ?_)
  obtain rfl : r4 = q3.1 := hw
  replace hP : va_P (dC, dI) vwCl (wB a k q3.2) H := by rw [← ht]; exact hB.1
  replace hD := hD0 (q3.2)
  clear hB hF
  obtain ⟨hg, h⟩ := ig h
  obtain ⟨rfl, rfl⟩ := Prod.mk.inj (Option.some.inj h)
  subst hκ
  exact W.zret hx hb hr (zn hg) (fun t ht hW => ⟨⟨_, (), rfl, rfl, ⟨by rw [ht]; exact hP, va_K.moved hW.alike hK, hD⟩⟩, hS.F ht⟩) hS.2.2 dX11_isPlan_17

theorem s_X11_isPlan {l : Launch} {dC : Nat → ClassId} {dI : Nat → Nat → Nat} {a : Nat → Nat} {k : Nat → ClassId} {sz : Nat}  {σ : ST} {q : Int32 × ST} {r : Nat} (h : f_X11_isPlan   σ = some (q, r)) : Met l yX11_isPlan (.code yX11_isPlan cX11_isPlan 1 (some .boolean) :: pw) ({ frames := 1, cells := r, slots := 6 * r, locals := 29 } : Room) (va_Pc [.ref (a 0)] (vPre dC dI (wB a k σ) (tB k) sz)) (qBi dC dI a k (va_A (wB a k σ) sz) q) r (6 * r) (va_A (wB a k σ) sz) := mekB (fun A => qBi dC dI a k A q) (plainFor_of_name (by decide)) (Nat.le_of_ble_eq_true rfl) (fun _ _ _ _ _ _ _ _ hC => b_X11_isPlan_e hC h (Nat.zero_add _))

def f_X11_isRecord (σ : ST) : Option ((Int32 × ST) × Nat) := (f_X11_spelt  114 101 99 111 114 100 σ).bind fun q1 => ac q1.2 ((f_X11_isWord  q1.1.1 q1.1.2).bind fun q3 => if q3.1 = 0 ∨ q3.1 = 1 then some ((q3.1, q3.2), 0) else none)

set_option maxRecDepth 100000 in
set_option maxHeartbeats 4000000 in
theorem b_X11_isRecord_e {p : Program} {l : Launch} {e : Env} {s : State} {m : MethodId} {args : Array Value} {below : List Frame} {meth : Method} {c : Code} {dC : Nat → ClassId} {dI : Nat → Nat → Nat} {a : Nat → Nat} {k : Nat → ClassId} {A : Nat → Prop} {q : Int32 × ST} {T r : Nat} (hC : CxB p s m args meth c dC dI k A cX11_isRecord RX11 (some .boolean) 1)    {σ : ST} (h : f_X11_isRecord   σ = some (q, r)) (hκ : 0 + r = T) : GkB p l e ({ frames := 1, cells := T, slots := 6 * T, locals := 29 } : Room) s m args below meth c (MQ below (qBi dC dI a k A q) args s T (6 * T) A) dC dI a k A 1 0 0 σ (lv_args 0 [.ref (a 0)]) [] := by
  have hC0 := hC
  obtain ⟨hx, hb, hr, hml, hown, hts, hlocks, hA, hN, hK⟩ := hC0
  intro H locs ls hP hD hS hl
  have hD0 : ∀ σ1 : ST, va_D A (wB a k σ1) := fun σ1 => wB_D hD
  replace hl : lv_has ls 1 [(0, .ref (a 0))] := hl
  unfold f_X11_isRecord at h
  refine lv_aload_n hx hb dX11_isRecord_0 rfl (lv_at hl 0 rfl) ?_
  refine lv_bipush (v := 114) hx hb dX11_isRecord_1 (by decide) ?_
  refine lv_bipush (v := 101) hx hb dX11_isRecord_3 (by decide) ?_
  refine lv_bipush (v := 99) hx hb dX11_isRecord_5 (by decide) ?_
  refine lv_bipush (v := 111) hx hb dX11_isRecord_7 (by decide) ?_
  refine lv_bipush (v := 114) hx hb dX11_isRecord_9 (by decide) ?_
  refine lv_bipush (v := 100) hx hb dX11_isRecord_11 (by decide) ?_
  obtain ⟨q1, hc, h⟩ := ib h
  obtain ⟨r2, h, hz⟩ := acE h
  have hF := va_frees hD hS hA
  refine va_calll (va_runS (As := [.int 114, .int 101, .int 99, .int 111, .int 114, .int 100]) (rest := [.ref (a 0)]) ⟨hx, hb, hml, hown, hts⟩ (s_X11_spelt (q := q1.1) (r := q1.2) hc) (va_cwS 6 hts (gS mw_30_15 mw_30_16 mw_0_15 mw_54_7) rfl rfl rfl (by decide +kernel) ⟨(Nat.le_of_ble_eq_true rfl), (Nat.le_of_ble_eq_true rfl)⟩) (vS hK hP hD hN) rfl rfl hl.1 rfl (lv_room (Nat.le_of_ble_eq_true rfl)) dX11_isRecord_13 ⟨by show 0 + q1.2 ≤ T; omega, by show 6 * 0 + 6 * q1.2 ≤ 6 * T; omega⟩) hS (fun q _ h => hF q h) hF (fun r2 u t H locs ht hvm hw hB _ _ hS => ?_)
  obtain rfl : r2 = q1.1.1 := hw
  replace hκ : (0 + q1.2) + r2 = T := by omega
  clear hz
  refine W.widen (k := (0 + q1.2)) (n := 6 * (0 + q1.2)) (Nat.le_refl _) (by omega) ?_
  replace hP : va_P (dC, dI) vwCl (wB a k q1.1.2) H := by rw [← ht]; exact hB.1
  replace hD := hD0 (q1.1.2)
  clear hB hF
  obtain ⟨q3, hc, h⟩ := ib h
  have hF := va_frees hD hS hA
  refine va_calli (va_runV (As := [.long q1.1.1]) (rest := []) ⟨hx, hb, hml, hown, hts⟩ (s_X11_isWord hc) (cwV 1 hts (gV mw_30_17 mw_30_18 mw_30_19 mw_0_15 mw_54_8) rfl rfl rfl (by decide +kernel) ⟨(Nat.le_of_ble_eq_true rfl), (Nat.le_of_ble_eq_true rfl)⟩) (vV (ci := 11) (q0 := 0) hK hP hD hN rfl gB_0) rfl rfl hl.1 rfl (lv_room (Nat.le_of_ble_eq_true rfl)) dX11_isRecord_16 ⟨by show (0 + q1.2) + 0 ≤ T; omega, by show 6 * (0 + q1.2) + 0 ≤ 6 * T; omega⟩) hS (fun q _ h => hF q h) hF (fun r4 u t H locs ht hvm hw hB _ _ hS => ?_)
  obtain rfl : r4 = q3.1 := hw
  replace hP : va_P (dC, dI) vwCl (wB a k q3.2) H := by rw [← ht]; exact hB.1
  replace hD := hD0 (q3.2)
  clear hB hF
  obtain ⟨hg, h⟩ := ig h
  obtain ⟨rfl, rfl⟩ := Prod.mk.inj (Option.some.inj h)
  subst hκ
  exact W.zret hx hb hr (zn hg) (fun t ht hW => ⟨⟨_, (), rfl, rfl, ⟨by rw [ht]; exact hP, va_K.moved hW.alike hK, hD⟩⟩, hS.F ht⟩) hS.2.2 dX11_isRecord_19

theorem s_X11_isRecord {l : Launch} {dC : Nat → ClassId} {dI : Nat → Nat → Nat} {a : Nat → Nat} {k : Nat → ClassId} {sz : Nat}  {σ : ST} {q : Int32 × ST} {r : Nat} (h : f_X11_isRecord   σ = some (q, r)) : Met l yX11_isRecord (.code yX11_isRecord cX11_isRecord 1 (some .boolean) :: pw) ({ frames := 1, cells := r, slots := 6 * r, locals := 29 } : Room) (va_Pc [.ref (a 0)] (vPre dC dI (wB a k σ) (tB k) sz)) (qBi dC dI a k (va_A (wB a k σ) sz) q) r (6 * r) (va_A (wB a k σ) sz) := mekB (fun A => qBi dC dI a k A q) (plainFor_of_name (by decide)) (Nat.le_of_ble_eq_true rfl) (fun _ _ _ _ _ _ _ _ hC => b_X11_isRecord_e hC h (Nat.zero_add _))

def f_X11_isWas (σ : ST) : Option ((Int32 × ST) × Nat) := (f_X11_spelt  119 97 115 0 0 0 σ).bind fun q1 => ac q1.2 ((f_X11_isWord  q1.1.1 q1.1.2).bind fun q3 => if q3.1 = 0 ∨ q3.1 = 1 then some ((q3.1, q3.2), 0) else none)

set_option maxRecDepth 100000 in
set_option maxHeartbeats 4000000 in
theorem b_X11_isWas_e {p : Program} {l : Launch} {e : Env} {s : State} {m : MethodId} {args : Array Value} {below : List Frame} {meth : Method} {c : Code} {dC : Nat → ClassId} {dI : Nat → Nat → Nat} {a : Nat → Nat} {k : Nat → ClassId} {A : Nat → Prop} {q : Int32 × ST} {T r : Nat} (hC : CxB p s m args meth c dC dI k A cX11_isWas RX11 (some .boolean) 1)    {σ : ST} (h : f_X11_isWas   σ = some (q, r)) (hκ : 0 + r = T) : GkB p l e ({ frames := 1, cells := T, slots := 6 * T, locals := 29 } : Room) s m args below meth c (MQ below (qBi dC dI a k A q) args s T (6 * T) A) dC dI a k A 1 0 0 σ (lv_args 0 [.ref (a 0)]) [] := by
  have hC0 := hC
  obtain ⟨hx, hb, hr, hml, hown, hts, hlocks, hA, hN, hK⟩ := hC0
  intro H locs ls hP hD hS hl
  have hD0 : ∀ σ1 : ST, va_D A (wB a k σ1) := fun σ1 => wB_D hD
  replace hl : lv_has ls 1 [(0, .ref (a 0))] := hl
  unfold f_X11_isWas at h
  refine lv_aload_n hx hb dX11_isWas_0 rfl (lv_at hl 0 rfl) ?_
  refine lv_bipush (v := 119) hx hb dX11_isWas_1 (by decide) ?_
  refine lv_bipush (v := 97) hx hb dX11_isWas_3 (by decide) ?_
  refine lv_bipush (v := 115) hx hb dX11_isWas_5 (by decide) ?_
  refine lv_iconst (v := 0) hx hb dX11_isWas_7 (by decide) ?_
  refine lv_iconst (v := 0) hx hb dX11_isWas_8 (by decide) ?_
  refine lv_iconst (v := 0) hx hb dX11_isWas_9 (by decide) ?_
  obtain ⟨q1, hc, h⟩ := ib h
  obtain ⟨r2, h, hz⟩ := acE h
  have hF := va_frees hD hS hA
  refine va_calll (va_runS (As := [.int 119, .int 97, .int 115, .int 0, .int 0, .int 0]) (rest := [.ref (a 0)]) ⟨hx, hb, hml, hown, hts⟩ (s_X11_spelt (q := q1.1) (r := q1.2) hc) (va_cwS 6 hts (gS mw_30_15 mw_30_16 mw_0_15 mw_54_7) rfl rfl rfl (by decide +kernel) ⟨(Nat.le_of_ble_eq_true rfl), (Nat.le_of_ble_eq_true rfl)⟩) (vS hK hP hD hN) rfl rfl hl.1 rfl (lv_room (Nat.le_of_ble_eq_true rfl)) dX11_isWas_10 ⟨by show 0 + q1.2 ≤ T; omega, by show 6 * 0 + 6 * q1.2 ≤ 6 * T; omega⟩) hS (fun q _ h => hF q h) hF (fun r2 u t H locs ht hvm hw hB _ _ hS => ?_)
  obtain rfl : r2 = q1.1.1 := hw
  replace hκ : (0 + q1.2) + r2 = T := by omega
  clear hz
  refine W.widen (k := (0 + q1.2)) (n := 6 * (0 + q1.2)) (Nat.le_refl _) (by omega) ?_
  replace hP : va_P (dC, dI) vwCl (wB a k q1.1.2) H := by rw [← ht]; exact hB.1
  replace hD := hD0 (q1.1.2)
  clear hB hF
  obtain ⟨q3, hc, h⟩ := ib h
  have hF := va_frees hD hS hA
  refine va_calli (va_runV (As := [.long q1.1.1]) (rest := []) ⟨hx, hb, hml, hown, hts⟩ (s_X11_isWord hc) (cwV 1 hts (gV mw_30_17 mw_30_18 mw_30_19 mw_0_15 mw_54_8) rfl rfl rfl (by decide +kernel) ⟨(Nat.le_of_ble_eq_true rfl), (Nat.le_of_ble_eq_true rfl)⟩) (vV (ci := 11) (q0 := 0) hK hP hD hN rfl gB_0) rfl rfl hl.1 rfl (lv_room (Nat.le_of_ble_eq_true rfl)) dX11_isWas_13 ⟨by show (0 + q1.2) + 0 ≤ T; omega, by show 6 * (0 + q1.2) + 0 ≤ 6 * T; omega⟩) hS (fun q _ h => hF q h) hF (fun r4 u t H locs ht hvm hw hB _ _ hS => ?_)
  obtain rfl : r4 = q3.1 := hw
  replace hP : va_P (dC, dI) vwCl (wB a k q3.2) H := by rw [← ht]; exact hB.1
  replace hD := hD0 (q3.2)
  clear hB hF
  obtain ⟨hg, h⟩ := ig h
  obtain ⟨rfl, rfl⟩ := Prod.mk.inj (Option.some.inj h)
  subst hκ
  exact W.zret hx hb hr (zn hg) (fun t ht hW => ⟨⟨_, (), rfl, rfl, ⟨by rw [ht]; exact hP, va_K.moved hW.alike hK, hD⟩⟩, hS.F ht⟩) hS.2.2 dX11_isWas_16

theorem s_X11_isWas {l : Launch} {dC : Nat → ClassId} {dI : Nat → Nat → Nat} {a : Nat → Nat} {k : Nat → ClassId} {sz : Nat}  {σ : ST} {q : Int32 × ST} {r : Nat} (h : f_X11_isWas   σ = some (q, r)) : Met l yX11_isWas (.code yX11_isWas cX11_isWas 1 (some .boolean) :: pw) ({ frames := 1, cells := r, slots := 6 * r, locals := 29 } : Room) (va_Pc [.ref (a 0)] (vPre dC dI (wB a k σ) (tB k) sz)) (qBi dC dI a k (va_A (wB a k σ) sz) q) r (6 * r) (va_A (wB a k σ) sz) := mekB (fun A => qBi dC dI a k A q) (plainFor_of_name (by decide)) (Nat.le_of_ble_eq_true rfl) (fun _ _ _ _ _ _ _ _ hC => b_X11_isWas_e hC h (Nat.zero_add _))

def f_X11_isName_61 (y0 : Int32) (σ : ST) : Option ((Int32 × ST) × Nat) := if (σ.1 0 6) = 1 then (if y0 = 0 then (some ((1, σ), 0)) else (some ((0, σ), 0))) else (some ((0, σ), 0))
def f_X11_isName_56 (σ : ST) : Option ((Int32 × ST) × Nat) := f_X11_isName_61  1 σ
def f_X11_isName (σ : ST) : Option ((Int32 × ST) × Nat) := (f_X11_sortHere   σ).bind fun q1 => ac q1.2 (if 0 ≤ q1.1.1 then (f_X11_isName_56   q1.1.2) else ((f_X11_isPlan   q1.1.2).bind fun q3 => ac q3.2 (if q3.1.1 = 0 then ((f_X11_isRecord   q3.1.2).bind fun q5 => ac q5.2 (if q5.1.1 = 0 then ((f_X11_isWas   q5.1.2).bind fun q7 => ac q7.2 (if q7.1.1 = 0 then ((f_X11_isElse   q7.1.2).bind fun q9 => ac q9.2 (if q9.1.1 = 0 then ((f_X11_isOr   q9.1.2).bind fun q11 => ac q11.2 (if q11.1.1 = 0 then ((f_X11_isYes   q11.1.2).bind fun q13 => ac q13.2 (if q13.1.1 = 0 then ((f_X11_isNo   q13.1.2).bind fun q15 => ac q15.2 (if q15.1.1 = 0 then (f_X11_isName_61  0 q15.1.2) else (f_X11_isName_56   q15.1.2))) else (f_X11_isName_56   q13.1.2))) else (f_X11_isName_56   q11.1.2))) else (f_X11_isName_56   q9.1.2))) else (f_X11_isName_56   q7.1.2))) else (f_X11_isName_56   q5.1.2))) else (f_X11_isName_56   q3.1.2))))

set_option maxRecDepth 100000 in
set_option maxHeartbeats 4000000 in
theorem b_X11_isName_61 {p : Program} {l : Launch} {e : Env} {s : State} {m : MethodId} {args : Array Value} {below : List Frame} {meth : Method} {c : Code} {dC : Nat → ClassId} {dI : Nat → Nat → Nat} {a : Nat → Nat} {k : Nat → ClassId} {A : Nat → Prop} {q : Int32 × ST} {T r κ : Nat} (hC : CxB p s m args meth c dC dI k A cX11_isName RX11 (some .boolean) 2)   {y0 : Int32} {σ : ST} (h : f_X11_isName_61  y0 σ = some (q, r)) (hκ : κ + r = T) : GkB p l e ({ frames := 2, cells := T, slots := 6 * T, locals := 49 } : Room) s m args below meth c (MQ below (qBi dC dI a k A q) args s T (6 * T) A) dC dI a k A 2 61 κ σ [(0, .ref (a 0))] [.int y0] := by
  have hC0 := hC
  obtain ⟨hx, hb, hr, hml, hown, hts, hlocks, hA, hN, hK⟩ := hC0
  intro H locs ls hP hD hS hl
  have hD0 : ∀ σ1 : ST, va_D A (wB a k σ1) := fun σ1 => wB_D hD
  unfold f_X11_isName_61 at h
  refine lv_istore_n (lv' := [(1, .int y0), (0, .ref (a 0))]) hx hb dX11_isName_61 rfl hl (by decide) rfl (fun ls hl => ?_)
  refine lv_aload_n hx hb dX11_isName_62 rfl (lv_at hl 1 rfl) ?_
  refine va_get (D := (dC, dI)) (ci := 11) (C := RX11) (T := TX11) (N := 95) hx hb hts inlX11 hown hK hP 0 gB_0 rfl 6 (by decide) (hts (.fieldLink RX11 244 "ShapeReaderModel" "token" "I") mw_29_21) (fun _ h9 => h9) rfl dX11_isName_63 ?_
  refine lv_iconst (v := 1) hx hb dX11_isName_66 (by decide) ?_
  refine lv_icmp_ne (tgt := 78) hx hb dX11_isName_67 (by decide) (fun hc => ?_) (fun hc => ?_)
  · replace h := iq hc h
    refine lv_iconst (v := 0) hx hb dX11_isName_78 (by decide) ?_
    obtain ⟨rfl, rfl⟩ := Prod.mk.inj (Option.some.inj h)
    subst hκ
    exact W.zret hx hb hr rfl (fun t ht hW => ⟨⟨_, (), rfl, rfl, ⟨by rw [ht]; exact hP, va_K.moved hW.alike hK, hD⟩⟩, hS.F ht⟩) hS.2.2 dX11_isName_79
  · replace h := ip hc h
    refine lv_iload_n hx hb dX11_isName_70 rfl (lv_at hl 0 rfl) ?_
    refine lv_if_ne (tgt := 78) hx hb dX11_isName_71 (by decide) (fun hc => ?_) (fun hc => ?_)
    · replace h := iq hc h
      refine lv_iconst (v := 0) hx hb dX11_isName_78 (by decide) ?_
      obtain ⟨rfl, rfl⟩ := Prod.mk.inj (Option.some.inj h)
      subst hκ
      exact W.zret hx hb hr rfl (fun t ht hW => ⟨⟨_, (), rfl, rfl, ⟨by rw [ht]; exact hP, va_K.moved hW.alike hK, hD⟩⟩, hS.F ht⟩) hS.2.2 dX11_isName_79
    · replace h := ip hc h
      refine lv_iconst (v := 1) hx hb dX11_isName_74 (by decide) ?_
      refine lv_goto (tgt := 79) hx hb dX11_isName_75 (by decide) ?_
      obtain ⟨rfl, rfl⟩ := Prod.mk.inj (Option.some.inj h)
      subst hκ
      exact W.zret hx hb hr rfl (fun t ht hW => ⟨⟨_, (), rfl, rfl, ⟨by rw [ht]; exact hP, va_K.moved hW.alike hK, hD⟩⟩, hS.F ht⟩) hS.2.2 dX11_isName_79

set_option maxRecDepth 100000 in
set_option maxHeartbeats 4000000 in
theorem b_X11_isName_56 {p : Program} {l : Launch} {e : Env} {s : State} {m : MethodId} {args : Array Value} {below : List Frame} {meth : Method} {c : Code} {dC : Nat → ClassId} {dI : Nat → Nat → Nat} {a : Nat → Nat} {k : Nat → ClassId} {A : Nat → Prop} {q : Int32 × ST} {T r κ : Nat} (hC : CxB p s m args meth c dC dI k A cX11_isName RX11 (some .boolean) 2)    {σ : ST} (h : f_X11_isName_56   σ = some (q, r)) (hκ : κ + r = T) : GkB p l e ({ frames := 2, cells := T, slots := 6 * T, locals := 49 } : Room) s m args below meth c (MQ below (qBi dC dI a k A q) args s T (6 * T) A) dC dI a k A 2 56 κ σ [(0, .ref (a 0))] [] := by
  have hC0 := hC
  obtain ⟨hx, hb, hr, hml, hown, hts, hlocks, hA, hN, hK⟩ := hC0
  intro H locs ls hP hD hS hl
  have hD0 : ∀ σ1 : ST, va_D A (wB a k σ1) := fun σ1 => wB_D hD
  unfold f_X11_isName_56 at h
  refine lv_iconst (v := 1) hx hb dX11_isName_56 (by decide) ?_
  refine lv_goto (tgt := 61) hx hb dX11_isName_57 (by decide) ?_
  exact b_X11_isName_61 hC h hκ _ _ _ hP hD hS (lv_sub hl [0] rfl)

set_option maxRecDepth 100000 in
set_option maxHeartbeats 4000000 in
theorem b_X11_isName_e {p : Program} {l : Launch} {e : Env} {s : State} {m : MethodId} {args : Array Value} {below : List Frame} {meth : Method} {c : Code} {dC : Nat → ClassId} {dI : Nat → Nat → Nat} {a : Nat → Nat} {k : Nat → ClassId} {A : Nat → Prop} {q : Int32 × ST} {T r : Nat} (hC : CxB p s m args meth c dC dI k A cX11_isName RX11 (some .boolean) 2)    {σ : ST} (h : f_X11_isName   σ = some (q, r)) (hκ : 0 + r = T) : GkB p l e ({ frames := 2, cells := T, slots := 6 * T, locals := 49 } : Room) s m args below meth c (MQ below (qBi dC dI a k A q) args s T (6 * T) A) dC dI a k A 2 0 0 σ (lv_args 0 [.ref (a 0)]) [] := by
  have hC0 := hC
  obtain ⟨hx, hb, hr, hml, hown, hts, hlocks, hA, hN, hK⟩ := hC0
  intro H locs ls hP hD hS hl
  have hD0 : ∀ σ1 : ST, va_D A (wB a k σ1) := fun σ1 => wB_D hD
  replace hl : lv_has ls 2 [(0, .ref (a 0))] := hl
  unfold f_X11_isName at h
  refine lv_aload_n hx hb dX11_isName_0 rfl (lv_at hl 0 rfl) ?_
  obtain ⟨q1, hc, h⟩ := ib h
  obtain ⟨r2, h, hz⟩ := acE h
  have hF := va_frees hD hS hA
  refine va_calli (va_runV (As := []) (rest := []) ⟨hx, hb, hml, hown, hts⟩ (s_X11_sortHere (q := q1.1) (r := q1.2) hc) (cwV 0 hts (gV mw_30_20 mw_30_21 mw_30_22 mw_0_15 mw_54_12) rfl rfl rfl (by decide +kernel) ⟨(Nat.le_of_ble_eq_true rfl), (Nat.le_of_ble_eq_true rfl)⟩) (vV (ci := 11) (q0 := 0) hK hP hD hN rfl gB_0) rfl rfl hl.1 rfl (lv_room (Nat.le_of_ble_eq_true rfl)) dX11_isName_1 ⟨by show 0 + q1.2 ≤ T; omega, by show 6 * 0 + 6 * q1.2 ≤ 6 * T; omega⟩) hS (fun q _ h => hF q h) hF (fun r2 u t H locs ht hvm hw hB _ _ hS => ?_)
  obtain rfl : r2 = q1.1.1 := hw
  replace hκ : (0 + q1.2) + r2 = T := by omega
  clear hz
  refine W.widen (k := (0 + q1.2)) (n := 6 * (0 + q1.2)) (Nat.le_refl _) (by omega) ?_
  replace hP : va_P (dC, dI) vwCl (wB a k q1.1.2) H := by rw [← ht]; exact hB.1
  replace hD := hD0 (q1.1.2)
  clear hB hF
  refine lv_if_ge (tgt := 56) hx hb dX11_isName_4 (by decide) (fun hc => ?_) (fun hc => ?_)
  · replace h := ip hc h
    exact b_X11_isName_56 hC h hκ _ _ _ hP hD hS (lv_sub hl [0] rfl)
  · replace h := iq hc h
    refine lv_aload_n hx hb dX11_isName_7 rfl (lv_at hl 0 rfl) ?_
    obtain ⟨q3, hc, h⟩ := ib h
    obtain ⟨r2, h, hz⟩ := acE h
    have hF := va_frees hD hS hA
    refine va_calli (va_runV (As := []) (rest := []) ⟨hx, hb, hml, hown, hts⟩ (s_X11_isPlan (q := q3.1) (r := q3.2) hc) (cwV 0 hts (gV mw_30_23 mw_30_24 mw_30_25 mw_0_15 mw_54_13) rfl rfl rfl (by decide +kernel) ⟨(Nat.le_of_ble_eq_true rfl), (Nat.le_of_ble_eq_true rfl)⟩) (vV (ci := 11) (q0 := 0) hK hP hD hN rfl gB_0) rfl rfl hl.1 rfl (lv_room (Nat.le_of_ble_eq_true rfl)) dX11_isName_8 ⟨by show (0 + q1.2) + q3.2 ≤ T; omega, by show 6 * (0 + q1.2) + 6 * q3.2 ≤ 6 * T; omega⟩) hS (fun q _ h => hF q h) hF (fun r4 u t H locs ht hvm hw hB _ _ hS => ?_)
    obtain rfl : r4 = q3.1.1 := hw
    replace hκ : ((0 + q1.2) + q3.2) + r2 = T := by omega
    clear hz
    refine W.widen (k := ((0 + q1.2) + q3.2)) (n := 6 * ((0 + q1.2) + q3.2)) (Nat.le_refl _) (by omega) ?_
    replace hP : va_P (dC, dI) vwCl (wB a k q3.1.2) H := by rw [← ht]; exact hB.1
    replace hD := hD0 (q3.1.2)
    clear hB hF
    refine lv_if_ne (tgt := 56) hx hb dX11_isName_11 (by decide) (fun hc => ?_) (fun hc => ?_)
    · replace h := iq hc h
      exact b_X11_isName_56 hC h hκ _ _ _ hP hD hS (lv_sub hl [0] rfl)
    · replace h := ip hc h
      refine lv_aload_n hx hb dX11_isName_14 rfl (lv_at hl 0 rfl) ?_
      obtain ⟨q5, hc, h⟩ := ib h
      obtain ⟨r2, h, hz⟩ := acE h
      have hF := va_frees hD hS hA
      refine va_calli (va_runV (As := []) (rest := []) ⟨hx, hb, hml, hown, hts⟩ (s_X11_isRecord (q := q5.1) (r := q5.2) hc) (cwV 0 hts (gV mw_30_26 mw_30_27 mw_30_28 mw_0_15 mw_54_14) rfl rfl rfl (by decide +kernel) ⟨(Nat.le_of_ble_eq_true rfl), (Nat.le_of_ble_eq_true rfl)⟩) (vV (ci := 11) (q0 := 0) hK hP hD hN rfl gB_0) rfl rfl hl.1 rfl (lv_room (Nat.le_of_ble_eq_true rfl)) dX11_isName_15 ⟨by show ((0 + q1.2) + q3.2) + q5.2 ≤ T; omega, by show 6 * ((0 + q1.2) + q3.2) + 6 * q5.2 ≤ 6 * T; omega⟩) hS (fun q _ h => hF q h) hF (fun r6 u t H locs ht hvm hw hB _ _ hS => ?_)
      obtain rfl : r6 = q5.1.1 := hw
      replace hκ : (((0 + q1.2) + q3.2) + q5.2) + r2 = T := by omega
      clear hz
      refine W.widen (k := (((0 + q1.2) + q3.2) + q5.2)) (n := 6 * (((0 + q1.2) + q3.2) + q5.2)) (Nat.le_refl _) (by omega) ?_
      replace hP : va_P (dC, dI) vwCl (wB a k q5.1.2) H := by rw [← ht]; exact hB.1
      replace hD := hD0 (q5.1.2)
      clear hB hF
      refine lv_if_ne (tgt := 56) hx hb dX11_isName_18 (by decide) (fun hc => ?_) (fun hc => ?_)
      · replace h := iq hc h
        exact b_X11_isName_56 hC h hκ _ _ _ hP hD hS (lv_sub hl [0] rfl)
      · replace h := ip hc h
        refine lv_aload_n hx hb dX11_isName_21 rfl (lv_at hl 0 rfl) ?_
        obtain ⟨q7, hc, h⟩ := ib h
        obtain ⟨r2, h, hz⟩ := acE h
        have hF := va_frees hD hS hA
        refine va_calli (va_runV (As := []) (rest := []) ⟨hx, hb, hml, hown, hts⟩ (s_X11_isWas (q := q7.1) (r := q7.2) hc) (cwV 0 hts (gV mw_30_29 mw_31_0 mw_31_1 mw_0_15 mw_54_15) rfl rfl rfl (by decide +kernel) ⟨(Nat.le_of_ble_eq_true rfl), (Nat.le_of_ble_eq_true rfl)⟩) (vV (ci := 11) (q0 := 0) hK hP hD hN rfl gB_0) rfl rfl hl.1 rfl (lv_room (Nat.le_of_ble_eq_true rfl)) dX11_isName_22 ⟨by show (((0 + q1.2) + q3.2) + q5.2) + q7.2 ≤ T; omega, by show 6 * (((0 + q1.2) + q3.2) + q5.2) + 6 * q7.2 ≤ 6 * T; omega⟩) hS (fun q _ h => hF q h) hF (fun r8 u t H locs ht hvm hw hB _ _ hS => ?_)
        obtain rfl : r8 = q7.1.1 := hw
        replace hκ : ((((0 + q1.2) + q3.2) + q5.2) + q7.2) + r2 = T := by omega
        clear hz
        refine W.widen (k := ((((0 + q1.2) + q3.2) + q5.2) + q7.2)) (n := 6 * ((((0 + q1.2) + q3.2) + q5.2) + q7.2)) (Nat.le_refl _) (by omega) ?_
        replace hP : va_P (dC, dI) vwCl (wB a k q7.1.2) H := by rw [← ht]; exact hB.1
        replace hD := hD0 (q7.1.2)
        clear hB hF
        refine lv_if_ne (tgt := 56) hx hb dX11_isName_25 (by decide) (fun hc => ?_) (fun hc => ?_)
        · replace h := iq hc h
          exact b_X11_isName_56 hC h hκ _ _ _ hP hD hS (lv_sub hl [0] rfl)
        · replace h := ip hc h
          refine lv_aload_n hx hb dX11_isName_28 rfl (lv_at hl 0 rfl) ?_
          obtain ⟨q9, hc, h⟩ := ib h
          obtain ⟨r2, h, hz⟩ := acE h
          have hF := va_frees hD hS hA
          refine va_calli (va_runV (As := []) (rest := []) ⟨hx, hb, hml, hown, hts⟩ (s_X11_isElse (q := q9.1) (r := q9.2) hc) (cwV 0 hts (gV mw_31_2 mw_31_3 mw_31_4 mw_0_15 mw_54_16) rfl rfl rfl (by decide +kernel) ⟨(Nat.le_of_ble_eq_true rfl), (Nat.le_of_ble_eq_true rfl)⟩) (vV (ci := 11) (q0 := 0) hK hP hD hN rfl gB_0) rfl rfl hl.1 rfl (lv_room (Nat.le_of_ble_eq_true rfl)) dX11_isName_29 ⟨by show ((((0 + q1.2) + q3.2) + q5.2) + q7.2) + q9.2 ≤ T; omega, by show 6 * ((((0 + q1.2) + q3.2) + q5.2) + q7.2) + 6 * q9.2 ≤ 6 * T; omega⟩) hS (fun q _ h => hF q h) hF (fun r10 u t H locs ht hvm hw hB _ _ hS => ?_)
          obtain rfl : r10 = q9.1.1 := hw
          replace hκ : (((((0 + q1.2) + q3.2) + q5.2) + q7.2) + q9.2) + r2 = T := by omega
          clear hz
          refine W.widen (k := (((((0 + q1.2) + q3.2) + q5.2) + q7.2) + q9.2)) (n := 6 * (((((0 + q1.2) + q3.2) + q5.2) + q7.2) + q9.2)) (Nat.le_refl _) (by omega) ?_
          replace hP : va_P (dC, dI) vwCl (wB a k q9.1.2) H := by rw [← ht]; exact hB.1
          replace hD := hD0 (q9.1.2)
          clear hB hF
          refine lv_if_ne (tgt := 56) hx hb dX11_isName_32 (by decide) (fun hc => ?_) (fun hc => ?_)
          · replace h := iq hc h
            exact b_X11_isName_56 hC h hκ _ _ _ hP hD hS (lv_sub hl [0] rfl)
          · replace h := ip hc h
            refine lv_aload_n hx hb dX11_isName_35 rfl (lv_at hl 0 rfl) ?_
            obtain ⟨q11, hc, h⟩ := ib h
            obtain ⟨r2, h, hz⟩ := acE h
            have hF := va_frees hD hS hA
            refine va_calli (va_runV (As := []) (rest := []) ⟨hx, hb, hml, hown, hts⟩ (s_X11_isOr (q := q11.1) (r := q11.2) hc) (cwV 0 hts (gV mw_31_5 mw_31_6 mw_31_7 mw_0_15 mw_54_17) rfl rfl rfl (by decide +kernel) ⟨(Nat.le_of_ble_eq_true rfl), (Nat.le_of_ble_eq_true rfl)⟩) (vV (ci := 11) (q0 := 0) hK hP hD hN rfl gB_0) rfl rfl hl.1 rfl (lv_room (Nat.le_of_ble_eq_true rfl)) dX11_isName_36 ⟨by show (((((0 + q1.2) + q3.2) + q5.2) + q7.2) + q9.2) + q11.2 ≤ T; omega, by show 6 * (((((0 + q1.2) + q3.2) + q5.2) + q7.2) + q9.2) + 6 * q11.2 ≤ 6 * T; omega⟩) hS (fun q _ h => hF q h) hF (fun r12 u t H locs ht hvm hw hB _ _ hS => ?_)
            obtain rfl : r12 = q11.1.1 := hw
            replace hκ : ((((((0 + q1.2) + q3.2) + q5.2) + q7.2) + q9.2) + q11.2) + r2 = T := by omega
            clear hz
            refine W.widen (k := ((((((0 + q1.2) + q3.2) + q5.2) + q7.2) + q9.2) + q11.2)) (n := 6 * ((((((0 + q1.2) + q3.2) + q5.2) + q7.2) + q9.2) + q11.2)) (Nat.le_refl _) (by omega) ?_
            replace hP : va_P (dC, dI) vwCl (wB a k q11.1.2) H := by rw [← ht]; exact hB.1
            replace hD := hD0 (q11.1.2)
            clear hB hF
            refine lv_if_ne (tgt := 56) hx hb dX11_isName_39 (by decide) (fun hc => ?_) (fun hc => ?_)
            · replace h := iq hc h
              exact b_X11_isName_56 hC h hκ _ _ _ hP hD hS (lv_sub hl [0] rfl)
            · replace h := ip hc h
              refine lv_aload_n hx hb dX11_isName_42 rfl (lv_at hl 0 rfl) ?_
              obtain ⟨q13, hc, h⟩ := ib h
              obtain ⟨r2, h, hz⟩ := acE h
              have hF := va_frees hD hS hA
              refine va_calli (va_runV (As := []) (rest := []) ⟨hx, hb, hml, hown, hts⟩ (s_X11_isYes (q := q13.1) (r := q13.2) hc) (cwV 0 hts (gV mw_31_8 mw_31_9 mw_31_10 mw_0_15 mw_54_18) rfl rfl rfl (by decide +kernel) ⟨(Nat.le_of_ble_eq_true rfl), (Nat.le_of_ble_eq_true rfl)⟩) (vV (ci := 11) (q0 := 0) hK hP hD hN rfl gB_0) rfl rfl hl.1 rfl (lv_room (Nat.le_of_ble_eq_true rfl)) dX11_isName_43 ⟨by show ((((((0 + q1.2) + q3.2) + q5.2) + q7.2) + q9.2) + q11.2) + q13.2 ≤ T; omega, by show 6 * ((((((0 + q1.2) + q3.2) + q5.2) + q7.2) + q9.2) + q11.2) + 6 * q13.2 ≤ 6 * T; omega⟩) hS (fun q _ h => hF q h) hF (fun r14 u t H locs ht hvm hw hB _ _ hS => ?_)
              obtain rfl : r14 = q13.1.1 := hw
              replace hκ : (((((((0 + q1.2) + q3.2) + q5.2) + q7.2) + q9.2) + q11.2) + q13.2) + r2 = T := by omega
              clear hz
              refine W.widen (k := (((((((0 + q1.2) + q3.2) + q5.2) + q7.2) + q9.2) + q11.2) + q13.2)) (n := 6 * (((((((0 + q1.2) + q3.2) + q5.2) + q7.2) + q9.2) + q11.2) + q13.2)) (Nat.le_refl _) (by omega) ?_
              replace hP : va_P (dC, dI) vwCl (wB a k q13.1.2) H := by rw [← ht]; exact hB.1
              replace hD := hD0 (q13.1.2)
              clear hB hF
              refine lv_if_ne (tgt := 56) hx hb dX11_isName_46 (by decide) (fun hc => ?_) (fun hc => ?_)
              · replace h := iq hc h
                exact b_X11_isName_56 hC h hκ _ _ _ hP hD hS (lv_sub hl [0] rfl)
              · replace h := ip hc h
                refine lv_aload_n hx hb dX11_isName_49 rfl (lv_at hl 0 rfl) ?_
                obtain ⟨q15, hc, h⟩ := ib h
                obtain ⟨r2, h, hz⟩ := acE h
                have hF := va_frees hD hS hA
                refine va_calli (va_runV (As := []) (rest := []) ⟨hx, hb, hml, hown, hts⟩ (s_X11_isNo (q := q15.1) (r := q15.2) hc) (cwV 0 hts (gV mw_31_11 mw_31_12 mw_31_13 mw_0_15 mw_54_19) rfl rfl rfl (by decide +kernel) ⟨(Nat.le_of_ble_eq_true rfl), (Nat.le_of_ble_eq_true rfl)⟩) (vV (ci := 11) (q0 := 0) hK hP hD hN rfl gB_0) rfl rfl hl.1 rfl (lv_room (Nat.le_of_ble_eq_true rfl)) dX11_isName_50 ⟨by show (((((((0 + q1.2) + q3.2) + q5.2) + q7.2) + q9.2) + q11.2) + q13.2) + q15.2 ≤ T; omega, by show 6 * (((((((0 + q1.2) + q3.2) + q5.2) + q7.2) + q9.2) + q11.2) + q13.2) + 6 * q15.2 ≤ 6 * T; omega⟩) hS (fun q _ h => hF q h) hF (fun r16 u t H locs ht hvm hw hB _ _ hS => ?_)
                obtain rfl : r16 = q15.1.1 := hw
                replace hκ : ((((((((0 + q1.2) + q3.2) + q5.2) + q7.2) + q9.2) + q11.2) + q13.2) + q15.2) + r2 = T := by omega
                clear hz
                refine W.widen (k := ((((((((0 + q1.2) + q3.2) + q5.2) + q7.2) + q9.2) + q11.2) + q13.2) + q15.2)) (n := 6 * ((((((((0 + q1.2) + q3.2) + q5.2) + q7.2) + q9.2) + q11.2) + q13.2) + q15.2)) (Nat.le_refl _) (by omega) ?_
                replace hP : va_P (dC, dI) vwCl (wB a k q15.1.2) H := by rw [← ht]; exact hB.1
                replace hD := hD0 (q15.1.2)
                clear hB hF
                refine lv_if_eq (tgt := 60) hx hb dX11_isName_53 (by decide) (fun hc => ?_) (fun hc => ?_)
                · replace h := ip hc h
                  refine lv_iconst (v := 0) hx hb dX11_isName_60 (by decide) ?_
                  exact b_X11_isName_61 hC h hκ _ _ _ hP hD hS (lv_sub hl [0] rfl)
                · replace h := iq hc h
                  exact b_X11_isName_56 hC h hκ _ _ _ hP hD hS (lv_sub hl [0] rfl)

theorem s_X11_isName {l : Launch} {dC : Nat → ClassId} {dI : Nat → Nat → Nat} {a : Nat → Nat} {k : Nat → ClassId} {sz : Nat}  {σ : ST} {q : Int32 × ST} {r : Nat} (h : f_X11_isName   σ = some (q, r)) : Met l yX11_isName (.code yX11_isName cX11_isName 2 (some .boolean) :: pw) ({ frames := 2, cells := r, slots := 6 * r, locals := 49 } : Room) (va_Pc [.ref (a 0)] (vPre dC dI (wB a k σ) (tB k) sz)) (qBi dC dI a k (va_A (wB a k σ) sz) q) r (6 * r) (va_A (wB a k σ) sz) := mekB (fun A => qBi dC dI a k A q) (plainFor_of_name (by decide)) (Nat.le_of_ble_eq_true rfl) (fun _ _ _ _ _ _ _ _ hC => b_X11_isName_e hC h (Nat.zero_add _))
