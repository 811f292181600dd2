theorem dX10_bitsOfPositive_0 : decode cX10_bitsOfPositive 0 = .ok (.dload_n 0, 1) := by decide +kernel
theorem dX10_bitsOfPositive_1 : decode cX10_bitsOfPositive 1 = .ok (.dconst 0, 1) := by decide +kernel
theorem dX10_bitsOfPositive_2 : decode cX10_bitsOfPositive 2 = .ok (.dcmp .l, 1) := by decide +kernel
theorem dX10_bitsOfPositive_3 : decode cX10_bitsOfPositive 3 = .ok (.ifCond .gt 5, 3) := by decide +kernel
theorem dX10_bitsOfPositive_6 : decode cX10_bitsOfPositive 6 = .ok (.lconst 0, 1) := by decide +kernel
theorem dX10_bitsOfPositive_7 : decode cX10_bitsOfPositive 7 = .ok (.lreturn, 1) := by decide +kernel
theorem dX10_bitsOfPositive_8 : decode cX10_bitsOfPositive 8 = .ok (.dload_n 0, 1) := by decide +kernel
theorem dX10_bitsOfPositive_9 : decode cX10_bitsOfPositive 9 = .ok (.dstore_n 2, 1) := by decide +kernel
theorem dX10_bitsOfPositive_10 : decode cX10_bitsOfPositive 10 = .ok (.sipush 1075, 3) := by decide +kernel
theorem dX10_bitsOfPositive_13 : decode cX10_bitsOfPositive 13 = .ok (.istore 4, 2) := by decide +kernel
theorem dX10_bitsOfPositive_15 : decode cX10_bitsOfPositive 15 = .ok (.iconst 0, 1) := by decide +kernel
theorem dX10_bitsOfPositive_16 : decode cX10_bitsOfPositive 16 = .ok (.istore 5, 2) := by decide +kernel
theorem dX10_bitsOfPositive_18 : decode cX10_bitsOfPositive 18 = .ok (.iload 5, 2) := by decide +kernel
theorem dX10_bitsOfPositive_20 : decode cX10_bitsOfPositive 20 = .ok (.bipush 64, 2) := by decide +kernel
theorem dX10_bitsOfPositive_22 : decode cX10_bitsOfPositive 22 = .ok (.if_icmp .ge 26, 3) := by decide +kernel
theorem dX10_bitsOfPositive_25 : decode cX10_bitsOfPositive 25 = .ok (.dload_n 2, 1) := by decide +kernel
theorem dX10_bitsOfPositive_26 : decode cX10_bitsOfPositive 26 = .ok (.ldc2_w 312, 3) := by decide +kernel
theorem dX10_bitsOfPositive_29 : decode cX10_bitsOfPositive 29 = .ok (.dcmp .l, 1) := by decide +kernel
theorem dX10_bitsOfPositive_30 : decode cX10_bitsOfPositive 30 = .ok (.ifCond .lt 18, 3) := by decide +kernel
theorem dX10_bitsOfPositive_33 : decode cX10_bitsOfPositive 33 = .ok (.dload_n 2, 1) := by decide +kernel
theorem dX10_bitsOfPositive_34 : decode cX10_bitsOfPositive 34 = .ok (.ldc2_w 314, 3) := by decide +kernel
theorem dX10_bitsOfPositive_37 : decode cX10_bitsOfPositive 37 = .ok (.ddiv, 1) := by decide +kernel
theorem dX10_bitsOfPositive_38 : decode cX10_bitsOfPositive 38 = .ok (.dstore_n 2, 1) := by decide +kernel
theorem dX10_bitsOfPositive_39 : decode cX10_bitsOfPositive 39 = .ok (.iinc 4 1, 3) := by decide +kernel
theorem dX10_bitsOfPositive_42 : decode cX10_bitsOfPositive 42 = .ok (.iinc 5 1, 3) := by decide +kernel
theorem dX10_bitsOfPositive_45 : decode cX10_bitsOfPositive 45 = .ok (.goto (-27), 3) := by decide +kernel
theorem dX10_bitsOfPositive_48 : decode cX10_bitsOfPositive 48 = .ok (.iconst 0, 1) := by decide +kernel
theorem dX10_bitsOfPositive_49 : decode cX10_bitsOfPositive 49 = .ok (.istore 5, 2) := by decide +kernel
theorem dX10_bitsOfPositive_51 : decode cX10_bitsOfPositive 51 = .ok (.iload 5, 2) := by decide +kernel
theorem dX10_bitsOfPositive_53 : decode cX10_bitsOfPositive 53 = .ok (.bipush 64, 2) := by decide +kernel
theorem dX10_bitsOfPositive_55 : decode cX10_bitsOfPositive 55 = .ok (.if_icmp .ge 26, 3) := by decide +kernel
theorem dX10_bitsOfPositive_58 : decode cX10_bitsOfPositive 58 = .ok (.dload_n 2, 1) := by decide +kernel
theorem dX10_bitsOfPositive_59 : decode cX10_bitsOfPositive 59 = .ok (.ldc2_w 316, 3) := by decide +kernel
theorem dX10_bitsOfPositive_62 : decode cX10_bitsOfPositive 62 = .ok (.dcmp .g, 1) := by decide +kernel
theorem dX10_bitsOfPositive_63 : decode cX10_bitsOfPositive 63 = .ok (.ifCond .ge 18, 3) := by decide +kernel
theorem dX10_bitsOfPositive_66 : decode cX10_bitsOfPositive 66 = .ok (.dload_n 2, 1) := by decide +kernel
theorem dX10_bitsOfPositive_67 : decode cX10_bitsOfPositive 67 = .ok (.ldc2_w 314, 3) := by decide +kernel
theorem dX10_bitsOfPositive_70 : decode cX10_bitsOfPositive 70 = .ok (.dmul, 1) := by decide +kernel
theorem dX10_bitsOfPositive_71 : decode cX10_bitsOfPositive 71 = .ok (.dstore_n 2, 1) := by decide +kernel
theorem dX10_bitsOfPositive_72 : decode cX10_bitsOfPositive 72 = .ok (.iinc 4 (-1), 3) := by decide +kernel
theorem dX10_bitsOfPositive_75 : decode cX10_bitsOfPositive 75 = .ok (.iinc 5 1, 3) := by decide +kernel
theorem dX10_bitsOfPositive_78 : decode cX10_bitsOfPositive 78 = .ok (.goto (-27), 3) := by decide +kernel
theorem dX10_bitsOfPositive_81 : decode cX10_bitsOfPositive 81 = .ok (.iload 4, 2) := by decide +kernel
theorem dX10_bitsOfPositive_83 : decode cX10_bitsOfPositive 83 = .ok (.i2l, 1) := by decide +kernel
theorem dX10_bitsOfPositive_84 : decode cX10_bitsOfPositive 84 = .ok (.bipush 52, 2) := by decide +kernel
theorem dX10_bitsOfPositive_86 : decode cX10_bitsOfPositive 86 = .ok (.lshl, 1) := by decide +kernel
theorem dX10_bitsOfPositive_87 : decode cX10_bitsOfPositive 87 = .ok (.dload_n 2, 1) := by decide +kernel
theorem dX10_bitsOfPositive_88 : decode cX10_bitsOfPositive 88 = .ok (.d2l, 1) := by decide +kernel
theorem dX10_bitsOfPositive_89 : decode cX10_bitsOfPositive 89 = .ok (.ldc2_w 318, 3) := by decide +kernel
theorem dX10_bitsOfPositive_92 : decode cX10_bitsOfPositive 92 = .ok (.lsub, 1) := by decide +kernel
theorem dX10_bitsOfPositive_93 : decode cX10_bitsOfPositive 93 = .ok (.ladd, 1) := by decide +kernel
theorem dX10_bitsOfPositive_94 : decode cX10_bitsOfPositive 94 = .ok (.lreturn, 1) := by decide +kernel
theorem dX10_bitsOfWhole_0 : decode cX10_bitsOfWhole 0 = .ok (.lload_n 0, 1) := by decide +kernel
theorem dX10_bitsOfWhole_1 : decode cX10_bitsOfWhole 1 = .ok (.lconst 0, 1) := by decide +kernel
theorem dX10_bitsOfWhole_2 : decode cX10_bitsOfWhole 2 = .ok (.lcmp, 1) := by decide +kernel
theorem dX10_bitsOfWhole_3 : decode cX10_bitsOfWhole 3 = .ok (.ifCond .lt 11, 3) := by decide +kernel
theorem dX10_bitsOfWhole_6 : decode cX10_bitsOfWhole 6 = .ok (.lload_n 0, 1) := by decide +kernel
theorem dX10_bitsOfWhole_7 : decode cX10_bitsOfWhole 7 = .ok (.l2d, 1) := by decide +kernel
theorem dX10_bitsOfWhole_8 : decode cX10_bitsOfWhole 8 = .ok (.invokestatic 320, 3) := by decide +kernel
theorem dX10_bitsOfWhole_11 : decode cX10_bitsOfWhole 11 = .ok (.goto 14, 3) := by decide +kernel
theorem dX10_bitsOfWhole_14 : decode cX10_bitsOfWhole 14 = .ok (.dconst 0, 1) := by decide +kernel
theorem dX10_bitsOfWhole_15 : decode cX10_bitsOfWhole 15 = .ok (.lload_n 0, 1) := by decide +kernel
theorem dX10_bitsOfWhole_16 : decode cX10_bitsOfWhole 16 = .ok (.l2d, 1) := by decide +kernel
theorem dX10_bitsOfWhole_17 : decode cX10_bitsOfWhole 17 = .ok (.dsub, 1) := by decide +kernel
theorem dX10_bitsOfWhole_18 : decode cX10_bitsOfWhole 18 = .ok (.invokestatic 320, 3) := by decide +kernel
theorem dX10_bitsOfWhole_21 : decode cX10_bitsOfWhole 21 = .ok (.ldc2_w 326, 3) := by decide +kernel
theorem dX10_bitsOfWhole_24 : decode cX10_bitsOfWhole 24 = .ok (.lor, 1) := by decide +kernel
theorem dX10_bitsOfWhole_25 : decode cX10_bitsOfWhole 25 = .ok (.lreturn, 1) := by decide +kernel
theorem dX10_isInt_0 : decode cX10_isInt 0 = .ok (.lload_n 0, 1) := by decide +kernel
theorem dX10_isInt_1 : decode cX10_isInt 1 = .ok (.ldc2_w 330, 3) := by decide +kernel
theorem dX10_isInt_4 : decode cX10_isInt 4 = .ok (.lcmp, 1) := by decide +kernel
theorem dX10_isInt_5 : decode cX10_isInt 5 = .ok (.ifCond .lt 15, 3) := by decide +kernel
theorem dX10_isInt_8 : decode cX10_isInt 8 = .ok (.lload_n 0, 1) := by decide +kernel
theorem dX10_isInt_9 : decode cX10_isInt 9 = .ok (.ldc2_w 332, 3) := by decide +kernel
theorem dX10_isInt_12 : decode cX10_isInt 12 = .ok (.lcmp, 1) := by decide +kernel
theorem dX10_isInt_13 : decode cX10_isInt 13 = .ok (.ifCond .gt 7, 3) := by decide +kernel
theorem dX10_isInt_16 : decode cX10_isInt 16 = .ok (.iconst 1, 1) := by decide +kernel
theorem dX10_isInt_17 : decode cX10_isInt 17 = .ok (.goto 4, 3) := by decide +kernel
theorem dX10_isInt_20 : decode cX10_isInt 20 = .ok (.iconst 0, 1) := by decide +kernel
theorem dX10_isInt_21 : decode cX10_isInt 21 = .ok (.ireturn, 1) := by decide +kernel
theorem dX4_takeLetters_0 : decode cX4_takeLetters 0 = .ok (.lconst 0, 1) := by decide +kernel
theorem dX4_takeLetters_1 : decode cX4_takeLetters 1 = .ok (.lstore_n 3, 1) := by decide +kernel
theorem dX4_takeLetters_2 : decode cX4_takeLetters 2 = .ok (.iconst 0, 1) := by decide +kernel
theorem dX4_takeLetters_3 : decode cX4_takeLetters 3 = .ok (.istore 5, 2) := by decide +kernel
theorem dX4_takeLetters_5 : decode cX4_takeLetters 5 = .ok (.iload 5, 2) := by decide +kernel
theorem dX4_takeLetters_7 : decode cX4_takeLetters 7 = .ok (.iload_n 2, 1) := by decide +kernel
theorem dX4_takeLetters_8 : decode cX4_takeLetters 8 = .ok (.if_icmp .ge 59, 3) := by decide +kernel
theorem dX4_takeLetters_11 : decode cX4_takeLetters 11 = .ok (.aload_n 0, 1) := by decide +kernel
theorem dX4_takeLetters_12 : decode cX4_takeLetters 12 = .ok (.getfield 21, 3) := by decide +kernel
theorem dX4_takeLetters_15 : decode cX4_takeLetters 15 = .ok (.ifCond .ne 52, 3) := by decide +kernel
theorem dX4_takeLetters_18 : decode cX4_takeLetters 18 = .ok (.aload_n 0, 1) := by decide +kernel
theorem dX4_takeLetters_19 : decode cX4_takeLetters 19 = .ok (.invokevirtual 192, 3) := by decide +kernel
theorem dX4_takeLetters_22 : decode cX4_takeLetters 22 = .ok (.istore 6, 2) := by decide +kernel
theorem dX4_takeLetters_24 : decode cX4_takeLetters 24 = .ok (.iload 6, 2) := by decide +kernel
theorem dX4_takeLetters_26 : decode cX4_takeLetters 26 = .ok (.bipush 97, 2) := by decide +kernel
theorem dX4_takeLetters_28 : decode cX4_takeLetters 28 = .ok (.if_icmp .lt 10, 3) := by decide +kernel
theorem dX4_takeLetters_31 : decode cX4_takeLetters 31 = .ok (.iload 6, 2) := by decide +kernel
theorem dX4_takeLetters_33 : decode cX4_takeLetters 33 = .ok (.bipush 122, 2) := by decide +kernel
theorem dX4_takeLetters_35 : decode cX4_takeLetters 35 = .ok (.if_icmp .le 10, 3) := by decide +kernel
theorem dX4_takeLetters_38 : decode cX4_takeLetters 38 = .ok (.aload_n 0, 1) := by decide +kernel
theorem dX4_takeLetters_39 : decode cX4_takeLetters 39 = .ok (.bipush 12, 2) := by decide +kernel
theorem dX4_takeLetters_41 : decode cX4_takeLetters 41 = .ok (.iload_n 1, 1) := by decide +kernel
theorem dX4_takeLetters_42 : decode cX4_takeLetters 42 = .ok (.invokevirtual 86, 3) := by decide +kernel
theorem dX4_takeLetters_45 : decode cX4_takeLetters 45 = .ok (.lload_n 3, 1) := by decide +kernel
theorem dX4_takeLetters_46 : decode cX4_takeLetters 46 = .ok (.iload 6, 2) := by decide +kernel
theorem dX4_takeLetters_48 : decode cX4_takeLetters 48 = .ok (.bipush 97, 2) := by decide +kernel
theorem dX4_takeLetters_50 : decode cX4_takeLetters 50 = .ok (.isub, 1) := by decide +kernel
theorem dX4_takeLetters_51 : decode cX4_takeLetters 51 = .ok (.iconst 1, 1) := by decide +kernel
theorem dX4_takeLetters_52 : decode cX4_takeLetters 52 = .ok (.iadd, 1) := by decide +kernel
theorem dX4_takeLetters_53 : decode cX4_takeLetters 53 = .ok (.i2l, 1) := by decide +kernel
theorem dX4_takeLetters_54 : decode cX4_takeLetters 54 = .ok (.iconst 5, 1) := by decide +kernel
theorem dX4_takeLetters_55 : decode cX4_takeLetters 55 = .ok (.iload 5, 2) := by decide +kernel
theorem dX4_takeLetters_57 : decode cX4_takeLetters 57 = .ok (.imul, 1) := by decide +kernel
theorem dX4_takeLetters_58 : decode cX4_takeLetters 58 = .ok (.lshl, 1) := by decide +kernel
theorem dX4_takeLetters_59 : decode cX4_takeLetters 59 = .ok (.lor, 1) := by decide +kernel
theorem dX4_takeLetters_60 : decode cX4_takeLetters 60 = .ok (.lstore_n 3, 1) := by decide +kernel
theorem dX4_takeLetters_61 : decode cX4_takeLetters 61 = .ok (.iinc 5 1, 3) := by decide +kernel
theorem dX4_takeLetters_64 : decode cX4_takeLetters 64 = .ok (.goto (-59), 3) := by decide +kernel
theorem dX4_takeLetters_67 : decode cX4_takeLetters 67 = .ok (.lload_n 3, 1) := by decide +kernel
theorem dX4_takeLetters_68 : decode cX4_takeLetters 68 = .ok (.lreturn, 1) := by decide +kernel
theorem dX4_takePlain_0 : decode cX4_takePlain 0 = .ok (.aload_n 0, 1) := by decide +kernel
theorem dX4_takePlain_1 : decode cX4_takePlain 1 = .ok (.getfield 15, 3) := by decide +kernel
theorem dX4_takePlain_4 : decode cX4_takePlain 4 = .ok (.istore 5, 2) := by decide +kernel
theorem dX4_takePlain_6 : decode cX4_takePlain 6 = .ok (.iconst 0, 1) := by decide +kernel
theorem dX4_takePlain_7 : decode cX4_takePlain 7 = .ok (.istore 6, 2) := by decide +kernel
theorem dX4_takePlain_9 : decode cX4_takePlain 9 = .ok (.lconst 0, 1) := by decide +kernel
theorem dX4_takePlain_10 : decode cX4_takePlain 10 = .ok (.lstore 7, 2) := by decide +kernel
theorem dX4_takePlain_12 : decode cX4_takePlain 12 = .ok (.iload_n 1, 1) := by decide +kernel
theorem dX4_takePlain_13 : decode cX4_takePlain 13 = .ok (.tableswitch 124 1 5 #[35, 60, 60, 92, 101], 35) := by decide +kernel
theorem dX4_takePlain_48 : decode cX4_takePlain 48 = .ok (.aload_n 0, 1) := by decide +kernel
theorem dX4_takePlain_49 : decode cX4_takePlain 49 = .ok (.invokevirtual 192, 3) := by decide +kernel
theorem dX4_takePlain_52 : decode cX4_takePlain 52 = .ok (.i2l, 1) := by decide +kernel
theorem dX4_takePlain_53 : decode cX4_takePlain 53 = .ok (.lstore 7, 2) := by decide +kernel
theorem dX4_takePlain_55 : decode cX4_takePlain 55 = .ok (.lload 7, 2) := by decide +kernel
theorem dX4_takePlain_57 : decode cX4_takePlain 57 = .ok (.lconst 1, 1) := by decide +kernel
theorem dX4_takePlain_58 : decode cX4_takePlain 58 = .ok (.lcmp, 1) := by decide +kernel
theorem dX4_takePlain_59 : decode cX4_takePlain 59 = .ok (.ifCond .le 78, 3) := by decide +kernel
theorem dX4_takePlain_62 : decode cX4_takePlain 62 = .ok (.aload_n 0, 1) := by decide +kernel
theorem dX4_takePlain_63 : decode cX4_takePlain 63 = .ok (.bipush 12, 2) := by decide +kernel
theorem dX4_takePlain_65 : decode cX4_takePlain 65 = .ok (.iload 5, 2) := by decide +kernel
theorem dX4_takePlain_67 : decode cX4_takePlain 67 = .ok (.invokevirtual 86, 3) := by decide +kernel
theorem dX4_takePlain_70 : decode cX4_takePlain 70 = .ok (.goto 67, 3) := by decide +kernel
theorem dX4_takePlain_73 : decode cX4_takePlain 73 = .ok (.aload_n 0, 1) := by decide +kernel
theorem dX4_takePlain_74 : decode cX4_takePlain 74 = .ok (.iload 5, 2) := by decide +kernel
theorem dX4_takePlain_76 : decode cX4_takePlain 76 = .ok (.invokevirtual 196, 3) := by decide +kernel
theorem dX4_takePlain_79 : decode cX4_takePlain 79 = .ok (.lstore 7, 2) := by decide +kernel
theorem dX4_takePlain_81 : decode cX4_takePlain 81 = .ok (.iload_n 1, 1) := by decide +kernel
theorem dX4_takePlain_82 : decode cX4_takePlain 82 = .ok (.iconst 2, 1) := by decide +kernel
theorem dX4_takePlain_83 : decode cX4_takePlain 83 = .ok (.if_icmp .ne 54, 3) := by decide +kernel
theorem dX4_takePlain_86 : decode cX4_takePlain 86 = .ok (.lload 7, 2) := by decide +kernel
theorem dX4_takePlain_88 : decode cX4_takePlain 88 = .ok (.invokestatic 200, 3) := by decide +kernel
theorem dX4_takePlain_91 : decode cX4_takePlain 91 = .ok (.ifCond .ne 46, 3) := by decide +kernel
theorem dX4_takePlain_94 : decode cX4_takePlain 94 = .ok (.aload_n 0, 1) := by decide +kernel
theorem dX4_takePlain_95 : decode cX4_takePlain 95 = .ok (.bipush 12, 2) := by decide +kernel
theorem dX4_takePlain_97 : decode cX4_takePlain 97 = .ok (.iload 5, 2) := by decide +kernel
theorem dX4_takePlain_99 : decode cX4_takePlain 99 = .ok (.invokevirtual 86, 3) := by decide +kernel
theorem dX4_takePlain_102 : decode cX4_takePlain 102 = .ok (.goto 35, 3) := by decide +kernel
theorem dX4_takePlain_105 : decode cX4_takePlain 105 = .ok (.aload_n 0, 1) := by decide +kernel
theorem dX4_takePlain_106 : decode cX4_takePlain 106 = .ok (.invokevirtual 204, 3) := by decide +kernel
theorem dX4_takePlain_109 : decode cX4_takePlain 109 = .ok (.lstore 7, 2) := by decide +kernel
theorem dX4_takePlain_111 : decode cX4_takePlain 111 = .ok (.goto 26, 3) := by decide +kernel
theorem dX4_takePlain_114 : decode cX4_takePlain 114 = .ok (.aload_n 0, 1) := by decide +kernel
theorem dX4_takePlain_115 : decode cX4_takePlain 115 = .ok (.iload 5, 2) := by decide +kernel
theorem dX4_takePlain_117 : decode cX4_takePlain 117 = .ok (.bipush 12, 2) := by decide +kernel
theorem dX4_takePlain_119 : decode cX4_takePlain 119 = .ok (.invokevirtual 108, 3) := by decide +kernel
theorem dX4_takePlain_122 : decode cX4_takePlain 122 = .ok (.istore 6, 2) := by decide +kernel
theorem dX4_takePlain_124 : decode cX4_takePlain 124 = .ok (.aload_n 0, 1) := by decide +kernel
theorem dX4_takePlain_125 : decode cX4_takePlain 125 = .ok (.iload 5, 2) := by decide +kernel
theorem dX4_takePlain_127 : decode cX4_takePlain 127 = .ok (.iload 6, 2) := by decide +kernel
theorem dX4_takePlain_129 : decode cX4_takePlain 129 = .ok (.invokevirtual 208, 3) := by decide +kernel
theorem dX4_takePlain_132 : decode cX4_takePlain 132 = .ok (.lstore 7, 2) := by decide +kernel
theorem dX4_takePlain_134 : decode cX4_takePlain 134 = .ok (.goto 3, 3) := by decide +kernel
theorem dX4_takePlain_137 : decode cX4_takePlain 137 = .ok (.iload_n 1, 1) := by decide +kernel
theorem dX4_takePlain_138 : decode cX4_takePlain 138 = .ok (.iconst 4, 1) := by decide +kernel
theorem dX4_takePlain_139 : decode cX4_takePlain 139 = .ok (.if_icmp .eq 19, 3) := by decide +kernel
theorem dX4_takePlain_142 : decode cX4_takePlain 142 = .ok (.aload_n 0, 1) := by decide +kernel
theorem dX4_takePlain_143 : decode cX4_takePlain 143 = .ok (.getfield 37, 3) := by decide +kernel
theorem dX4_takePlain_146 : decode cX4_takePlain 146 = .ok (.iload_n 2, 1) := by decide +kernel
theorem dX4_takePlain_147 : decode cX4_takePlain 147 = .ok (.invokevirtual 99, 3) := by decide +kernel
theorem dX4_takePlain_150 : decode cX4_takePlain 150 = .ok (.iconst 4, 1) := by decide +kernel
theorem dX4_takePlain_151 : decode cX4_takePlain 151 = .ok (.if_icmp .ne 7, 3) := by decide +kernel
theorem dX4_takePlain_154 : decode cX4_takePlain 154 = .ok (.iconst 1, 1) := by decide +kernel
theorem dX4_takePlain_155 : decode cX4_takePlain 155 = .ok (.goto 4, 3) := by decide +kernel
theorem dX4_takePlain_158 : decode cX4_takePlain 158 = .ok (.iconst 0, 1) := by decide +kernel
theorem dX4_takePlain_159 : decode cX4_takePlain 159 = .ok (.istore 9, 2) := by decide +kernel
theorem dX4_takePlain_161 : decode cX4_takePlain 161 = .ok (.aload_n 0, 1) := by decide +kernel
theorem dX4_takePlain_162 : decode cX4_takePlain 162 = .ok (.iload_n 2, 1) := by decide +kernel
theorem dX4_takePlain_163 : decode cX4_takePlain 163 = .ok (.iload_n 3, 1) := by decide +kernel
theorem dX4_takePlain_164 : decode cX4_takePlain 164 = .ok (.iload 4, 2) := by decide +kernel
theorem dX4_takePlain_166 : decode cX4_takePlain 166 = .ok (.iload 6, 2) := by decide +kernel
theorem dX4_takePlain_168 : decode cX4_takePlain 168 = .ok (.iload 9, 2) := by decide +kernel
theorem dX4_takePlain_170 : decode cX4_takePlain 170 = .ok (.ifCond .eq 11, 3) := by decide +kernel
theorem dX4_takePlain_173 : decode cX4_takePlain 173 = .ok (.lload 7, 2) := by decide +kernel
theorem dX4_takePlain_175 : decode cX4_takePlain 175 = .ok (.invokestatic 211, 3) := by decide +kernel
theorem dX4_takePlain_178 : decode cX4_takePlain 178 = .ok (.goto 5, 3) := by decide +kernel
theorem dX4_takePlain_181 : decode cX4_takePlain 181 = .ok (.lload 7, 2) := by decide +kernel
theorem dX4_takePlain_183 : decode cX4_takePlain 183 = .ok (.invokevirtual 155, 3) := by decide +kernel
theorem dX4_takePlain_186 : decode cX4_takePlain 186 = .ok (.pop, 1) := by decide +kernel
theorem dX4_takePlain_187 : decode cX4_takePlain 187 = .ok (.return_, 1) := by decide +kernel
theorem dX4_takeReal_0 : decode cX4_takeReal 0 = .ok (.lconst 0, 1) := by decide +kernel
theorem dX4_takeReal_1 : decode cX4_takeReal 1 = .ok (.lstore_n 1, 1) := by decide +kernel
theorem dX4_takeReal_2 : decode cX4_takeReal 2 = .ok (.iconst 0, 1) := by decide +kernel
theorem dX4_takeReal_3 : decode cX4_takeReal 3 = .ok (.istore_n 3, 1) := by decide +kernel
theorem dX4_takeReal_4 : decode cX4_takeReal 4 = .ok (.iload_n 3, 1) := by decide +kernel
theorem dX4_takeReal_5 : decode cX4_takeReal 5 = .ok (.bipush 8, 2) := by decide +kernel
theorem dX4_takeReal_7 : decode cX4_takeReal 7 = .ok (.if_icmp .ge 20, 3) := by decide +kernel
theorem dX4_takeReal_10 : decode cX4_takeReal 10 = .ok (.lload_n 1, 1) := by decide +kernel
theorem dX4_takeReal_11 : decode cX4_takeReal 11 = .ok (.bipush 8, 2) := by decide +kernel
theorem dX4_takeReal_13 : decode cX4_takeReal 13 = .ok (.lshl, 1) := by decide +kernel
theorem dX4_takeReal_14 : decode cX4_takeReal 14 = .ok (.aload_n 0, 1) := by decide +kernel
theorem dX4_takeReal_15 : decode cX4_takeReal 15 = .ok (.invokevirtual 192, 3) := by decide +kernel
theorem dX4_takeReal_18 : decode cX4_takeReal 18 = .ok (.i2l, 1) := by decide +kernel
theorem dX4_takeReal_19 : decode cX4_takeReal 19 = .ok (.lor, 1) := by decide +kernel
theorem dX4_takeReal_20 : decode cX4_takeReal 20 = .ok (.lstore_n 1, 1) := by decide +kernel
theorem dX4_takeReal_21 : decode cX4_takeReal 21 = .ok (.iinc 3 1, 3) := by decide +kernel
theorem dX4_takeReal_24 : decode cX4_takeReal 24 = .ok (.goto (-20), 3) := by decide +kernel
theorem dX4_takeReal_27 : decode cX4_takeReal 27 = .ok (.lload_n 1, 1) := by decide +kernel
theorem dX4_takeReal_28 : decode cX4_takeReal 28 = .ok (.ldc2_w 220, 3) := by decide +kernel
theorem dX4_takeReal_31 : decode cX4_takeReal 31 = .ok (.land, 1) := by decide +kernel
theorem dX4_takeReal_32 : decode cX4_takeReal 32 = .ok (.ldc2_w 222, 3) := by decide +kernel
theorem dX4_takeReal_35 : decode cX4_takeReal 35 = .ok (.lcmp, 1) := by decide +kernel
theorem dX4_takeReal_36 : decode cX4_takeReal 36 = .ok (.ifCond .le 7, 3) := by decide +kernel
theorem dX4_takeReal_39 : decode cX4_takeReal 39 = .ok (.iconst 1, 1) := by decide +kernel
theorem dX4_takeReal_40 : decode cX4_takeReal 40 = .ok (.goto 4, 3) := by decide +kernel
theorem dX4_takeReal_43 : decode cX4_takeReal 43 = .ok (.iconst 0, 1) := by decide +kernel
theorem dX4_takeReal_44 : decode cX4_takeReal 44 = .ok (.istore_n 3, 1) := by decide +kernel
theorem dX4_takeReal_45 : decode cX4_takeReal 45 = .ok (.iload_n 3, 1) := by decide +kernel
theorem dX4_takeReal_46 : decode cX4_takeReal 46 = .ok (.ifCond .eq 9, 3) := by decide +kernel
theorem dX4_takeReal_49 : decode cX4_takeReal 49 = .ok (.ldc2_w 224, 3) := by decide +kernel
theorem dX4_takeReal_52 : decode cX4_takeReal 52 = .ok (.goto 4, 3) := by decide +kernel
theorem dX4_takeReal_55 : decode cX4_takeReal 55 = .ok (.lload_n 1, 1) := by decide +kernel
theorem dX4_takeReal_56 : decode cX4_takeReal 56 = .ok (.lreturn, 1) := by decide +kernel
def f_X4_addNode_63 (b : Nat) (t : Nat) (x4 : Int32) (x5 : Int64) (x7 : Int32) (σ : ST) : Option (Int32 × ST) := if σ.2.2.2 b = t then ((f_X7_setWorth t x7 x4 x5 σ).bind fun q2 => some (x7, q2)) else none
def f_X4_addNode_48 (b : Nat) (t : Nat) (x4 : Int32) (x5 : Int64) (y0 : Int32) (σ : ST) : Option (Int32 × ST) := if y0 = (-1) then ((f_X4_fail b t 15 (-1) σ).bind fun q1 => f_X4_addNode_63 b t x4 x5 y0 q1) else (f_X4_addNode_63 b t x4 x5 y0 σ)
def f_X4_addNode (b : Nat) (t : Nat) (p0 : Int32) (p1 : Int32) (p2 : Int32) (p3 : Int32) (p4 : Int64) (σ : ST) : Option (Int32 × ST) := if p0 = (-1) then (some ((-1), σ)) else (if (σ.1 b 7) = 0 then (if σ.2.2.2 b = t then (if 400 ≤ (σ.1 t 1) then (f_X4_addNode_48 b t p3 p4 (-1) σ) else ((f_X5_sortOf 4 p0 σ).bind fun q2 => (f_X7_grow t q2.1 p1 p2 q2.2).bind fun q4 => f_X4_addNode_48 b t p3 p4 q4.1 q4.2)) else none) else (some ((-1), σ)))

set_option maxRecDepth 100000 in
set_option maxHeartbeats 4000000 in
theorem b_X4_addNode_63_89_50 {p : Program} {l : Launch} {e : Env} {s : State} {m : MethodId} {args : Array Value} {below : List Frame} {meth : Method} {c : Code} {dC : Nat → ClassId} {dI : Nat → Nat → Nat} {a : Nat → Nat} {k : Nat → ClassId} {A : Nat → Prop} {q : Int32 × ST} (hC : CxA p s m args meth c dC dI k A cX4_addNode RX4 (some .int) 8)   {x4 : Int32} {x5 : Int64} {x7 : Int32} {σ : ST} (h : f_X4_addNode_63 89 50 x4 x5 x7 σ = some q) : GoA p l e ({ frames := 3, cells := 0, slots := 0, locals := 71 } : Room) s m args below meth c (MQ below (qAi dC dI a k A q) args s 0 0 A) dC dI a k A 8 63 σ [(0, .ref (a 89)), (4, .int x4), (5, .long x5), (7, .int x7)] [] := by
  have hC0 := hC
  obtain ⟨hx, hb, hr, hml, hown, hts, hlocks, hA, hN, hK⟩ := hC0
  intro H locs ls hP hD hS hl
  have hD0 : ∀ σ1 : ST, va_D A (wA a k σ1) := fun σ1 => wA_D hD
  unfold f_X4_addNode_63 at h
  refine lv_aload_n hx hb dX4_addNode_63 rfl (lv_at hl 0 rfl) ?_
  refine va_get (D := (dC, dI)) (ci := 4) (C := RX4) (T := TX4) (N := 12) hx hb hts inlX4 hown hK hP 89 gA_89 rfl 3 (by decide) (hts (.fieldLink RX4 49 "ShapeReader$Reading" "tree" "LShapeReader$Tree;") mw_11_1) (fun _ h9 => h9) rfl dX4_addNode_64 ?_
  obtain ⟨hg1, h⟩ := ig h
  rw [show σ.2.2.2 89 = 50 from hg1]
  refine lv_iload hx hb dX4_addNode_67 (lv_at hl 3 rfl) ?_
  refine lv_iload hx hb dX4_addNode_69 (lv_at hl 1 rfl) ?_
  refine lv_lload hx hb dX4_addNode_71 (lv_at hl 2 rfl) ?_
  obtain ⟨q2, hc, h⟩ := ib h
  have hF := va_frees hD hS hA
  refine va_callv (va_runV (As := [.int x7, .int x4, .long x5]) (rest := []) ⟨hx, hb, hml, hown, hts⟩ (s_X7_setWorth_50 hc) (cwV 3 hts (gV mw_13_2 mw_13_3 mw_13_4 mw_0_11 mw_51_27) rfl rfl rfl (by decide +kernel) ⟨(Nat.le_of_ble_eq_true rfl), (Nat.le_of_ble_eq_true rfl)⟩) (vV (ci := 7) (q0 := 50) hK hP hD hN rfl gA_50) rfl rfl hl.1 rfl (lv_room (Nat.le_of_ble_eq_true rfl)) dX4_addNode_73 ⟨(Nat.le_of_ble_eq_true rfl), (Nat.le_of_ble_eq_true rfl)⟩) hS (fun q _ h => hF q h) hF (fun u t H locs ht hvm hw hB _ _ hS => ?_)
  replace hP : va_P (dC, dI) vwCl (wA a k q2) H := by rw [← ht]; exact hB.1
  replace hD := hD0 (q2)
  clear hB hF
  refine lv_iload hx hb dX4_addNode_76 (lv_at hl 3 rfl) ?_
  obtain rfl := Option.some.inj h
  exact W.iret hx hb hr (fun t ht hW => ⟨⟨_, (), rfl, rfl, ⟨by rw [ht]; exact hP, va_K.moved hW.alike hK, hD⟩⟩, hS.F ht⟩) hS.2.2 dX4_addNode_78

set_option maxRecDepth 100000 in
set_option maxHeartbeats 4000000 in
theorem b_X4_addNode_48_89_50 {p : Program} {l : Launch} {e : Env} {s : State} {m : MethodId} {args : Array Value} {below : List Frame} {meth : Method} {c : Code} {dC : Nat → ClassId} {dI : Nat → Nat → Nat} {a : Nat → Nat} {k : Nat → ClassId} {A : Nat → Prop} {q : Int32 × ST} (hC : CxA p s m args meth c dC dI k A cX4_addNode RX4 (some .int) 8)   {x4 : Int32} {x5 : Int64} {y0 : Int32} {σ : ST} (h : f_X4_addNode_48 89 50 x4 x5 y0 σ = some q) : GoA p l e ({ frames := 3, cells := 0, slots := 0, locals := 71 } : Room) s m args below meth c (MQ below (qAi dC dI a k A q) args s 0 0 A) dC dI a k A 8 48 σ [(0, .ref (a 89)), (4, .int x4), (5, .long x5)] [.int y0] := by
  have hC0 := hC
  obtain ⟨hx, hb, hr, hml, hown, hts, hlocks, hA, hN, hK⟩ := hC0
  intro H locs ls hP hD hS hl
  have hD0 : ∀ σ1 : ST, va_D A (wA a k σ1) := fun σ1 => wA_D hD
  unfold f_X4_addNode_48 at h
  refine lv_istore (lv' := [(7, .int y0), (0, .ref (a 89)), (4, .int x4), (5, .long x5)]) hx hb dX4_addNode_48 hl (by decide) rfl (fun ls hl => ?_)
  refine lv_iload hx hb dX4_addNode_50 (lv_at hl 0 rfl) ?_
  refine lv_iconst (v := (-1)) hx hb dX4_addNode_52 (by decide) ?_
  refine lv_icmp_ne (tgt := 63) hx hb dX4_addNode_53 (by decide) (fun hc => ?_) (fun hc => ?_)
  · replace h := iq hc h
    exact b_X4_addNode_63_89_50 hC h _ _ _ hP hD hS (lv_sub hl [1, 2, 3, 0] rfl)
  · replace h := ip hc h
    refine lv_aload_n hx hb dX4_addNode_56 rfl (lv_at hl 1 rfl) ?_
    refine lv_bipush (v := 15) hx hb dX4_addNode_57 (by decide) ?_
    refine lv_iconst (v := (-1)) hx hb dX4_addNode_59 (by decide) ?_
    obtain ⟨q1, hc, h⟩ := ib h
    have hF := va_frees hD hS hA
    refine va_callv (va_runV (As := [.int 15, .int (-1)]) (rest := []) ⟨hx, hb, hml, hown, hts⟩ (s_X4_fail_89_50 hc) (cwV 2 hts (gV mw_11_15 mw_11_16 mw_11_17 mw_0_8 mw_49_2) rfl rfl rfl (by decide +kernel) ⟨(Nat.le_of_ble_eq_true rfl), (Nat.le_of_ble_eq_true rfl)⟩) (vV (ci := 4) (q0 := 89) hK hP hD hN rfl gA_89) rfl rfl hl.1 rfl (lv_room (Nat.le_of_ble_eq_true rfl)) dX4_addNode_60 ⟨(Nat.le_of_ble_eq_true rfl), (Nat.le_of_ble_eq_true rfl)⟩) hS (fun q _ h => hF q h) hF (fun u t H locs ht hvm hw hB _ _ hS => ?_)
    replace hP : va_P (dC, dI) vwCl (wA a k q1) H := by rw [← ht]; exact hB.1
    replace hD := hD0 (q1)
    clear hB hF
    exact b_X4_addNode_63_89_50 hC h _ _ _ hP hD hS (lv_sub hl [1, 2, 3, 0] rfl)

set_option maxRecDepth 100000 in
set_option maxHeartbeats 4000000 in
theorem b_X4_addNode_e_89_50 {p : Program} {l : Launch} {e : Env} {s : State} {m : MethodId} {args : Array Value} {below : List Frame} {meth : Method} {c : Code} {dC : Nat → ClassId} {dI : Nat → Nat → Nat} {a : Nat → Nat} {k : Nat → ClassId} {A : Nat → Prop} {q : Int32 × ST} (hC : CxA p s m args meth c dC dI k A cX4_addNode RX4 (some .int) 8)   {p0 : Int32} {p1 : Int32} {p2 : Int32} {p3 : Int32} {p4 : Int64} {σ : ST} (h : f_X4_addNode 89 50 p0 p1 p2 p3 p4 σ = some q) : GoA p l e ({ frames := 3, cells := 0, slots := 0, locals := 71 } : Room) s m args below meth c (MQ below (qAi dC dI a k A q) args s 0 0 A) dC dI a k A 8 0 σ (lv_args 0 [.ref (a 89), .int p0, .int p1, .int p2, .int p3, .long p4]) [] := by
  have hC0 := hC
  obtain ⟨hx, hb, hr, hml, hown, hts, hlocks, hA, hN, hK⟩ := hC0
  intro H locs ls hP hD hS hl
  have hD0 : ∀ σ1 : ST, va_D A (wA a k σ1) := fun σ1 => wA_D hD
  replace hl : lv_has ls 8 [(0, .ref (a 89)), (1, .int p0), (2, .int p1), (3, .int p2), (4, .int p3), (5, .long p4)] := hl
  unfold f_X4_addNode at h
  refine lv_iload_n hx hb dX4_addNode_0 rfl (lv_at hl 1 rfl) ?_
  refine lv_iconst (v := (-1)) hx hb dX4_addNode_1 (by decide) ?_
  refine lv_icmp_eq (tgt := 12) hx hb dX4_addNode_2 (by decide) (fun hc => ?_) (fun hc => ?_)
  · replace h := ip hc h
    refine lv_iconst (v := (-1)) hx hb dX4_addNode_12 (by decide) ?_
    obtain rfl := Option.some.inj h
    exact W.iret hx hb hr (fun t ht hW => ⟨⟨_, (), rfl, rfl, ⟨by rw [ht]; exact hP, va_K.moved hW.alike hK, hD⟩⟩, hS.F ht⟩) hS.2.2 dX4_addNode_13
  · replace h := iq hc h
    refine lv_aload_n hx hb dX4_addNode_5 rfl (lv_at hl 0 rfl) ?_
    refine va_get (D := (dC, dI)) (ci := 4) (C := RX4) (T := TX4) (N := 12) hx hb hts inlX4 hown hK hP 89 gA_89 rfl 7 (by decide) (hts (.fieldLink RX4 21 "ShapeReader$Reading" "failure" "I") mw_10_23) (fun _ h9 => h9) rfl dX4_addNode_6 ?_
    refine lv_if_eq (tgt := 14) hx hb dX4_addNode_9 (by decide) (fun hc => ?_) (fun hc => ?_)
    · replace h := ip hc h
      refine lv_aload_n hx hb dX4_addNode_14 rfl (lv_at hl 0 rfl) ?_
      refine va_get (D := (dC, dI)) (ci := 4) (C := RX4) (T := TX4) (N := 12) hx hb hts inlX4 hown hK hP 89 gA_89 rfl 3 (by decide) (hts (.fieldLink RX4 49 "ShapeReader$Reading" "tree" "LShapeReader$Tree;") mw_11_1) (fun _ h9 => h9) rfl dX4_addNode_15 ?_
      obtain ⟨hg1, h⟩ := ig h
      rw [show σ.2.2.2 89 = 50 from hg1]
      refine va_get (D := (dC, dI)) (ci := 7) (C := RX7) (T := TX7) (N := 13) hx hb hts inlX7 hown hK hP 50 gA_50 rfl 1 (by decide) (hts (.fieldLink RX4 92 "ShapeReader$Tree" "size" "I") mw_11_21) (fun _ h9 => h9) rfl dX4_addNode_18 ?_
      refine lv_sipush (v := 400) hx hb dX4_addNode_21 (by decide) ?_
      refine lv_icmp_ge (tgt := 47) hx hb dX4_addNode_24 (by decide) (fun hc => ?_) (fun hc => ?_)
      · replace h := ip hc h
        refine lv_iconst (v := (-1)) hx hb dX4_addNode_47 (by decide) ?_
        exact b_X4_addNode_48_89_50 hC h _ _ _ hP hD hS (lv_sub hl [0, 4, 5] rfl)
      · replace h := iq hc h
        refine lv_aload_n hx hb dX4_addNode_27 rfl (lv_at hl 0 rfl) ?_
        refine va_get (D := (dC, dI)) (ci := 4) (C := RX4) (T := TX4) (N := 12) hx hb hts inlX4 hown hK hP 89 gA_89 rfl 3 (by decide) (hts (.fieldLink RX4 49 "ShapeReader$Reading" "tree" "LShapeReader$Tree;") mw_11_1) (fun _ h9 => h9) rfl dX4_addNode_28 ?_
        rw [show σ.2.2.2 89 = 50 from hg1]
        refine lv_aload_n hx hb dX4_addNode_31 rfl (lv_at hl 0 rfl) ?_
        refine va_get (D := (dC, dI)) (ci := 4) (C := RX4) (T := TX4) (N := 12) hx hb hts inlX4 hown hK hP 89 gA_89 rfl 0 (by decide) (hts (.fieldLink RX4 37 "ShapeReader$Reading" "shapes" "LShapeReader$Shapes;") mw_10_28) (fun _ h9 => h9) rfl dX4_addNode_32 ?_
        refine lv_iload_n hx hb dX4_addNode_35 rfl (lv_at hl 1 rfl) ?_
        obtain ⟨q2, hc, h⟩ := ib h
        have hF := va_frees hD hS hA
        refine va_calli (va_runV (As := [.int p0]) (rest := [.ref (a 50)]) ⟨hx, hb, hml, hown, hts⟩ (s_X5_sortOf_4 hc) (cwV 1 hts (gV mw_11_25 mw_2_13 mw_2_14 mw_0_9 mw_50_6) rfl rfl rfl (by decide +kernel) ⟨(Nat.le_of_ble_eq_true rfl), (Nat.le_of_ble_eq_true rfl)⟩) (vV (ci := 5) (q0 := 4) hK hP hD hN rfl gA_4) rfl rfl hl.1 rfl (lv_room (Nat.le_of_ble_eq_true rfl)) dX4_addNode_36 ⟨(Nat.le_of_ble_eq_true rfl), (Nat.le_of_ble_eq_true rfl)⟩) hS (fun q _ h => hF q h) hF (fun r3 u t H locs ht hvm hw hB _ _ hS => ?_)
        obtain rfl : r3 = q2.1 := hw
        replace hP : va_P (dC, dI) vwCl (wA a k q2.2) H := by rw [← ht]; exact hB.1
        replace hD := hD0 (q2.2)
        clear hB hF
        refine lv_iload_n hx hb dX4_addNode_39 rfl (lv_at hl 2 rfl) ?_
        refine lv_iload_n hx hb dX4_addNode_40 rfl (lv_at hl 3 rfl) ?_
        obtain ⟨q4, hc, h⟩ := ib h
        have hF := va_frees hD hS hA
        refine va_calli (va_runV (As := [.int q2.1, .int p1, .int p2]) (rest := []) ⟨hx, hb, hml, hown, hts⟩ (s_X7_grow_50 hc) (cwV 3 hts (gV mw_12_29 mw_13_0 mw_13_1 mw_0_11 mw_51_25) rfl rfl rfl (by decide +kernel) ⟨(Nat.le_of_ble_eq_true rfl), (Nat.le_of_ble_eq_true rfl)⟩) (vV (ci := 7) (q0 := 50) hK hP hD hN rfl gA_50) rfl rfl hl.1 rfl (lv_room (Nat.le_of_ble_eq_true rfl)) dX4_addNode_41 ⟨(Nat.le_of_ble_eq_true rfl), (Nat.le_of_ble_eq_true rfl)⟩) hS (fun q _ h => hF q h) hF (fun r5 u t H locs ht hvm hw hB _ _ hS => ?_)
        obtain rfl : r5 = q4.1 := hw
        replace hP : va_P (dC, dI) vwCl (wA a k q4.2) H := by rw [← ht]; exact hB.1
        replace hD := hD0 (q4.2)
        clear hB hF
        refine lv_goto (tgt := 48) hx hb dX4_addNode_44 (by decide) ?_
        exact b_X4_addNode_48_89_50 hC h _ _ _ hP hD hS (lv_sub hl [0, 4, 5] rfl)
    · replace h := iq hc h
      refine lv_iconst (v := (-1)) hx hb dX4_addNode_12 (by decide) ?_
      obtain rfl := Option.some.inj h
      exact W.iret hx hb hr (fun t ht hW => ⟨⟨_, (), rfl, rfl, ⟨by rw [ht]; exact hP, va_K.moved hW.alike hK, hD⟩⟩, hS.F ht⟩) hS.2.2 dX4_addNode_13

theorem s_X4_addNode_89_50 {l : Launch} {dC : Nat → ClassId} {dI : Nat → Nat → Nat} {a : Nat → Nat} {k : Nat → ClassId} {sz : Nat} {p0 : Int32} {p1 : Int32} {p2 : Int32} {p3 : Int32} {p4 : Int64} {σ : ST} {q : Int32 × ST} (h : f_X4_addNode 89 50 p0 p1 p2 p3 p4 σ = some q) : Met l yX4_addNode (.code yX4_addNode cX4_addNode 8 (some .int) :: pw) ({ frames := 3, cells := 0, slots := 0, locals := 71 } : Room) (va_Pc [.ref (a 89), .int p0, .int p1, .int p2, .int p3, .long p4] (vPre dC dI (wA a k σ) (tA k) sz)) (qAi dC dI a k (va_A (wA a k σ) sz) q) 0 0 (va_A (wA a k σ) sz) := metA (fun A => qAi dC dI a k A q) (plainFor_of_name (by decide)) (Nat.le_of_ble_eq_true rfl) (fun _ _ _ _ _ _ _ _ hC => b_X4_addNode_e_89_50 hC h)

set_option maxRecDepth 100000 in
set_option maxHeartbeats 4000000 in
theorem b_X4_addNode_63_92_62 {p : Program} {l : Launch} {e : Env} {s : State} {m : MethodId} {args : Array Value} {below : List Frame} {meth : Method} {c : Code} {dC : Nat → ClassId} {dI : Nat → Nat → Nat} {a : Nat → Nat} {k : Nat → ClassId} {A : Nat → Prop} {q : Int32 × ST} (hC : CxA p s m args meth c dC dI k A cX4_addNode RX4 (some .int) 8)   {x4 : Int32} {x5 : Int64} {x7 : Int32} {σ : ST} (h : f_X4_addNode_63 92 62 x4 x5 x7 σ = some q) : GoA p l e ({ frames := 3, cells := 0, slots := 0, locals := 71 } : Room) s m args below meth c (MQ below (qAi dC dI a k A q) args s 0 0 A) dC dI a k A 8 63 σ [(0, .ref (a 92)), (4, .int x4), (5, .long x5), (7, .int x7)] [] := by
  have hC0 := hC
  obtain ⟨hx, hb, hr, hml, hown, hts, hlocks, hA, hN, hK⟩ := hC0
  intro H locs ls hP hD hS hl
  have hD0 : ∀ σ1 : ST, va_D A (wA a k σ1) := fun σ1 => wA_D hD
  unfold f_X4_addNode_63 at h
  refine lv_aload_n hx hb dX4_addNode_63 rfl (lv_at hl 0 rfl) ?_
  refine va_get (D := (dC, dI)) (ci := 4) (C := RX4) (T := TX4) (N := 12) hx hb hts inlX4 hown hK hP 92 gA_92 rfl 3 (by decide) (hts (.fieldLink RX4 49 "ShapeReader$Reading" "tree" "LShapeReader$Tree;") mw_11_1) (fun _ h9 => h9) rfl dX4_addNode_64 ?_
  obtain ⟨hg1, h⟩ := ig h
  rw [show σ.2.2.2 92 = 62 from hg1]
  refine lv_iload hx hb dX4_addNode_67 (lv_at hl 3 rfl) ?_
  refine lv_iload hx hb dX4_addNode_69 (lv_at hl 1 rfl) ?_
  refine lv_lload hx hb dX4_addNode_71 (lv_at hl 2 rfl) ?_
  obtain ⟨q2, hc, h⟩ := ib h
  have hF := va_frees hD hS hA
  refine va_callv (va_runV (As := [.int x7, .int x4, .long x5]) (rest := []) ⟨hx, hb, hml, hown, hts⟩ (s_X7_setWorth_62 hc) (cwV 3 hts (gV mw_13_2 mw_13_3 mw_13_4 mw_0_11 mw_51_27) rfl rfl rfl (by decide +kernel) ⟨(Nat.le_of_ble_eq_true rfl), (Nat.le_of_ble_eq_true rfl)⟩) (vV (ci := 7) (q0 := 62) hK hP hD hN rfl gA_62) rfl rfl hl.1 rfl (lv_room (Nat.le_of_ble_eq_true rfl)) dX4_addNode_73 ⟨(Nat.le_of_ble_eq_true rfl), (Nat.le_of_ble_eq_true rfl)⟩) hS (fun q _ h => hF q h) hF (fun u t H locs ht hvm hw hB _ _ hS => ?_)
  replace hP : va_P (dC, dI) vwCl (wA a k q2) H := by rw [← ht]; exact hB.1
  replace hD := hD0 (q2)
  clear hB hF
  refine lv_iload hx hb dX4_addNode_76 (lv_at hl 3 rfl) ?_
  obtain rfl := Option.some.inj h
  exact W.iret hx hb hr (fun t ht hW => ⟨⟨_, (), rfl, rfl, ⟨by rw [ht]; exact hP, va_K.moved hW.alike hK, hD⟩⟩, hS.F ht⟩) hS.2.2 dX4_addNode_78

set_option maxRecDepth 100000 in
set_option maxHeartbeats 4000000 in
theorem b_X4_addNode_48_92_62 {p : Program} {l : Launch} {e : Env} {s : State} {m : MethodId} {args : Array Value} {below : List Frame} {meth : Method} {c : Code} {dC : Nat → ClassId} {dI : Nat → Nat → Nat} {a : Nat → Nat} {k : Nat → ClassId} {A : Nat → Prop} {q : Int32 × ST} (hC : CxA p s m args meth c dC dI k A cX4_addNode RX4 (some .int) 8)   {x4 : Int32} {x5 : Int64} {y0 : Int32} {σ : ST} (h : f_X4_addNode_48 92 62 x4 x5 y0 σ = some q) : GoA p l e ({ frames := 3, cells := 0, slots := 0, locals := 71 } : Room) s m args below meth c (MQ below (qAi dC dI a k A q) args s 0 0 A) dC dI a k A 8 48 σ [(0, .ref (a 92)), (4, .int x4), (5, .long x5)] [.int y0] := by
  have hC0 := hC
  obtain ⟨hx, hb, hr, hml, hown, hts, hlocks, hA, hN, hK⟩ := hC0
  intro H locs ls hP hD hS hl
  have hD0 : ∀ σ1 : ST, va_D A (wA a k σ1) := fun σ1 => wA_D hD
  unfold f_X4_addNode_48 at h
  refine lv_istore (lv' := [(7, .int y0), (0, .ref (a 92)), (4, .int x4), (5, .long x5)]) hx hb dX4_addNode_48 hl (by decide) rfl (fun ls hl => ?_)
  refine lv_iload hx hb dX4_addNode_50 (lv_at hl 0 rfl) ?_
  refine lv_iconst (v := (-1)) hx hb dX4_addNode_52 (by decide) ?_
  refine lv_icmp_ne (tgt := 63) hx hb dX4_addNode_53 (by decide) (fun hc => ?_) (fun hc => ?_)
  · replace h := iq hc h
    exact b_X4_addNode_63_92_62 hC h _ _ _ hP hD hS (lv_sub hl [1, 2, 3, 0] rfl)
  · replace h := ip hc h
    refine lv_aload_n hx hb dX4_addNode_56 rfl (lv_at hl 1 rfl) ?_
    refine lv_bipush (v := 15) hx hb dX4_addNode_57 (by decide) ?_
    refine lv_iconst (v := (-1)) hx hb dX4_addNode_59 (by decide) ?_
    obtain ⟨q1, hc, h⟩ := ib h
    have hF := va_frees hD hS hA
    refine va_callv (va_runV (As := [.int 15, .int (-1)]) (rest := []) ⟨hx, hb, hml, hown, hts⟩ (s_X4_fail_92_62 hc) (cwV 2 hts (gV mw_11_15 mw_11_16 mw_11_17 mw_0_8 mw_49_2) rfl rfl rfl (by decide +kernel) ⟨(Nat.le_of_ble_eq_true rfl), (Nat.le_of_ble_eq_true rfl)⟩) (vV (ci := 4) (q0 := 92) hK hP hD hN rfl gA_92) rfl rfl hl.1 rfl (lv_room (Nat.le_of_ble_eq_true rfl)) dX4_addNode_60 ⟨(Nat.le_of_ble_eq_true rfl), (Nat.le_of_ble_eq_true rfl)⟩) hS (fun q _ h => hF q h) hF (fun u t H locs ht hvm hw hB _ _ hS => ?_)
    replace hP : va_P (dC, dI) vwCl (wA a k q1) H := by rw [← ht]; exact hB.1
    replace hD := hD0 (q1)
    clear hB hF
    exact b_X4_addNode_63_92_62 hC h _ _ _ hP hD hS (lv_sub hl [1, 2, 3, 0] rfl)

set_option maxRecDepth 100000 in
set_option maxHeartbeats 4000000 in
theorem b_X4_addNode_e_92_62 {p : Program} {l : Launch} {e : Env} {s : State} {m : MethodId} {args : Array Value} {below : List Frame} {meth : Method} {c : Code} {dC : Nat → ClassId} {dI : Nat → Nat → Nat} {a : Nat → Nat} {k : Nat → ClassId} {A : Nat → Prop} {q : Int32 × ST} (hC : CxA p s m args meth c dC dI k A cX4_addNode RX4 (some .int) 8)   {p0 : Int32} {p1 : Int32} {p2 : Int32} {p3 : Int32} {p4 : Int64} {σ : ST} (h : f_X4_addNode 92 62 p0 p1 p2 p3 p4 σ = some q) : GoA p l e ({ frames := 3, cells := 0, slots := 0, locals := 71 } : Room) s m args below meth c (MQ below (qAi dC dI a k A q) args s 0 0 A) dC dI a k A 8 0 σ (lv_args 0 [.ref (a 92), .int p0, .int p1, .int p2, .int p3, .long p4]) [] := by
  have hC0 := hC
  obtain ⟨hx, hb, hr, hml, hown, hts, hlocks, hA, hN, hK⟩ := hC0
  intro H locs ls hP hD hS hl
  have hD0 : ∀ σ1 : ST, va_D A (wA a k σ1) := fun σ1 => wA_D hD
  replace hl : lv_has ls 8 [(0, .ref (a 92)), (1, .int p0), (2, .int p1), (3, .int p2), (4, .int p3), (5, .long p4)] := hl
  unfold f_X4_addNode at h
  refine lv_iload_n hx hb dX4_addNode_0 rfl (lv_at hl 1 rfl) ?_
  refine lv_iconst (v := (-1)) hx hb dX4_addNode_1 (by decide) ?_
  refine lv_icmp_eq (tgt := 12) hx hb dX4_addNode_2 (by decide) (fun hc => ?_) (fun hc => ?_)
  · replace h := ip hc h
    refine lv_iconst (v := (-1)) hx hb dX4_addNode_12 (by decide) ?_
    obtain rfl := Option.some.inj h
    exact W.iret hx hb hr (fun t ht hW => ⟨⟨_, (), rfl, rfl, ⟨by rw [ht]; exact hP, va_K.moved hW.alike hK, hD⟩⟩, hS.F ht⟩) hS.2.2 dX4_addNode_13
  · replace h := iq hc h
    refine lv_aload_n hx hb dX4_addNode_5 rfl (lv_at hl 0 rfl) ?_
    refine va_get (D := (dC, dI)) (ci := 4) (C := RX4) (T := TX4) (N := 12) hx hb hts inlX4 hown hK hP 92 gA_92 rfl 7 (by decide) (hts (.fieldLink RX4 21 "ShapeReader$Reading" "failure" "I") mw_10_23) (fun _ h9 => h9) rfl dX4_addNode_6 ?_
    refine lv_if_eq (tgt := 14) hx hb dX4_addNode_9 (by decide) (fun hc => ?_) (fun hc => ?_)
    · replace h := ip hc h
      refine lv_aload_n hx hb dX4_addNode_14 rfl (lv_at hl 0 rfl) ?_
      refine va_get (D := (dC, dI)) (ci := 4) (C := RX4) (T := TX4) (N := 12) hx hb hts inlX4 hown hK hP 92 gA_92 rfl 3 (by decide) (hts (.fieldLink RX4 49 "ShapeReader$Reading" "tree" "LShapeReader$Tree;") mw_11_1) (fun _ h9 => h9) rfl dX4_addNode_15 ?_
      obtain ⟨hg1, h⟩ := ig h
      rw [show σ.2.2.2 92 = 62 from hg1]
      refine va_get (D := (dC, dI)) (ci := 7) (C := RX7) (T := TX7) (N := 13) hx hb hts inlX7 hown hK hP 62 gA_62 rfl 1 (by decide) (hts (.fieldLink RX4 92 "ShapeReader$Tree" "size" "I") mw_11_21) (fun _ h9 => h9) rfl dX4_addNode_18 ?_
      refine lv_sipush (v := 400) hx hb dX4_addNode_21 (by decide) ?_
      refine lv_icmp_ge (tgt := 47) hx hb dX4_addNode_24 (by decide) (fun hc => ?_) (fun hc => ?_)
      · replace h := ip hc h
        refine lv_iconst (v := (-1)) hx hb dX4_addNode_47 (by decide) ?_
        exact b_X4_addNode_48_92_62 hC h _ _ _ hP hD hS (lv_sub hl [0, 4, 5] rfl)
      · replace h := iq hc h
        refine lv_aload_n hx hb dX4_addNode_27 rfl (lv_at hl 0 rfl) ?_
        refine va_get (D := (dC, dI)) (ci := 4) (C := RX4) (T := TX4) (N := 12) hx hb hts inlX4 hown hK hP 92 gA_92 rfl 3 (by decide) (hts (.fieldLink RX4 49 "ShapeReader$Reading" "tree" "LShapeReader$Tree;") mw_11_1) (fun _ h9 => h9) rfl dX4_addNode_28 ?_
        rw [show σ.2.2.2 92 = 62 from hg1]
        refine lv_aload_n hx hb dX4_addNode_31 rfl (lv_at hl 0 rfl) ?_
        refine va_get (D := (dC, dI)) (ci := 4) (C := RX4) (T := TX4) (N := 12) hx hb hts inlX4 hown hK hP 92 gA_92 rfl 0 (by decide) (hts (.fieldLink RX4 37 "ShapeReader$Reading" "shapes" "LShapeReader$Shapes;") mw_10_28) (fun _ h9 => h9) rfl dX4_addNode_32 ?_
        refine lv_iload_n hx hb dX4_addNode_35 rfl (lv_at hl 1 rfl) ?_
        obtain ⟨q2, hc, h⟩ := ib h
        have hF := va_frees hD hS hA
        refine va_calli (va_runV (As := [.int p0]) (rest := [.ref (a 62)]) ⟨hx, hb, hml, hown, hts⟩ (s_X5_sortOf_4 hc) (cwV 1 hts (gV mw_11_25 mw_2_13 mw_2_14 mw_0_9 mw_50_6) rfl rfl rfl (by decide +kernel) ⟨(Nat.le_of_ble_eq_true rfl), (Nat.le_of_ble_eq_true rfl)⟩) (vV (ci := 5) (q0 := 4) hK hP hD hN rfl gA_4) rfl rfl hl.1 rfl (lv_room (Nat.le_of_ble_eq_true rfl)) dX4_addNode_36 ⟨(Nat.le_of_ble_eq_true rfl), (Nat.le_of_ble_eq_true rfl)⟩) hS (fun q _ h => hF q h) hF (fun r3 u t H locs ht hvm hw hB _ _ hS => ?_)
        obtain rfl : r3 = q2.1 := hw
        replace hP : va_P (dC, dI) vwCl (wA a k q2.2) H := by rw [← ht]; exact hB.1
        replace hD := hD0 (q2.2)
        clear hB hF
        refine lv_iload_n hx hb dX4_addNode_39 rfl (lv_at hl 2 rfl) ?_
        refine lv_iload_n hx hb dX4_addNode_40 rfl (lv_at hl 3 rfl) ?_
        obtain ⟨q4, hc, h⟩ := ib h
        have hF := va_frees hD hS hA
        refine va_calli (va_runV (As := [.int q2.1, .int p1, .int p2]) (rest := []) ⟨hx, hb, hml, hown, hts⟩ (s_X7_grow_62 hc) (cwV 3 hts (gV mw_12_29 mw_13_0 mw_13_1 mw_0_11 mw_51_25) rfl rfl rfl (by decide +kernel) ⟨(Nat.le_of_ble_eq_true rfl), (Nat.le_of_ble_eq_true rfl)⟩) (vV (ci := 7) (q0 := 62) hK hP hD hN rfl gA_62) rfl rfl hl.1 rfl (lv_room (Nat.le_of_ble_eq_true rfl)) dX4_addNode_41 ⟨(Nat.le_of_ble_eq_true rfl), (Nat.le_of_ble_eq_true rfl)⟩) hS (fun q _ h => hF q h) hF (fun r5 u t H locs ht hvm hw hB _ _ hS => ?_)
        obtain rfl : r5 = q4.1 := hw
        replace hP : va_P (dC, dI) vwCl (wA a k q4.2) H := by rw [← ht]; exact hB.1
        replace hD := hD0 (q4.2)
        clear hB hF
        refine lv_goto (tgt := 48) hx hb dX4_addNode_44 (by decide) ?_
        exact b_X4_addNode_48_92_62 hC h _ _ _ hP hD hS (lv_sub hl [0, 4, 5] rfl)
    · replace h := iq hc h
      refine lv_iconst (v := (-1)) hx hb dX4_addNode_12 (by decide) ?_
      obtain rfl := Option.some.inj h
      exact W.iret hx hb hr (fun t ht hW => ⟨⟨_, (), rfl, rfl, ⟨by rw [ht]; exact hP, va_K.moved hW.alike hK, hD⟩⟩, hS.F ht⟩) hS.2.2 dX4_addNode_13

theorem s_X4_addNode_92_62 {l : Launch} {dC : Nat → ClassId} {dI : Nat → Nat → Nat} {a : Nat → Nat} {k : Nat → ClassId} {sz : Nat} {p0 : Int32} {p1 : Int32} {p2 : Int32} {p3 : Int32} {p4 : Int64} {σ : ST} {q : Int32 × ST} (h : f_X4_addNode 92 62 p0 p1 p2 p3 p4 σ = some q) : Met l yX4_addNode (.code yX4_addNode cX4_addNode 8 (some .int) :: pw) ({ frames := 3, cells := 0, slots := 0, locals := 71 } : Room) (va_Pc [.ref (a 92), .int p0, .int p1, .int p2, .int p3, .long p4] (vPre dC dI (wA a k σ) (tA k) sz)) (qAi dC dI a k (va_A (wA a k σ) sz) q) 0 0 (va_A (wA a k σ) sz) := metA (fun A => qAi dC dI a k A q) (plainFor_of_name (by decide)) (Nat.le_of_ble_eq_true rfl) (fun _ _ _ _ _ _ _ _ hC => b_X4_addNode_e_92_62 hC h)

set_option maxRecDepth 100000 in
set_option maxHeartbeats 4000000 in
theorem b_X4_addNode_63_92_74 {p : Program} {l : Launch} {e : Env} {s : State} {m : MethodId} {args : Array Value} {below : List Frame} {meth : Method} {c : Code} {dC : Nat → ClassId} {dI : Nat → Nat → Nat} {a : Nat → Nat} {k : Nat → ClassId} {A : Nat → Prop} {q : Int32 × ST} (hC : CxA p s m args meth c dC dI k A cX4_addNode RX4 (some .int) 8)   {x4 : Int32} {x5 : Int64} {x7 : Int32} {σ : ST} (h : f_X4_addNode_63 92 74 x4 x5 x7 σ = some q) : GoA p l e ({ frames := 3, cells := 0, slots := 0, locals := 71 } : Room) s m args below meth c (MQ below (qAi dC dI a k A q) args s 0 0 A) dC dI a k A 8 63 σ [(0, .ref (a 92)), (4, .int x4), (5, .long x5), (7, .int x7)] [] := by
  have hC0 := hC
  obtain ⟨hx, hb, hr, hml, hown, hts, hlocks, hA, hN, hK⟩ := hC0
  intro H locs ls hP hD hS hl
  have hD0 : ∀ σ1 : ST, va_D A (wA a k σ1) := fun σ1 => wA_D hD
  unfold f_X4_addNode_63 at h
  refine lv_aload_n hx hb dX4_addNode_63 rfl (lv_at hl 0 rfl) ?_
  refine va_get (D := (dC, dI)) (ci := 4) (C := RX4) (T := TX4) (N := 12) hx hb hts inlX4 hown hK hP 92 gA_92 rfl 3 (by decide) (hts (.fieldLink RX4 49 "ShapeReader$Reading" "tree" "LShapeReader$Tree;") mw_11_1) (fun _ h9 => h9) rfl dX4_addNode_64 ?_
  obtain ⟨hg1, h⟩ := ig h
  rw [show σ.2.2.2 92 = 74 from hg1]
  refine lv_iload hx hb dX4_addNode_67 (lv_at hl 3 rfl) ?_
  refine lv_iload hx hb dX4_addNode_69 (lv_at hl 1 rfl) ?_
  refine lv_lload hx hb dX4_addNode_71 (lv_at hl 2 rfl) ?_
  obtain ⟨q2, hc, h⟩ := ib h
  have hF := va_frees hD hS hA
  refine va_callv (va_runV (As := [.int x7, .int x4, .long x5]) (rest := []) ⟨hx, hb, hml, hown, hts⟩ (s_X7_setWorth_74 hc) (cwV 3 hts (gV mw_13_2 mw_13_3 mw_13_4 mw_0_11 mw_51_27) rfl rfl rfl (by decide +kernel) ⟨(Nat.le_of_ble_eq_true rfl), (Nat.le_of_ble_eq_true rfl)⟩) (vV (ci := 7) (q0 := 74) hK hP hD hN rfl gA_74) rfl rfl hl.1 rfl (lv_room (Nat.le_of_ble_eq_true rfl)) dX4_addNode_73 ⟨(Nat.le_of_ble_eq_true rfl), (Nat.le_of_ble_eq_true rfl)⟩) hS (fun q _ h => hF q h) hF (fun u t H locs ht hvm hw hB _ _ hS => ?_)
  replace hP : va_P (dC, dI) vwCl (wA a k q2) H := by rw [← ht]; exact hB.1
  replace hD := hD0 (q2)
  clear hB hF
  refine lv_iload hx hb dX4_addNode_76 (lv_at hl 3 rfl) ?_
  obtain rfl := Option.some.inj h
  exact W.iret hx hb hr (fun t ht hW => ⟨⟨_, (), rfl, rfl, ⟨by rw [ht]; exact hP, va_K.moved hW.alike hK, hD⟩⟩, hS.F ht⟩) hS.2.2 dX4_addNode_78

set_option maxRecDepth 100000 in
set_option maxHeartbeats 4000000 in
theorem b_X4_addNode_48_92_74 {p : Program} {l : Launch} {e : Env} {s : State} {m : MethodId} {args : Array Value} {below : List Frame} {meth : Method} {c : Code} {dC : Nat → ClassId} {dI : Nat → Nat → Nat} {a : Nat → Nat} {k : Nat → ClassId} {A : Nat → Prop} {q : Int32 × ST} (hC : CxA p s m args meth c dC dI k A cX4_addNode RX4 (some .int) 8)   {x4 : Int32} {x5 : Int64} {y0 : Int32} {σ : ST} (h : f_X4_addNode_48 92 74 x4 x5 y0 σ = some q) : GoA p l e ({ frames := 3, cells := 0, slots := 0, locals := 71 } : Room) s m args below meth c (MQ below (qAi dC dI a k A q) args s 0 0 A) dC dI a k A 8 48 σ [(0, .ref (a 92)), (4, .int x4), (5, .long x5)] [.int y0] := by
  have hC0 := hC
  obtain ⟨hx, hb, hr, hml, hown, hts, hlocks, hA, hN, hK⟩ := hC0
  intro H locs ls hP hD hS hl
  have hD0 : ∀ σ1 : ST, va_D A (wA a k σ1) := fun σ1 => wA_D hD
  unfold f_X4_addNode_48 at h
  refine lv_istore (lv' := [(7, .int y0), (0, .ref (a 92)), (4, .int x4), (5, .long x5)]) hx hb dX4_addNode_48 hl (by decide) rfl (fun ls hl => ?_)
  refine lv_iload hx hb dX4_addNode_50 (lv_at hl 0 rfl) ?_
  refine lv_iconst (v := (-1)) hx hb dX4_addNode_52 (by decide) ?_
  refine lv_icmp_ne (tgt := 63) hx hb dX4_addNode_53 (by decide) (fun hc => ?_) (fun hc => ?_)
  · replace h := iq hc h
    exact b_X4_addNode_63_92_74 hC h _ _ _ hP hD hS (lv_sub hl [1, 2, 3, 0] rfl)
  · replace h := ip hc h
    refine lv_aload_n hx hb dX4_addNode_56 rfl (lv_at hl 1 rfl) ?_
    refine lv_bipush (v := 15) hx hb dX4_addNode_57 (by decide) ?_
    refine lv_iconst (v := (-1)) hx hb dX4_addNode_59 (by decide) ?_
    obtain ⟨q1, hc, h⟩ := ib h
    have hF := va_frees hD hS hA
    refine va_callv (va_runV (As := [.int 15, .int (-1)]) (rest := []) ⟨hx, hb, hml, hown, hts⟩ (s_X4_fail_92_74 hc) (cwV 2 hts (gV mw_11_15 mw_11_16 mw_11_17 mw_0_8 mw_49_2) rfl rfl rfl (by decide +kernel) ⟨(Nat.le_of_ble_eq_true rfl), (Nat.le_of_ble_eq_true rfl)⟩) (vV (ci := 4) (q0 := 92) hK hP hD hN rfl gA_92) rfl rfl hl.1 rfl (lv_room (Nat.le_of_ble_eq_true rfl)) dX4_addNode_60 ⟨(Nat.le_of_ble_eq_true rfl), (Nat.le_of_ble_eq_true rfl)⟩) hS (fun q _ h => hF q h) hF (fun u t H locs ht hvm hw hB _ _ hS => ?_)
    replace hP : va_P (dC, dI) vwCl (wA a k q1) H := by rw [← ht]; exact hB.1
    replace hD := hD0 (q1)
    clear hB hF
    exact b_X4_addNode_63_92_74 hC h _ _ _ hP hD hS (lv_sub hl [1, 2, 3, 0] rfl)

set_option maxRecDepth 100000 in
set_option maxHeartbeats 4000000 in
theorem b_X4_addNode_e_92_74 {p : Program} {l : Launch} {e : Env} {s : State} {m : MethodId} {args : Array Value} {below : List Frame} {meth : Method} {c : Code} {dC : Nat → ClassId} {dI : Nat → Nat → Nat} {a : Nat → Nat} {k : Nat → ClassId} {A : Nat → Prop} {q : Int32 × ST} (hC : CxA p s m args meth c dC dI k A cX4_addNode RX4 (some .int) 8)   {p0 : Int32} {p1 : Int32} {p2 : Int32} {p3 : Int32} {p4 : Int64} {σ : ST} (h : f_X4_addNode 92 74 p0 p1 p2 p3 p4 σ = some q) : GoA p l e ({ frames := 3, cells := 0, slots := 0, locals := 71 } : Room) s m args below meth c (MQ below (qAi dC dI a k A q) args s 0 0 A) dC dI a k A 8 0 σ (lv_args 0 [.ref (a 92), .int p0, .int p1, .int p2, .int p3, .long p4]) [] := by
  have hC0 := hC
  obtain ⟨hx, hb, hr, hml, hown, hts, hlocks, hA, hN, hK⟩ := hC0
  intro H locs ls hP hD hS hl
  have hD0 : ∀ σ1 : ST, va_D A (wA a k σ1) := fun σ1 => wA_D hD
  replace hl : lv_has ls 8 [(0, .ref (a 92)), (1, .int p0), (2, .int p1), (3, .int p2), (4, .int p3), (5, .long p4)] := hl
  unfold f_X4_addNode at h
  refine lv_iload_n hx hb dX4_addNode_0 rfl (lv_at hl 1 rfl) ?_
  refine lv_iconst (v := (-1)) hx hb dX4_addNode_1 (by decide) ?_
  refine lv_icmp_eq (tgt := 12) hx hb dX4_addNode_2 (by decide) (fun hc => ?_) (fun hc => ?_)
  · replace h := ip hc h
    refine lv_iconst (v := (-1)) hx hb dX4_addNode_12 (by decide) ?_
    obtain rfl := Option.some.inj h
    exact W.iret hx hb hr (fun t ht hW => ⟨⟨_, (), rfl, rfl, ⟨by rw [ht]; exact hP, va_K.moved hW.alike hK, hD⟩⟩, hS.F ht⟩) hS.2.2 dX4_addNode_13
  · replace h := iq hc h
    refine lv_aload_n hx hb dX4_addNode_5 rfl (lv_at hl 0 rfl) ?_
    refine va_get (D := (dC, dI)) (ci := 4) (C := RX4) (T := TX4) (N := 12) hx hb hts inlX4 hown hK hP 92 gA_92 rfl 7 (by decide) (hts (.fieldLink RX4 21 "ShapeReader$Reading" "failure" "I") mw_10_23) (fun _ h9 => h9) rfl dX4_addNode_6 ?_
    refine lv_if_eq (tgt := 14) hx hb dX4_addNode_9 (by decide) (fun hc => ?_) (fun hc => ?_)
    · replace h := ip hc h
      refine lv_aload_n hx hb dX4_addNode_14 rfl (lv_at hl 0 rfl) ?_
      refine va_get (D := (dC, dI)) (ci := 4) (C := RX4) (T := TX4) (N := 12) hx hb hts inlX4 hown hK hP 92 gA_92 rfl 3 (by decide) (hts (.fieldLink RX4 49 "ShapeReader$Reading" "tree" "LShapeReader$Tree;") mw_11_1) (fun _ h9 => h9) rfl dX4_addNode_15 ?_
      obtain ⟨hg1, h⟩ := ig h
      rw [show σ.2.2.2 92 = 74 from hg1]
      refine va_get (D := (dC, dI)) (ci := 7) (C := RX7) (T := TX7) (N := 13) hx hb hts inlX7 hown hK hP 74 gA_74 rfl 1 (by decide) (hts (.fieldLink RX4 92 "ShapeReader$Tree" "size" "I") mw_11_21) (fun _ h9 => h9) rfl dX4_addNode_18 ?_
      refine lv_sipush (v := 400) hx hb dX4_addNode_21 (by decide) ?_
      refine lv_icmp_ge (tgt := 47) hx hb dX4_addNode_24 (by decide) (fun hc => ?_) (fun hc => ?_)
      · replace h := ip hc h
        refine lv_iconst (v := (-1)) hx hb dX4_addNode_47 (by decide) ?_
        exact b_X4_addNode_48_92_74 hC h _ _ _ hP hD hS (lv_sub hl [0, 4, 5] rfl)
      · replace h := iq hc h
        refine lv_aload_n hx hb dX4_addNode_27 rfl (lv_at hl 0 rfl) ?_
        refine va_get (D := (dC, dI)) (ci := 4) (C := RX4) (T := TX4) (N := 12) hx hb hts inlX4 hown hK hP 92 gA_92 rfl 3 (by decide) (hts (.fieldLink RX4 49 "ShapeReader$Reading" "tree" "LShapeReader$Tree;") mw_11_1) (fun _ h9 => h9) rfl dX4_addNode_28 ?_
        rw [show σ.2.2.2 92 = 74 from hg1]
        refine lv_aload_n hx hb dX4_addNode_31 rfl (lv_at hl 0 rfl) ?_
        refine va_get (D := (dC, dI)) (ci := 4) (C := RX4) (T := TX4) (N := 12) hx hb hts inlX4 hown hK hP 92 gA_92 rfl 0 (by decide) (hts (.fieldLink RX4 37 "ShapeReader$Reading" "shapes" "LShapeReader$Shapes;") mw_10_28) (fun _ h9 => h9) rfl dX4_addNode_32 ?_
        refine lv_iload_n hx hb dX4_addNode_35 rfl (lv_at hl 1 rfl) ?_
        obtain ⟨q2, hc, h⟩ := ib h
        have hF := va_frees hD hS hA
        refine va_calli (va_runV (As := [.int p0]) (rest := [.ref (a 74)]) ⟨hx, hb, hml, hown, hts⟩ (s_X5_sortOf_4 hc) (cwV 1 hts (gV mw_11_25 mw_2_13 mw_2_14 mw_0_9 mw_50_6) rfl rfl rfl (by decide +kernel) ⟨(Nat.le_of_ble_eq_true rfl), (Nat.le_of_ble_eq_true rfl)⟩) (vV (ci := 5) (q0 := 4) hK hP hD hN rfl gA_4) rfl rfl hl.1 rfl (lv_room (Nat.le_of_ble_eq_true rfl)) dX4_addNode_36 ⟨(Nat.le_of_ble_eq_true rfl), (Nat.le_of_ble_eq_true rfl)⟩) hS (fun q _ h => hF q h) hF (fun r3 u t H locs ht hvm hw hB _ _ hS => ?_)
        obtain rfl : r3 = q2.1 := hw
        replace hP : va_P (dC, dI) vwCl (wA a k q2.2) H := by rw [← ht]; exact hB.1
        replace hD := hD0 (q2.2)
        clear hB hF
        refine lv_iload_n hx hb dX4_addNode_39 rfl (lv_at hl 2 rfl) ?_
        refine lv_iload_n hx hb dX4_addNode_40 rfl (lv_at hl 3 rfl) ?_
        obtain ⟨q4, hc, h⟩ := ib h
        have hF := va_frees hD hS hA
        refine va_calli (va_runV (As := [.int q2.1, .int p1, .int p2]) (rest := []) ⟨hx, hb, hml, hown, hts⟩ (s_X7_grow_74 hc) (cwV 3 hts (gV mw_12_29 mw_13_0 mw_13_1 mw_0_11 mw_51_25) rfl rfl rfl (by decide +kernel) ⟨(Nat.le_of_ble_eq_true rfl), (Nat.le_of_ble_eq_true rfl)⟩) (vV (ci := 7) (q0 := 74) hK hP hD hN rfl gA_74) rfl rfl hl.1 rfl (lv_room (Nat.le_of_ble_eq_true rfl)) dX4_addNode_41 ⟨(Nat.le_of_ble_eq_true rfl), (Nat.le_of_ble_eq_true rfl)⟩) hS (fun q _ h => hF q h) hF (fun r5 u t H locs ht hvm hw hB _ _ hS => ?_)
        obtain rfl : r5 = q4.1 := hw
        replace hP : va_P (dC, dI) vwCl (wA a k q4.2) H := by rw [← ht]; exact hB.1
        replace hD := hD0 (q4.2)
        clear hB hF
        refine lv_goto (tgt := 48) hx hb dX4_addNode_44 (by decide) ?_
        exact b_X4_addNode_48_92_74 hC h _ _ _ hP hD hS (lv_sub hl [0, 4, 5] rfl)
    · replace h := iq hc h
      refine lv_iconst (v := (-1)) hx hb dX4_addNode_12 (by decide) ?_
      obtain rfl := Option.some.inj h
      exact W.iret hx hb hr (fun t ht hW => ⟨⟨_, (), rfl, rfl, ⟨by rw [ht]; exact hP, va_K.moved hW.alike hK, hD⟩⟩, hS.F ht⟩) hS.2.2 dX4_addNode_13

theorem s_X4_addNode_92_74 {l : Launch} {dC : Nat → ClassId} {dI : Nat → Nat → Nat} {a : Nat → Nat} {k : Nat → ClassId} {sz : Nat} {p0 : Int32} {p1 : Int32} {p2 : Int32} {p3 : Int32} {p4 : Int64} {σ : ST} {q : Int32 × ST} (h : f_X4_addNode 92 74 p0 p1 p2 p3 p4 σ = some q) : Met l yX4_addNode (.code yX4_addNode cX4_addNode 8 (some .int) :: pw) ({ frames := 3, cells := 0, slots := 0, locals := 71 } : Room) (va_Pc [.ref (a 92), .int p0, .int p1, .int p2, .int p3, .long p4] (vPre dC dI (wA a k σ) (tA k) sz)) (qAi dC dI a k (va_A (wA a k σ) sz) q) 0 0 (va_A (wA a k σ) sz) := metA (fun A => qAi dC dI a k A q) (plainFor_of_name (by decide)) (Nat.le_of_ble_eq_true rfl) (fun _ _ _ _ _ _ _ _ hC => b_X4_addNode_e_92_74 hC h)

def f_X10_bitsOfPositive_81 (x2 : UInt64) (x4 : Int32) (σ : ST) : Option (Int64 × ST) := some ((((x4.toInt64) <<< ((52 : Int32).toInt64 &&& 63)) + ((FP.d2l x2) - 4503599627370496)), σ)
def f_X10_bitsOfPositive_51  : Nat → UInt64 → Int32 → Int32 → ST → Option (Int64 × ST)
  | 0, _, _, _, _ => none
  | n + 1, x2, x4, x5, σ => if 64 ≤ x5 then (f_X10_bitsOfPositive_81  x2 x4 σ) else (if 0 ≤ (Op.cmpValue (FP.dcmp x2 4841369599423283200) .g) then (f_X10_bitsOfPositive_81  x2 x4 σ) else (if (FP.dmul x2 4611686018427387904) &&& 0x7fffffffffffffff ≤ 0x7ff0000000000000 then (f_X10_bitsOfPositive_51  n (FP.dmul x2 4611686018427387904) (x4 + (-1)) (x5 + 1) σ) else none))
def f_X10_bitsOfPositive_48 (x2 : UInt64) (x4 : Int32) (σ : ST) : Option (Int64 × ST) := f_X10_bitsOfPositive_51  FU x2 x4 0 σ
def f_X10_bitsOfPositive_18  : Nat → UInt64 → Int32 → Int32 → ST → Option (Int64 × ST)
  | 0, _, _, _, _ => none
  | n + 1, x2, x4, x5, σ => if 64 ≤ x5 then (f_X10_bitsOfPositive_48  x2 x4 σ) else (if (Op.cmpValue (FP.dcmp x2 4845873199050653696) .l) < 0 then (f_X10_bitsOfPositive_48  x2 x4 σ) else (if (FP.ddiv x2 4611686018427387904) &&& 0x7fffffffffffffff ≤ 0x7ff0000000000000 then (f_X10_bitsOfPositive_18  n (FP.ddiv x2 4611686018427387904) (x4 + 1) (x5 + 1) σ) else none))
def f_X10_bitsOfPositive (p0 : UInt64) (σ : ST) : Option (Int64 × ST) := if 0 < (Op.cmpValue (FP.dcmp p0 FP.dconst0) .l) then (f_X10_bitsOfPositive_18  FU p0 1075 0 σ) else (some (0, σ))

set_option maxRecDepth 100000 in
set_option maxHeartbeats 4000000 in
theorem b_X10_bitsOfPositive_81 {p : Program} {l : Launch} {e : Env} {s : State} {m : MethodId} {args : Array Value} {below : List Frame} {meth : Method} {c : Code} {dC : Nat → ClassId} {dI : Nat → Nat → Nat} {a : Nat → Nat} {k : Nat → ClassId} {A : Nat → Prop} {q : Int64 × ST} (hC : CxA p s m args meth c dC dI k A cX10_bitsOfPositive RX10 (some .long) 6)   {x2 : UInt64} {x4 : Int32} {σ : ST} (h : f_X10_bitsOfPositive_81  x2 x4 σ = some q) : GoA p l e ({ frames := 0, cells := 0, slots := 0, locals := 0 } : Room) s m args below meth c (MQ below (qAl dC dI a k A q) args s 0 0 A) dC dI a k A 6 81 σ [(2, .double x2), (4, .int x4)] [] := by
  have hC0 := hC
  obtain ⟨hx, hb, hr, hml, hown, hts, hlocks, hA, hN, hK⟩ := hC0
  intro H locs ls hP hD hS hl
  have hD0 : ∀ σ1 : ST, va_D A (wA a k σ1) := fun σ1 => wA_D hD
  unfold f_X10_bitsOfPositive_81 at h
  refine lv_iload hx hb dX10_bitsOfPositive_81 (lv_at hl 1 rfl) ?_
  refine lv_i2l (v := x4.toInt64) hx hb dX10_bitsOfPositive_83 rfl ?_
  refine lv_bipush (v := 52) hx hb dX10_bitsOfPositive_84 (by decide) ?_
  refine lv_lshl (v := ((x4.toInt64) <<< ((52 : Int32).toInt64 &&& 63))) hx hb dX10_bitsOfPositive_86 rfl ?_
  refine lv_dload_n hx hb dX10_bitsOfPositive_87 rfl (lv_at hl 0 rfl) ?_
  refine lv_d2l hx hb dX10_bitsOfPositive_88 ?_
  refine lv_ldc2 (v := 4503599627370496) hx hb hown (hts (.constantLong RX10 318 (4503599627370496)) mw_26_21) dX10_bitsOfPositive_89 ?_
  refine lv_lsub hx hb dX10_bitsOfPositive_92 ?_
  refine lv_ladd hx hb dX10_bitsOfPositive_93 ?_
  obtain rfl := Option.some.inj h
  exact W.lret hx hb hr (fun t ht hW => ⟨⟨_, (), rfl, rfl, ⟨by rw [ht]; exact hP, va_K.moved hW.alike hK, hD⟩⟩, hS.F ht⟩) hS.2.2 dX10_bitsOfPositive_94

set_option maxRecDepth 100000 in
set_option maxHeartbeats 4000000 in
theorem b_X10_bitsOfPositive_51 {p : Program} {l : Launch} {e : Env} {s : State} {m : MethodId} {args : Array Value} {below : List Frame} {meth : Method} {c : Code} {dC : Nat → ClassId} {dI : Nat → Nat → Nat} {a : Nat → Nat} {k : Nat → ClassId} {A : Nat → Prop} {q : Int64 × ST} (hC : CxA p s m args meth c dC dI k A cX10_bitsOfPositive RX10 (some .long) 6)   : ∀ (n : Nat) (x2 : UInt64) (x4 : Int32) (x5 : Int32) (σ : ST), f_X10_bitsOfPositive_51  n x2 x4 x5 σ = some q → GoA p l e ({ frames := 0, cells := 0, slots := 0, locals := 0 } : Room) s m args below meth c (MQ below (qAl dC dI a k A q) args s 0 0 A) dC dI a k A 6 51 σ [(2, .double x2), (4, .int x4), (5, .int x5)] [] := by
  intro n
  induction n with
  | zero =>
    intro x2 x4 x5 σ h
    rw [f_X10_bitsOfPositive_51] at h
    cases h
  | succ n ih =>
    intro x2 x4 x5 σ h
    have hC0 := hC
    obtain ⟨hx, hb, hr, hml, hown, hts, hlocks, hA, hN, hK⟩ := hC0
    intro H locs ls hP hD hS hl
    have hD0 : ∀ σ1 : ST, va_D A (wA a k σ1) := fun σ1 => wA_D hD
    rw [f_X10_bitsOfPositive_51] at h
    refine lv_iload hx hb dX10_bitsOfPositive_51 (lv_at hl 2 rfl) ?_
    refine lv_bipush (v := 64) hx hb dX10_bitsOfPositive_53 (by decide) ?_
    refine lv_icmp_ge (tgt := 81) hx hb dX10_bitsOfPositive_55 (by decide) (fun hc => ?_) (fun hc => ?_)
    · replace h := ip hc h
      exact b_X10_bitsOfPositive_81 hC h _ _ _ hP hD hS (lv_sub hl [0, 1] rfl)
    · replace h := iq hc h
      refine lv_dload_n hx hb dX10_bitsOfPositive_58 rfl (lv_at hl 0 rfl) ?_
      refine lv_ldc2d (v := 4841369599423283200) hx hb hown (hts (.constantDouble RX10 316 (4841369599423283200)) mw_26_20) dX10_bitsOfPositive_59 ?_
      refine lv_dcmp hx hb dX10_bitsOfPositive_62 ?_
      refine lv_if_ge (tgt := 81) hx hb dX10_bitsOfPositive_63 (by decide) (fun hc => ?_) (fun hc => ?_)
      · replace h := ip hc h
        exact b_X10_bitsOfPositive_81 hC h _ _ _ hP hD hS (lv_sub hl [0, 1] rfl)
      · replace h := iq hc h
        refine lv_dload_n hx hb dX10_bitsOfPositive_66 rfl (lv_at hl 0 rfl) ?_
        refine lv_ldc2d (v := 4611686018427387904) hx hb hown (hts (.constantDouble RX10 314 (4611686018427387904)) mw_26_19) dX10_bitsOfPositive_67 ?_
        obtain ⟨hg1, h⟩ := ig h
        refine lv_dmul hx hb dX10_bitsOfPositive_70 hg1 ?_
        refine lv_dstore_n (lv' := [(2, .double (FP.dmul x2 4611686018427387904)), (4, .int x4), (5, .int x5)]) hx hb dX10_bitsOfPositive_71 rfl hl (by decide) rfl (fun ls hl => ?_)
        refine lv_iinc (v := (x4 + (-1))) (lv' := [(4, .int (x4 + (-1))), (2, .double (FP.dmul x2 4611686018427387904)), (5, .int x5)]) hx hb dX10_bitsOfPositive_72 hl (k := 1) rfl rfl (by decide) rfl (fun ls hl => ?_)
        refine lv_iinc (v := (x5 + 1)) (lv' := [(5, .int (x5 + 1)), (4, .int (x4 + (-1))), (2, .double (FP.dmul x2 4611686018427387904))]) hx hb dX10_bitsOfPositive_75 hl (k := 2) rfl rfl (by decide) rfl (fun ls hl => ?_)
        refine lv_goto (tgt := 51) hx hb dX10_bitsOfPositive_78 (by decide) ?_
        exact ih _ _ _ _ h _ _ _ hP hD hS (lv_sub hl [2, 1, 0] rfl)

set_option maxRecDepth 100000 in
set_option maxHeartbeats 4000000 in
theorem b_X10_bitsOfPositive_48 {p : Program} {l : Launch} {e : Env} {s : State} {m : MethodId} {args : Array Value} {below : List Frame} {meth : Method} {c : Code} {dC : Nat → ClassId} {dI : Nat → Nat → Nat} {a : Nat → Nat} {k : Nat → ClassId} {A : Nat → Prop} {q : Int64 × ST} (hC : CxA p s m args meth c dC dI k A cX10_bitsOfPositive RX10 (some .long) 6)   {x2 : UInt64} {x4 : Int32} {σ : ST} (h : f_X10_bitsOfPositive_48  x2 x4 σ = some q) : GoA p l e ({ frames := 0, cells := 0, slots := 0, locals := 0 } : Room) s m args below meth c (MQ below (qAl dC dI a k A q) args s 0 0 A) dC dI a k A 6 48 σ [(2, .double x2), (4, .int x4)] [] := by
  have hC0 := hC
  obtain ⟨hx, hb, hr, hml, hown, hts, hlocks, hA, hN, hK⟩ := hC0
  intro H locs ls hP hD hS hl
  have hD0 : ∀ σ1 : ST, va_D A (wA a k σ1) := fun σ1 => wA_D hD
  unfold f_X10_bitsOfPositive_48 at h
  refine lv_iconst (v := 0) hx hb dX10_bitsOfPositive_48 (by decide) ?_
  refine lv_istore (lv' := [(5, .int 0), (2, .double x2), (4, .int x4)]) hx hb dX10_bitsOfPositive_49 hl (by decide) rfl (fun ls hl => ?_)
  exact b_X10_bitsOfPositive_51 hC FU _ _ _ _ h _ _ _ hP hD hS (lv_sub hl [1, 2, 0] rfl)

set_option maxRecDepth 100000 in
set_option maxHeartbeats 4000000 in
theorem b_X10_bitsOfPositive_18 {p : Program} {l : Launch} {e : Env} {s : State} {m : MethodId} {args : Array Value} {below : List Frame} {meth : Method} {c : Code} {dC : Nat → ClassId} {dI : Nat → Nat → Nat} {a : Nat → Nat} {k : Nat → ClassId} {A : Nat → Prop} {q : Int64 × ST} (hC : CxA p s m args meth c dC dI k A cX10_bitsOfPositive RX10 (some .long) 6)   : ∀ (n : Nat) (x2 : UInt64) (x4 : Int32) (x5 : Int32) (σ : ST), f_X10_bitsOfPositive_18  n x2 x4 x5 σ = some q → GoA p l e ({ frames := 0, cells := 0, slots := 0, locals := 0 } : Room) s m args below meth c (MQ below (qAl dC dI a k A q) args s 0 0 A) dC dI a k A 6 18 σ [(2, .double x2), (4, .int x4), (5, .int x5)] [] := by
  intro n
  induction n with
  | zero =>
    intro x2 x4 x5 σ h
    rw [f_X10_bitsOfPositive_18] at h
    cases h
  | succ n ih =>
    intro x2 x4 x5 σ h
    have hC0 := hC
    obtain ⟨hx, hb, hr, hml, hown, hts, hlocks, hA, hN, hK⟩ := hC0
    intro H locs ls hP hD hS hl
    have hD0 : ∀ σ1 : ST, va_D A (wA a k σ1) := fun σ1 => wA_D hD
    rw [f_X10_bitsOfPositive_18] at h
    refine lv_iload hx hb dX10_bitsOfPositive_18 (lv_at hl 2 rfl) ?_
    refine lv_bipush (v := 64) hx hb dX10_bitsOfPositive_20 (by decide) ?_
    refine lv_icmp_ge (tgt := 48) hx hb dX10_bitsOfPositive_22 (by decide) (fun hc => ?_) (fun hc => ?_)
    · replace h := ip hc h
      exact b_X10_bitsOfPositive_48 hC h _ _ _ hP hD hS (lv_sub hl [0, 1] rfl)
    · replace h := iq hc h
      refine lv_dload_n hx hb dX10_bitsOfPositive_25 rfl (lv_at hl 0 rfl) ?_
      refine lv_ldc2d (v := 4845873199050653696) hx hb hown (hts (.constantDouble RX10 312 (4845873199050653696)) mw_26_18) dX10_bitsOfPositive_26 ?_
      refine lv_dcmp hx hb dX10_bitsOfPositive_29 ?_
      refine lv_if_lt (tgt := 48) hx hb dX10_bitsOfPositive_30 (by decide) (fun hc => ?_) (fun hc => ?_)
      · replace h := ip hc h
        exact b_X10_bitsOfPositive_48 hC h _ _ _ hP hD hS (lv_sub hl [0, 1] rfl)
      · replace h := iq hc h
        refine lv_dload_n hx hb dX10_bitsOfPositive_33 rfl (lv_at hl 0 rfl) ?_
        refine lv_ldc2d (v := 4611686018427387904) hx hb hown (hts (.constantDouble RX10 314 (4611686018427387904)) mw_26_19) dX10_bitsOfPositive_34 ?_
        obtain ⟨hg1, h⟩ := ig h
        refine lv_ddiv hx hb dX10_bitsOfPositive_37 hg1 ?_
        refine lv_dstore_n (lv' := [(2, .double (FP.ddiv x2 4611686018427387904)), (4, .int x4), (5, .int x5)]) hx hb dX10_bitsOfPositive_38 rfl hl (by decide) rfl (fun ls hl => ?_)
        refine lv_iinc (v := (x4 + 1)) (lv' := [(4, .int (x4 + 1)), (2, .double (FP.ddiv x2 4611686018427387904)), (5, .int x5)]) hx hb dX10_bitsOfPositive_39 hl (k := 1) rfl rfl (by decide) rfl (fun ls hl => ?_)
        refine lv_iinc (v := (x5 + 1)) (lv' := [(5, .int (x5 + 1)), (4, .int (x4 + 1)), (2, .double (FP.ddiv x2 4611686018427387904))]) hx hb dX10_bitsOfPositive_42 hl (k := 2) rfl rfl (by decide) rfl (fun ls hl => ?_)
        refine lv_goto (tgt := 18) hx hb dX10_bitsOfPositive_45 (by decide) ?_
        exact ih _ _ _ _ h _ _ _ hP hD hS (lv_sub hl [2, 1, 0] rfl)

set_option maxRecDepth 100000 in
set_option maxHeartbeats 4000000 in
theorem b_X10_bitsOfPositive_e {p : Program} {l : Launch} {e : Env} {s : State} {m : MethodId} {args : Array Value} {below : List Frame} {meth : Method} {c : Code} {dC : Nat → ClassId} {dI : Nat → Nat → Nat} {a : Nat → Nat} {k : Nat → ClassId} {A : Nat → Prop} {q : Int64 × ST} (hC : CxA p s m args meth c dC dI k A cX10_bitsOfPositive RX10 (some .long) 6)   {p0 : UInt64} {σ : ST} (h : f_X10_bitsOfPositive  p0 σ = some q) : GoA p l e ({ frames := 0, cells := 0, slots := 0, locals := 0 } : Room) s m args below meth c (MQ below (qAl dC dI a k A q) args s 0 0 A) dC dI a k A 6 0 σ (lv_args 0 [.double p0]) [] := by
  have hC0 := hC
  obtain ⟨hx, hb, hr, hml, hown, hts, hlocks, hA, hN, hK⟩ := hC0
  intro H locs ls hP hD hS hl
  have hD0 : ∀ σ1 : ST, va_D A (wA a k σ1) := fun σ1 => wA_D hD
  replace hl : lv_has ls 6 [(0, .double p0)] := hl
  unfold f_X10_bitsOfPositive at h
  refine lv_dload_n hx hb dX10_bitsOfPositive_0 rfl (lv_at hl 0 rfl) ?_
  refine lv_dconst0 hx hb dX10_bitsOfPositive_1 ?_
  refine lv_dcmp hx hb dX10_bitsOfPositive_2 ?_
  refine lv_if_gt (tgt := 8) hx hb dX10_bitsOfPositive_3 (by decide) (fun hc => ?_) (fun hc => ?_)
  · replace h := ip hc h
    refine lv_dload_n hx hb dX10_bitsOfPositive_8 rfl (lv_at hl 0 rfl) ?_
    refine lv_dstore_n (lv' := [(2, .double p0), (0, .double p0)]) hx hb dX10_bitsOfPositive_9 rfl hl (by decide) rfl (fun ls hl => ?_)
    refine lv_sipush (v := 1075) hx hb dX10_bitsOfPositive_10 (by decide) ?_
    refine lv_istore (lv' := [(4, .int 1075), (2, .double p0), (0, .double p0)]) hx hb dX10_bitsOfPositive_13 hl (by decide) rfl (fun ls hl => ?_)
    refine lv_iconst (v := 0) hx hb dX10_bitsOfPositive_15 (by decide) ?_
    refine lv_istore (lv' := [(5, .int 0), (4, .int 1075), (2, .double p0), (0, .double p0)]) hx hb dX10_bitsOfPositive_16 hl (by decide) rfl (fun ls hl => ?_)
    exact b_X10_bitsOfPositive_18 hC FU _ _ _ _ h _ _ _ hP hD hS (lv_sub hl [2, 1, 0] rfl)
  · replace h := iq hc h
    refine lv_lconst (v := 0) hx hb dX10_bitsOfPositive_6 (by decide) ?_
    obtain rfl := Option.some.inj h
    exact W.lret hx hb hr (fun t ht hW => ⟨⟨_, (), rfl, rfl, ⟨by rw [ht]; exact hP, va_K.moved hW.alike hK, hD⟩⟩, hS.F ht⟩) hS.2.2 dX10_bitsOfPositive_7

theorem s_X10_bitsOfPositive {l : Launch} {dC : Nat → ClassId} {dI : Nat → Nat → Nat} {a : Nat → Nat} {k : Nat → ClassId} {sz : Nat} {p0 : UInt64} {σ : ST} {q : Int64 × ST} (h : f_X10_bitsOfPositive  p0 σ = some q) : Met l yX10_bitsOfPositive (.code yX10_bitsOfPositive cX10_bitsOfPositive 6 (some .long) :: pw) ({ frames := 0, cells := 0, slots := 0, locals := 0 } : Room) (va_Pc [.double p0] (vPre dC dI (wA a k σ) (tA k) sz)) (qAl dC dI a k (va_A (wA a k σ) sz) q) 0 0 (va_A (wA a k σ) sz) := metA (fun A => qAl dC dI a k A q) (plainFor_of_name (by decide)) (Nat.le_of_ble_eq_true rfl) (fun _ _ _ _ _ _ _ _ hC => b_X10_bitsOfPositive_e hC h)

def f_X10_bitsOfWhole (p0 : Int64) (σ : ST) : Option (Int64 × ST) := if (lg_cmp p0 0) < 0 then (if (FP.dsub FP.dconst0 (FP.l2d p0)) &&& 0x7fffffffffffffff ≤ 0x7ff0000000000000 then ((f_X10_bitsOfPositive  (FP.dsub FP.dconst0 (FP.l2d p0)) σ).bind fun q2 => some ((q2.1 ||| (-9223372036854775808)), q2.2)) else none) else ((f_X10_bitsOfPositive  (FP.l2d p0) σ).bind fun q4 => some (q4.1, q4.2))

set_option maxRecDepth 100000 in
set_option maxHeartbeats 4000000 in
theorem b_X10_bitsOfWhole_e {p : Program} {l : Launch} {e : Env} {s : State} {m : MethodId} {args : Array Value} {below : List Frame} {meth : Method} {c : Code} {dC : Nat → ClassId} {dI : Nat → Nat → Nat} {a : Nat → Nat} {k : Nat → ClassId} {A : Nat → Prop} {q : Int64 × ST} (hC : CxA p s m args meth c dC dI k A cX10_bitsOfWhole RX10 (some .long) 2)   {p0 : Int64} {σ : ST} (h : f_X10_bitsOfWhole  p0 σ = some q) : GoA p l e ({ frames := 1, cells := 0, slots := 0, locals := 25 } : Room) s m args below meth c (MQ below (qAl dC dI a k A q) args s 0 0 A) dC dI a k A 2 0 σ (lv_args 0 [.long p0]) [] := by
  have hC0 := hC
  obtain ⟨hx, hb, hr, hml, hown, hts, hlocks, hA, hN, hK⟩ := hC0
  intro H locs ls hP hD hS hl
  have hD0 : ∀ σ1 : ST, va_D A (wA a k σ1) := fun σ1 => wA_D hD
  replace hl : lv_has ls 2 [(0, .long p0)] := hl
  unfold f_X10_bitsOfWhole at h
  refine lv_lload_n hx hb dX10_bitsOfWhole_0 rfl (lv_at hl 0 rfl) ?_
  refine lv_lconst (v := 0) hx hb dX10_bitsOfWhole_1 (by decide) ?_
  refine W.lcmp hx hb dX10_bitsOfWhole_2 ?_
  refine lv_if_lt (tgt := 14) hx hb dX10_bitsOfWhole_3 (by decide) (fun hc => ?_) (fun hc => ?_)
  · replace h := ip hc h
    refine lv_dconst0 hx hb dX10_bitsOfWhole_14 ?_
    refine lv_lload_n hx hb dX10_bitsOfWhole_15 rfl (lv_at hl 0 rfl) ?_
    refine lv_l2d hx hb dX10_bitsOfWhole_16 ?_
    obtain ⟨hg1, h⟩ := ig h
    refine lv_dsub hx hb dX10_bitsOfWhole_17 hg1 ?_
    obtain ⟨q2, hc, h⟩ := ib h
    have hF := va_frees hD hS hA
    refine va_calll (va_runS (As := [.double (FP.dsub FP.dconst0 (FP.l2d p0))]) (rest := []) ⟨hx, hb, hml, hown, hts⟩ (s_X10_bitsOfPositive hc) (va_cwS 1 hts (gS mw_26_22 mw_17_28 mw_0_14 mw_53_22) rfl rfl rfl (by decide +kernel) ⟨(Nat.le_of_ble_eq_true rfl), (Nat.le_of_ble_eq_true rfl)⟩) (vS hK hP hD hN) rfl rfl hl.1 rfl (lv_room (Nat.le_of_ble_eq_true rfl)) dX10_bitsOfWhole_18 ⟨(Nat.le_of_ble_eq_true rfl), (Nat.le_of_ble_eq_true rfl)⟩) hS (fun q _ h => hF q h) hF (fun r3 u t H locs ht hvm hw hB _ _ hS => ?_)
    obtain rfl : r3 = q2.1 := hw
    replace hP : va_P (dC, dI) vwCl (wA a k q2.2) H := by rw [← ht]; exact hB.1
    replace hD := hD0 (q2.2)
    clear hB hF
    refine lv_ldc2 (v := (-9223372036854775808)) hx hb hown (hts (.constantLong RX10 326 (-9223372036854775808)) mw_26_23) dX10_bitsOfWhole_21 ?_
    refine lv_lor hx hb dX10_bitsOfWhole_24 ?_
    obtain rfl := Option.some.inj h
    exact W.lret hx hb hr (fun t ht hW => ⟨⟨_, (), rfl, rfl, ⟨by rw [ht]; exact hP, va_K.moved hW.alike hK, hD⟩⟩, hS.F ht⟩) hS.2.2 dX10_bitsOfWhole_25
  · replace h := iq hc h
    refine lv_lload_n hx hb dX10_bitsOfWhole_6 rfl (lv_at hl 0 rfl) ?_
    refine lv_l2d hx hb dX10_bitsOfWhole_7 ?_
    obtain ⟨q4, hc, h⟩ := ib h
    have hF := va_frees hD hS hA
    refine va_calll (va_runS (As := [.double (FP.l2d p0)]) (rest := []) ⟨hx, hb, hml, hown, hts⟩ (s_X10_bitsOfPositive hc) (va_cwS 1 hts (gS mw_26_22 mw_17_28 mw_0_14 mw_53_22) rfl rfl rfl (by decide +kernel) ⟨(Nat.le_of_ble_eq_true rfl), (Nat.le_of_ble_eq_true rfl)⟩) (vS hK hP hD hN) rfl rfl hl.1 rfl (lv_room (Nat.le_of_ble_eq_true rfl)) dX10_bitsOfWhole_8 ⟨(Nat.le_of_ble_eq_true rfl), (Nat.le_of_ble_eq_true rfl)⟩) hS (fun q _ h => hF q h) hF (fun r5 u t H locs ht hvm hw hB _ _ hS => ?_)
    obtain rfl : r5 = q4.1 := hw
    replace hP : va_P (dC, dI) vwCl (wA a k q4.2) H := by rw [← ht]; exact hB.1
    replace hD := hD0 (q4.2)
    clear hB hF
    refine lv_goto (tgt := 25) hx hb dX10_bitsOfWhole_11 (by decide) ?_
    obtain rfl := Option.some.inj h
    exact W.lret hx hb hr (fun t ht hW => ⟨⟨_, (), rfl, rfl, ⟨by rw [ht]; exact hP, va_K.moved hW.alike hK, hD⟩⟩, hS.F ht⟩) hS.2.2 dX10_bitsOfWhole_25

theorem s_X10_bitsOfWhole {l : Launch} {dC : Nat → ClassId} {dI : Nat → Nat → Nat} {a : Nat → Nat} {k : Nat → ClassId} {sz : Nat} {p0 : Int64} {σ : ST} {q : Int64 × ST} (h : f_X10_bitsOfWhole  p0 σ = some q) : Met l yX10_bitsOfWhole (.code yX10_bitsOfWhole cX10_bitsOfWhole 2 (some .long) :: pw) ({ frames := 1, cells := 0, slots := 0, locals := 25 } : Room) (va_Pc [.long p0] (vPre dC dI (wA a k σ) (tA k) sz)) (qAl dC dI a k (va_A (wA a k σ) sz) q) 0 0 (va_A (wA a k σ) sz) := metA (fun A => qAl dC dI a k A q) (plainFor_of_name (by decide)) (Nat.le_of_ble_eq_true rfl) (fun _ _ _ _ _ _ _ _ hC => b_X10_bitsOfWhole_e hC h)

def f_X10_isInt (p0 : Int64) (σ : ST) : Option (Int32 × ST) := if (lg_cmp p0 (-2147483648)) < 0 then (some (0, σ)) else (if 0 < (lg_cmp p0 2147483647) then (some (0, σ)) else (some (1, σ)))

set_option maxRecDepth 100000 in
set_option maxHeartbeats 4000000 in
theorem b_X10_isInt_e {p : Program} {l : Launch} {e : Env} {s : State} {m : MethodId} {args : Array Value} {below : List Frame} {meth : Method} {c : Code} {dC : Nat → ClassId} {dI : Nat → Nat → Nat} {a : Nat → Nat} {k : Nat → ClassId} {A : Nat → Prop} {q : Int32 × ST} (hC : CxA p s m args meth c dC dI k A cX10_isInt RX10 (some .boolean) 2)   {p0 : Int64} {σ : ST} (h : f_X10_isInt  p0 σ = some q) : GoA p l e ({ frames := 0, cells := 0, slots := 0, locals := 0 } : Room) s m args below meth c (MQ below (qAi dC dI a k A q) args s 0 0 A) dC dI a k A 2 0 σ (lv_args 0 [.long p0]) [] := by
  have hC0 := hC
  obtain ⟨hx, hb, hr, hml, hown, hts, hlocks, hA, hN, hK⟩ := hC0
  intro H locs ls hP hD hS hl
  have hD0 : ∀ σ1 : ST, va_D A (wA a k σ1) := fun σ1 => wA_D hD
  replace hl : lv_has ls 2 [(0, .long p0)] := hl
  unfold f_X10_isInt at h
  refine lv_lload_n hx hb dX10_isInt_0 rfl (lv_at hl 0 rfl) ?_
  refine lv_ldc2 (v := (-2147483648)) hx hb hown (hts (.constantLong RX10 330 (-2147483648)) mw_26_24) dX10_isInt_1 ?_
  refine W.lcmp hx hb dX10_isInt_4 ?_
  refine lv_if_lt (tgt := 20) hx hb dX10_isInt_5 (by decide) (fun hc => ?_) (fun hc => ?_)
  · replace h := ip hc h
    refine lv_iconst (v := 0) hx hb dX10_isInt_20 (by decide) ?_
    obtain rfl := Option.some.inj h
    exact W.zret hx hb hr rfl (fun t ht hW => ⟨⟨_, (), rfl, rfl, ⟨by rw [ht]; exact hP, va_K.moved hW.alike hK, hD⟩⟩, hS.F ht⟩) hS.2.2 dX10_isInt_21
  · replace h := iq hc h
    refine lv_lload_n hx hb dX10_isInt_8 rfl (lv_at hl 0 rfl) ?_
    refine lv_ldc2 (v := 2147483647) hx hb hown (hts (.constantLong RX10 332 (2147483647)) mw_26_25) dX10_isInt_9 ?_
    refine W.lcmp hx hb dX10_isInt_12 ?_
    refine lv_if_gt (tgt := 20) hx hb dX10_isInt_13 (by decide) (fun hc => ?_) (fun hc => ?_)
    · replace h := ip hc h
      refine lv_iconst (v := 0) hx hb dX10_isInt_20 (by decide) ?_
      obtain rfl := Option.some.inj h
      exact W.zret hx hb hr rfl (fun t ht hW => ⟨⟨_, (), rfl, rfl, ⟨by rw [ht]; exact hP, va_K.moved hW.alike hK, hD⟩⟩, hS.F ht⟩) hS.2.2 dX10_isInt_21
    · replace h := iq hc h
      refine lv_iconst (v := 1) hx hb dX10_isInt_16 (by decide) ?_
      refine lv_goto (tgt := 21) hx hb dX10_isInt_17 (by decide) ?_
      obtain rfl := Option.some.inj h
      exact W.zret hx hb hr rfl (fun t ht hW => ⟨⟨_, (), rfl, rfl, ⟨by rw [ht]; exact hP, va_K.moved hW.alike hK, hD⟩⟩, hS.F ht⟩) hS.2.2 dX10_isInt_21

theorem s_X10_isInt {l : Launch} {dC : Nat → ClassId} {dI : Nat → Nat → Nat} {a : Nat → Nat} {k : Nat → ClassId} {sz : Nat} {p0 : Int64} {σ : ST} {q : Int32 × ST} (h : f_X10_isInt  p0 σ = some q) : Met l yX10_isInt (.code yX10_isInt cX10_isInt 2 (some .boolean) :: pw) ({ frames := 0, cells := 0, slots := 0, locals := 0 } : Room) (va_Pc [.long p0] (vPre dC dI (wA a k σ) (tA k) sz)) (qAi dC dI a k (va_A (wA a k σ) sz) q) 0 0 (va_A (wA a k σ) sz) := metA (fun A => qAi dC dI a k A q) (plainFor_of_name (by decide)) (Nat.le_of_ble_eq_true rfl) (fun _ _ _ _ _ _ _ _ hC => b_X10_isInt_e hC h)

def f_X4_takeLetters_45 (k5 : Int32 → Int32 → Int64 → Int32 → ST → Option (Int64 × ST)) (b : Nat) (t : Nat) (x1 : Int32) (x2 : Int32) (x3 : Int64) (x5 : Int32) (x6 : Int32) (σ : ST) : Option (Int64 × ST) := (some (x3 ||| ((((x6 - 97) + 1).toInt64) <<< ((5 * x5).toInt64 &&& 63)))).bind fun vv1 => k5 x1 x2 vv1 (x5 + 1) σ
def f_X4_takeLetters_38 (k5 : Int32 → Int32 → Int64 → Int32 → ST → Option (Int64 × ST)) (b : Nat) (t : Nat) (x1 : Int32) (x2 : Int32) (x3 : Int64) (x5 : Int32) (x6 : Int32) (σ : ST) : Option (Int64 × ST) := (f_X4_fail b t 12 x1 σ).bind fun q1 => f_X4_takeLetters_45 k5 b t x1 x2 x3 x5 x6 q1
def f_X4_takeLetters_5 (b : Nat) (t : Nat) : Nat → Int32 → Int32 → Int64 → Int32 → ST → Option (Int64 × ST)
  | 0, _, _, _, _, _ => none
  | n + 1, x1, x2, x3, x5, σ => if x2 ≤ x5 then (some (x3, σ)) else (if (σ.1 b 7) = 0 then ((f_X4_takeByte b t  σ).bind fun q1 => if q1.1 < 97 then (f_X4_takeLetters_38 (f_X4_takeLetters_5 b t n) b t x1 x2 x3 x5 q1.1 q1.2) else (if q1.1 ≤ 122 then (f_X4_takeLetters_45 (f_X4_takeLetters_5 b t n) b t x1 x2 x3 x5 q1.1 q1.2) else (f_X4_takeLetters_38 (f_X4_takeLetters_5 b t n) b t x1 x2 x3 x5 q1.1 q1.2))) else (some (x3, σ)))
def f_X4_takeLetters (b : Nat) (t : Nat) (p0 : Int32) (p1 : Int32) (σ : ST) : Option (Int64 × ST) := f_X4_takeLetters_5 b t FU p0 p1 0 0 σ

set_option maxRecDepth 100000 in
set_option maxHeartbeats 4000000 in
theorem b_X4_takeLetters_45_89_50 {p : Program} {l : Launch} {e : Env} {s : State} {m : MethodId} {args : Array Value} {below : List Frame} {meth : Method} {c : Code} {dC : Nat → ClassId} {dI : Nat → Nat → Nat} {a : Nat → Nat} {k : Nat → ClassId} {A : Nat → Prop} {q : Int64 × ST} (hC : CxA p s m args meth c dC dI k A cX4_takeLetters RX4 (some .long) 7)  {k5 : Int32 → Int32 → Int64 → Int32 → ST → Option (Int64 × ST)} (hk5 : ∀ (x1 : Int32) (x2 : Int32) (x3 : Int64) (x5 : Int32) (σ : ST), k5 x1 x2 x3 x5 σ = some q → GoA p l e ({ frames := 2, cells := 0, slots := 0, locals := 44 } : Room) s m args below meth c (MQ below (qAl dC dI a k A q) args s 0 0 A) dC dI a k A 7 5 σ [(0, .ref (a 89)), (1, .int x1), (2, .int x2), (3, .long x3), (5, .int x5)] []) {x1 : Int32} {x2 : Int32} {x3 : Int64} {x5 : Int32} {x6 : Int32} {σ : ST} (h : f_X4_takeLetters_45 k5 89 50 x1 x2 x3 x5 x6 σ = some q) : GoA p l e ({ frames := 2, cells := 0, slots := 0, locals := 44 } : Room) s m args below meth c (MQ below (qAl dC dI a k A q) args s 0 0 A) dC dI a k A 7 45 σ [(0, .ref (a 89)), (1, .int x1), (2, .int x2), (3, .long x3), (5, .int x5), (6, .int x6)] [] := by
  have hC0 := hC
  obtain ⟨hx, hb, hr, hml, hown, hts, hlocks, hA, hN, hK⟩ := hC0
  intro H locs ls hP hD hS hl
  have hD0 : ∀ σ1 : ST, va_D A (wA a k σ1) := fun σ1 => wA_D hD
  unfold f_X4_takeLetters_45 at h
  refine lv_lload_n hx hb dX4_takeLetters_45 rfl (lv_at hl 3 rfl) ?_
  refine lv_iload hx hb dX4_takeLetters_46 (lv_at hl 5 rfl) ?_
  refine lv_bipush (v := 97) hx hb dX4_takeLetters_48 (by decide) ?_
  refine lv_isub hx hb dX4_takeLetters_50 ?_
  refine lv_iconst (v := 1) hx hb dX4_takeLetters_51 (by decide) ?_
  refine lv_iadd hx hb dX4_takeLetters_52 ?_
  refine lv_i2l (v := ((x6 - 97) + 1).toInt64) hx hb dX4_takeLetters_53 rfl ?_
  refine lv_iconst (v := 5) hx hb dX4_takeLetters_54 (by decide) ?_
  refine lv_iload hx hb dX4_takeLetters_55 (lv_at hl 4 rfl) ?_
  refine lv_imul hx hb dX4_takeLetters_57 ?_
  refine lv_lshl (v := ((((x6 - 97) + 1).toInt64) <<< ((5 * x5).toInt64 &&& 63))) hx hb dX4_takeLetters_58 rfl ?_
  refine lv_lor hx hb dX4_takeLetters_59 ?_
  obtain ⟨vv1, hs, h⟩ := ib h
  replace hs := Option.some.inj hs
  refine lv_topl (fun y9 e9 => ?_)
  obtain rfl : vv1 = y9 := (e9.trans hs).symm
  clear hs e9
  refine lv_lstore_n (lv' := [(3, .long vv1), (0, .ref (a 89)), (1, .int x1), (2, .int x2), (5, .int x5), (6, .int x6)]) hx hb dX4_takeLetters_60 rfl hl (by decide) rfl (fun ls hl => ?_)
  refine lv_iinc (v := (x5 + 1)) (lv' := [(5, .int (x5 + 1)), (3, .long vv1), (0, .ref (a 89)), (1, .int x1), (2, .int x2), (6, .int x6)]) hx hb dX4_takeLetters_61 hl (k := 4) rfl rfl (by decide) rfl (fun ls hl => ?_)
  refine lv_goto (tgt := 5) hx hb dX4_takeLetters_64 (by decide) ?_
  exact hk5 _ _ _ _ _ h _ _ _ hP hD hS (lv_sub hl [2, 3, 4, 1, 0] rfl)

set_option maxRecDepth 100000 in
set_option maxHeartbeats 4000000 in
theorem b_X4_takeLetters_38_89_50 {p : Program} {l : Launch} {e : Env} {s : State} {m : MethodId} {args : Array Value} {below : List Frame} {meth : Method} {c : Code} {dC : Nat → ClassId} {dI : Nat → Nat → Nat} {a : Nat → Nat} {k : Nat → ClassId} {A : Nat → Prop} {q : Int64 × ST} (hC : CxA p s m args meth c dC dI k A cX4_takeLetters RX4 (some .long) 7)  {k5 : Int32 → Int32 → Int64 → Int32 → ST → Option (Int64 × ST)} (hk5 : ∀ (x1 : Int32) (x2 : Int32) (x3 : Int64) (x5 : Int32) (σ : ST), k5 x1 x2 x3 x5 σ = some q → GoA p l e ({ frames := 2, cells := 0, slots := 0, locals := 44 } : Room) s m args below meth c (MQ below (qAl dC dI a k A q) args s 0 0 A) dC dI a k A 7 5 σ [(0, .ref (a 89)), (1, .int x1), (2, .int x2), (3, .long x3), (5, .int x5)] []) {x1 : Int32} {x2 : Int32} {x3 : Int64} {x5 : Int32} {x6 : Int32} {σ : ST} (h : f_X4_takeLetters_38 k5 89 50 x1 x2 x3 x5 x6 σ = some q) : GoA p l e ({ frames := 2, cells := 0, slots := 0, locals := 44 } : Room) s m args below meth c (MQ below (qAl dC dI a k A q) args s 0 0 A) dC dI a k A 7 38 σ [(0, .ref (a 89)), (1, .int x1), (2, .int x2), (3, .long x3), (5, .int x5), (6, .int x6)] [] := by
  have hC0 := hC
  obtain ⟨hx, hb, hr, hml, hown, hts, hlocks, hA, hN, hK⟩ := hC0
  intro H locs ls hP hD hS hl
  have hD0 : ∀ σ1 : ST, va_D A (wA a k σ1) := fun σ1 => wA_D hD
  unfold f_X4_takeLetters_38 at h
  refine lv_aload_n hx hb dX4_takeLetters_38 rfl (lv_at hl 0 rfl) ?_
  refine lv_bipush (v := 12) hx hb dX4_takeLetters_39 (by decide) ?_
  refine lv_iload_n hx hb dX4_takeLetters_41 rfl (lv_at hl 1 rfl) ?_
  obtain ⟨q1, hc, h⟩ := ib h
  have hF := va_frees hD hS hA
  refine va_callv (va_runV (As := [.int 12, .int x1]) (rest := []) ⟨hx, hb, hml, hown, hts⟩ (s_X4_fail_89_50 hc) (cwV 2 hts (gV mw_11_15 mw_11_16 mw_11_17 mw_0_8 mw_49_2) rfl rfl rfl (by decide +kernel) ⟨(Nat.le_of_ble_eq_true rfl), (Nat.le_of_ble_eq_true rfl)⟩) (vV (ci := 4) (q0 := 89) hK hP hD hN rfl gA_89) rfl rfl hl.1 rfl (lv_room (Nat.le_of_ble_eq_true rfl)) dX4_takeLetters_42 ⟨(Nat.le_of_ble_eq_true rfl), (Nat.le_of_ble_eq_true rfl)⟩) hS (fun q _ h => hF q h) hF (fun u t H locs ht hvm hw hB _ _ hS => ?_)
  replace hP : va_P (dC, dI) vwCl (wA a k q1) H := by rw [← ht]; exact hB.1
  replace hD := hD0 (q1)
  clear hB hF
  exact b_X4_takeLetters_45_89_50 hC hk5 h _ _ _ hP hD hS (lv_sub hl [0, 1, 2, 3, 4, 5] rfl)

set_option maxRecDepth 100000 in
set_option maxHeartbeats 4000000 in
theorem b_X4_takeLetters_5_89_50 {p : Program} {l : Launch} {e : Env} {s : State} {m : MethodId} {args : Array Value} {below : List Frame} {meth : Method} {c : Code} {dC : Nat → ClassId} {dI : Nat → Nat → Nat} {a : Nat → Nat} {k : Nat → ClassId} {A : Nat → Prop} {q : Int64 × ST} (hC : CxA p s m args meth c dC dI k A cX4_takeLetters RX4 (some .long) 7)   : ∀ (n : Nat) (x1 : Int32) (x2 : Int32) (x3 : Int64) (x5 : Int32) (σ : ST), f_X4_takeLetters_5 89 50 n x1 x2 x3 x5 σ = some q → GoA p l e ({ frames := 2, cells := 0, slots := 0, locals := 44 } : Room) s m args below meth c (MQ below (qAl dC dI a k A q) args s 0 0 A) dC dI a k A 7 5 σ [(0, .ref (a 89)), (1, .int x1), (2, .int x2), (3, .long x3), (5, .int x5)] [] := by
  intro n
  induction n with
  | zero =>
    intro x1 x2 x3 x5 σ h
    rw [f_X4_takeLetters_5] at h
    cases h
  | succ n ih =>
    intro x1 x2 x3 x5 σ h
    have hC0 := hC
    obtain ⟨hx, hb, hr, hml, hown, hts, hlocks, hA, hN, hK⟩ := hC0
    intro H locs ls hP hD hS hl
    have hD0 : ∀ σ1 : ST, va_D A (wA a k σ1) := fun σ1 => wA_D hD
    rw [f_X4_takeLetters_5] at h
    refine lv_iload hx hb dX4_takeLetters_5 (lv_at hl 4 rfl) ?_
    refine lv_iload_n hx hb dX4_takeLetters_7 rfl (lv_at hl 2 rfl) ?_
    refine lv_icmp_ge (tgt := 67) hx hb dX4_takeLetters_8 (by decide) (fun hc => ?_) (fun hc => ?_)
    · replace h := ip hc h
      refine lv_lload_n hx hb dX4_takeLetters_67 rfl (lv_at hl 3 rfl) ?_
      obtain rfl := Option.some.inj h
      exact W.lret hx hb hr (fun t ht hW => ⟨⟨_, (), rfl, rfl, ⟨by rw [ht]; exact hP, va_K.moved hW.alike hK, hD⟩⟩, hS.F ht⟩) hS.2.2 dX4_takeLetters_68
    · replace h := iq hc h
      refine lv_aload_n hx hb dX4_takeLetters_11 rfl (lv_at hl 0 rfl) ?_
      refine va_get (D := (dC, dI)) (ci := 4) (C := RX4) (T := TX4) (N := 12) hx hb hts inlX4 hown hK hP 89 gA_89 rfl 7 (by decide) (hts (.fieldLink RX4 21 "ShapeReader$Reading" "failure" "I") mw_10_23) (fun _ h9 => h9) rfl dX4_takeLetters_12 ?_
      refine lv_if_ne (tgt := 67) hx hb dX4_takeLetters_15 (by decide) (fun hc => ?_) (fun hc => ?_)
      · replace h := iq hc h
        refine lv_lload_n hx hb dX4_takeLetters_67 rfl (lv_at hl 3 rfl) ?_
        obtain rfl := Option.some.inj h
        exact W.lret hx hb hr (fun t ht hW => ⟨⟨_, (), rfl, rfl, ⟨by rw [ht]; exact hP, va_K.moved hW.alike hK, hD⟩⟩, hS.F ht⟩) hS.2.2 dX4_takeLetters_68
      · replace h := ip hc h
        refine lv_aload_n hx hb dX4_takeLetters_18 rfl (lv_at hl 0 rfl) ?_
        obtain ⟨q1, hc, h⟩ := ib h
        have hF := va_frees hD hS hA
        refine va_calli (va_runV (As := []) (rest := []) ⟨hx, hb, hml, hown, hts⟩ (s_X4_takeByte_89_50 hc) (cwV 0 hts (gV mw_13_28 mw_13_29 mw_14_0 mw_0_8 mw_49_16) rfl rfl rfl (by decide +kernel) ⟨(Nat.le_of_ble_eq_true rfl), (Nat.le_of_ble_eq_true rfl)⟩) (vV (ci := 4) (q0 := 89) hK hP hD hN rfl gA_89) rfl rfl hl.1 rfl (lv_room (Nat.le_of_ble_eq_true rfl)) dX4_takeLetters_19 ⟨(Nat.le_of_ble_eq_true rfl), (Nat.le_of_ble_eq_true rfl)⟩) hS (fun q _ h => hF q h) hF (fun r2 u t H locs ht hvm hw hB _ _ hS => ?_)
        obtain rfl : r2 = q1.1 := hw
        replace hP : va_P (dC, dI) vwCl (wA a k q1.2) H := by rw [← ht]; exact hB.1
        replace hD := hD0 (q1.2)
        clear hB hF
        refine lv_istore (lv' := [(6, .int q1.1), (0, .ref (a 89)), (1, .int x1), (2, .int x2), (3, .long x3), (5, .int x5)]) hx hb dX4_takeLetters_22 hl (by decide) rfl (fun ls hl => ?_)
        refine lv_iload hx hb dX4_takeLetters_24 (lv_at hl 0 rfl) ?_
        refine lv_bipush (v := 97) hx hb dX4_takeLetters_26 (by decide) ?_
        refine lv_icmp_lt (tgt := 38) hx hb dX4_takeLetters_28 (by decide) (fun hc => ?_) (fun hc => ?_)
        · replace h := ip hc h
          exact b_X4_takeLetters_38_89_50 hC ih h _ _ _ hP hD hS (lv_sub hl [1, 2, 3, 4, 5, 0] rfl)
        · replace h := iq hc h
          refine lv_iload hx hb dX4_takeLetters_31 (lv_at hl 0 rfl) ?_
          refine lv_bipush (v := 122) hx hb dX4_takeLetters_33 (by decide) ?_
          refine lv_icmp_le (tgt := 45) hx hb dX4_takeLetters_35 (by decide) (fun hc => ?_) (fun hc => ?_)
          · replace h := ip hc h
            exact b_X4_takeLetters_45_89_50 hC ih h _ _ _ hP hD hS (lv_sub hl [1, 2, 3, 4, 5, 0] rfl)
          · replace h := iq hc h
            exact b_X4_takeLetters_38_89_50 hC ih h _ _ _ hP hD hS (lv_sub hl [1, 2, 3, 4, 5, 0] rfl)

set_option maxRecDepth 100000 in
set_option maxHeartbeats 4000000 in
theorem b_X4_takeLetters_e_89_50 {p : Program} {l : Launch} {e : Env} {s : State} {m : MethodId} {args : Array Value} {below : List Frame} {meth : Method} {c : Code} {dC : Nat → ClassId} {dI : Nat → Nat → Nat} {a : Nat → Nat} {k : Nat → ClassId} {A : Nat → Prop} {q : Int64 × ST} (hC : CxA p s m args meth c dC dI k A cX4_takeLetters RX4 (some .long) 7)   {p0 : Int32} {p1 : Int32} {σ : ST} (h : f_X4_takeLetters 89 50 p0 p1 σ = some q) : GoA p l e ({ frames := 2, cells := 0, slots := 0, locals := 44 } : Room) s m args below meth c (MQ below (qAl dC dI a k A q) args s 0 0 A) dC dI a k A 7 0 σ (lv_args 0 [.ref (a 89), .int p0, .int p1]) [] := by
  have hC0 := hC
  obtain ⟨hx, hb, hr, hml, hown, hts, hlocks, hA, hN, hK⟩ := hC0
  intro H locs ls hP hD hS hl
  have hD0 : ∀ σ1 : ST, va_D A (wA a k σ1) := fun σ1 => wA_D hD
  replace hl : lv_has ls 7 [(0, .ref (a 89)), (1, .int p0), (2, .int p1)] := hl
  unfold f_X4_takeLetters at h
  refine lv_lconst (v := 0) hx hb dX4_takeLetters_0 (by decide) ?_
  refine lv_lstore_n (lv' := [(3, .long 0), (0, .ref (a 89)), (1, .int p0), (2, .int p1)]) hx hb dX4_takeLetters_1 rfl hl (by decide) rfl (fun ls hl => ?_)
  refine lv_iconst (v := 0) hx hb dX4_takeLetters_2 (by decide) ?_
  refine lv_istore (lv' := [(5, .int 0), (3, .long 0), (0, .ref (a 89)), (1, .int p0), (2, .int p1)]) hx hb dX4_takeLetters_3 hl (by decide) rfl (fun ls hl => ?_)
  exact b_X4_takeLetters_5_89_50 hC FU _ _ _ _ _ h _ _ _ hP hD hS (lv_sub hl [2, 3, 4, 1, 0] rfl)

theorem s_X4_takeLetters_89_50 {l : Launch} {dC : Nat → ClassId} {dI : Nat → Nat → Nat} {a : Nat → Nat} {k : Nat → ClassId} {sz : Nat} {p0 : Int32} {p1 : Int32} {σ : ST} {q : Int64 × ST} (h : f_X4_takeLetters 89 50 p0 p1 σ = some q) : Met l yX4_takeLetters (.code yX4_takeLetters cX4_takeLetters 7 (some .long) :: pw) ({ frames := 2, cells := 0, slots := 0, locals := 44 } : Room) (va_Pc [.ref (a 89), .int p0, .int p1] (vPre dC dI (wA a k σ) (tA k) sz)) (qAl dC dI a k (va_A (wA a k σ) sz) q) 0 0 (va_A (wA a k σ) sz) := metA (fun A => qAl dC dI a k A q) (plainFor_of_name (by decide)) (Nat.le_of_ble_eq_true rfl) (fun _ _ _ _ _ _ _ _ hC => b_X4_takeLetters_e_89_50 hC h)

set_option maxRecDepth 100000 in
set_option maxHeartbeats 4000000 in
theorem b_X4_takeLetters_45_92_62 {p : Program} {l : Launch} {e : Env} {s : State} {m : MethodId} {args : Array Value} {below : List Frame} {meth : Method} {c : Code} {dC : Nat → ClassId} {dI : Nat → Nat → Nat} {a : Nat → Nat} {k : Nat → ClassId} {A : Nat → Prop} {q : Int64 × ST} (hC : CxA p s m args meth c dC dI k A cX4_takeLetters RX4 (some .long) 7)  {k5 : Int32 → Int32 → Int64 → Int32 → ST → Option (Int64 × ST)} (hk5 : ∀ (x1 : Int32) (x2 : Int32) (x3 : Int64) (x5 : Int32) (σ : ST), k5 x1 x2 x3 x5 σ = some q → GoA p l e ({ frames := 2, cells := 0, slots := 0, locals := 44 } : Room) s m args below meth c (MQ below (qAl dC dI a k A q) args s 0 0 A) dC dI a k A 7 5 σ [(0, .ref (a 92)), (1, .int x1), (2, .int x2), (3, .long x3), (5, .int x5)] []) {x1 : Int32} {x2 : Int32} {x3 : Int64} {x5 : Int32} {x6 : Int32} {σ : ST} (h : f_X4_takeLetters_45 k5 92 62 x1 x2 x3 x5 x6 σ = some q) : GoA p l e ({ frames := 2, cells := 0, slots := 0, locals := 44 } : Room) s m args below meth c (MQ below (qAl dC dI a k A q) args s 0 0 A) dC dI a k A 7 45 σ [(0, .ref (a 92)), (1, .int x1), (2, .int x2), (3, .long x3), (5, .int x5), (6, .int x6)] [] := by
  have hC0 := hC
  obtain ⟨hx, hb, hr, hml, hown, hts, hlocks, hA, hN, hK⟩ := hC0
  intro H locs ls hP hD hS hl
  have hD0 : ∀ σ1 : ST, va_D A (wA a k σ1) := fun σ1 => wA_D hD
  unfold f_X4_takeLetters_45 at h
  refine lv_lload_n hx hb dX4_takeLetters_45 rfl (lv_at hl 3 rfl) ?_
  refine lv_iload hx hb dX4_takeLetters_46 (lv_at hl 5 rfl) ?_
  refine lv_bipush (v := 97) hx hb dX4_takeLetters_48 (by decide) ?_
  refine lv_isub hx hb dX4_takeLetters_50 ?_
  refine lv_iconst (v := 1) hx hb dX4_takeLetters_51 (by decide) ?_
  refine lv_iadd hx hb dX4_takeLetters_52 ?_
  refine lv_i2l (v := ((x6 - 97) + 1).toInt64) hx hb dX4_takeLetters_53 rfl ?_
  refine lv_iconst (v := 5) hx hb dX4_takeLetters_54 (by decide) ?_
  refine lv_iload hx hb dX4_takeLetters_55 (lv_at hl 4 rfl) ?_
  refine lv_imul hx hb dX4_takeLetters_57 ?_
  refine lv_lshl (v := ((((x6 - 97) + 1).toInt64) <<< ((5 * x5).toInt64 &&& 63))) hx hb dX4_takeLetters_58 rfl ?_
  refine lv_lor hx hb dX4_takeLetters_59 ?_
  obtain ⟨vv1, hs, h⟩ := ib h
  replace hs := Option.some.inj hs
  refine lv_topl (fun y9 e9 => ?_)
  obtain rfl : vv1 = y9 := (e9.trans hs).symm
  clear hs e9
  refine lv_lstore_n (lv' := [(3, .long vv1), (0, .ref (a 92)), (1, .int x1), (2, .int x2), (5, .int x5), (6, .int x6)]) hx hb dX4_takeLetters_60 rfl hl (by decide) rfl (fun ls hl => ?_)
  refine lv_iinc (v := (x5 + 1)) (lv' := [(5, .int (x5 + 1)), (3, .long vv1), (0, .ref (a 92)), (1, .int x1), (2, .int x2), (6, .int x6)]) hx hb dX4_takeLetters_61 hl (k := 4) rfl rfl (by decide) rfl (fun ls hl => ?_)
  refine lv_goto (tgt := 5) hx hb dX4_takeLetters_64 (by decide) ?_
  exact hk5 _ _ _ _ _ h _ _ _ hP hD hS (lv_sub hl [2, 3, 4, 1, 0] rfl)

set_option maxRecDepth 100000 in
set_option maxHeartbeats 4000000 in
theorem b_X4_takeLetters_38_92_62 {p : Program} {l : Launch} {e : Env} {s : State} {m : MethodId} {args : Array Value} {below : List Frame} {meth : Method} {c : Code} {dC : Nat → ClassId} {dI : Nat → Nat → Nat} {a : Nat → Nat} {k : Nat → ClassId} {A : Nat → Prop} {q : Int64 × ST} (hC : CxA p s m args meth c dC dI k A cX4_takeLetters RX4 (some .long) 7)  {k5 : Int32 → Int32 → Int64 → Int32 → ST → Option (Int64 × ST)} (hk5 : ∀ (x1 : Int32) (x2 : Int32) (x3 : Int64) (x5 : Int32) (σ : ST), k5 x1 x2 x3 x5 σ = some q → GoA p l e ({ frames := 2, cells := 0, slots := 0, locals := 44 } : Room) s m args below meth c (MQ below (qAl dC dI a k A q) args s 0 0 A) dC dI a k A 7 5 σ [(0, .ref (a 92)), (1, .int x1), (2, .int x2), (3, .long x3), (5, .int x5)] []) {x1 : Int32} {x2 : Int32} {x3 : Int64} {x5 : Int32} {x6 : Int32} {σ : ST} (h : f_X4_takeLetters_38 k5 92 62 x1 x2 x3 x5 x6 σ = some q) : GoA p l e ({ frames := 2, cells := 0, slots := 0, locals := 44 } : Room) s m args below meth c (MQ below (qAl dC dI a k A q) args s 0 0 A) dC dI a k A 7 38 σ [(0, .ref (a 92)), (1, .int x1), (2, .int x2), (3, .long x3), (5, .int x5), (6, .int x6)] [] := by
  have hC0 := hC
  obtain ⟨hx, hb, hr, hml, hown, hts, hlocks, hA, hN, hK⟩ := hC0
  intro H locs ls hP hD hS hl
  have hD0 : ∀ σ1 : ST, va_D A (wA a k σ1) := fun σ1 => wA_D hD
  unfold f_X4_takeLetters_38 at h
  refine lv_aload_n hx hb dX4_takeLetters_38 rfl (lv_at hl 0 rfl) ?_
  refine lv_bipush (v := 12) hx hb dX4_takeLetters_39 (by decide) ?_
  refine lv_iload_n hx hb dX4_takeLetters_41 rfl (lv_at hl 1 rfl) ?_
  obtain ⟨q1, hc, h⟩ := ib h
  have hF := va_frees hD hS hA
  refine va_callv (va_runV (As := [.int 12, .int x1]) (rest := []) ⟨hx, hb, hml, hown, hts⟩ (s_X4_fail_92_62 hc) (cwV 2 hts (gV mw_11_15 mw_11_16 mw_11_17 mw_0_8 mw_49_2) rfl rfl rfl (by decide +kernel) ⟨(Nat.le_of_ble_eq_true rfl), (Nat.le_of_ble_eq_true rfl)⟩) (vV (ci := 4) (q0 := 92) hK hP hD hN rfl gA_92) rfl rfl hl.1 rfl (lv_room (Nat.le_of_ble_eq_true rfl)) dX4_takeLetters_42 ⟨(Nat.le_of_ble_eq_true rfl), (Nat.le_of_ble_eq_true rfl)⟩) hS (fun q _ h => hF q h) hF (fun u t H locs ht hvm hw hB _ _ hS => ?_)
  replace hP : va_P (dC, dI) vwCl (wA a k q1) H := by rw [← ht]; exact hB.1
  replace hD := hD0 (q1)
  clear hB hF
  exact b_X4_takeLetters_45_92_62 hC hk5 h _ _ _ hP hD hS (lv_sub hl [0, 1, 2, 3, 4, 5] rfl)

set_option maxRecDepth 100000 in
set_option maxHeartbeats 4000000 in
theorem b_X4_takeLetters_5_92_62 {p : Program} {l : Launch} {e : Env} {s : State} {m : MethodId} {args : Array Value} {below : List Frame} {meth : Method} {c : Code} {dC : Nat → ClassId} {dI : Nat → Nat → Nat} {a : Nat → Nat} {k : Nat → ClassId} {A : Nat → Prop} {q : Int64 × ST} (hC : CxA p s m args meth c dC dI k A cX4_takeLetters RX4 (some .long) 7)   : ∀ (n : Nat) (x1 : Int32) (x2 : Int32) (x3 : Int64) (x5 : Int32) (σ : ST), f_X4_takeLetters_5 92 62 n x1 x2 x3 x5 σ = some q → GoA p l e ({ frames := 2, cells := 0, slots := 0, locals := 44 } : Room) s m args below meth c (MQ below (qAl dC dI a k A q) args s 0 0 A) dC dI a k A 7 5 σ [(0, .ref (a 92)), (1, .int x1), (2, .int x2), (3, .long x3), (5, .int x5)] [] := by
  intro n
  induction n with
  | zero =>
    intro x1 x2 x3 x5 σ h
    rw [f_X4_takeLetters_5] at h
    cases h
  | succ n ih =>
    intro x1 x2 x3 x5 σ h
    have hC0 := hC
    obtain ⟨hx, hb, hr, hml, hown, hts, hlocks, hA, hN, hK⟩ := hC0
    intro H locs ls hP hD hS hl
    have hD0 : ∀ σ1 : ST, va_D A (wA a k σ1) := fun σ1 => wA_D hD
    rw [f_X4_takeLetters_5] at h
    refine lv_iload hx hb dX4_takeLetters_5 (lv_at hl 4 rfl) ?_
    refine lv_iload_n hx hb dX4_takeLetters_7 rfl (lv_at hl 2 rfl) ?_
    refine lv_icmp_ge (tgt := 67) hx hb dX4_takeLetters_8 (by decide) (fun hc => ?_) (fun hc => ?_)
    · replace h := ip hc h
      refine lv_lload_n hx hb dX4_takeLetters_67 rfl (lv_at hl 3 rfl) ?_
      obtain rfl := Option.some.inj h
      exact W.lret hx hb hr (fun t ht hW => ⟨⟨_, (), rfl, rfl, ⟨by rw [ht]; exact hP, va_K.moved hW.alike hK, hD⟩⟩, hS.F ht⟩) hS.2.2 dX4_takeLetters_68
    · replace h := iq hc h
      refine lv_aload_n hx hb dX4_takeLetters_11 rfl (lv_at hl 0 rfl) ?_
      refine va_get (D := (dC, dI)) (ci := 4) (C := RX4) (T := TX4) (N := 12) hx hb hts inlX4 hown hK hP 92 gA_92 rfl 7 (by decide) (hts (.fieldLink RX4 21 "ShapeReader$Reading" "failure" "I") mw_10_23) (fun _ h9 => h9) rfl dX4_takeLetters_12 ?_
      refine lv_if_ne (tgt := 67) hx hb dX4_takeLetters_15 (by decide) (fun hc => ?_) (fun hc => ?_)
      · replace h := iq hc h
        refine lv_lload_n hx hb dX4_takeLetters_67 rfl (lv_at hl 3 rfl) ?_
        obtain rfl := Option.some.inj h
        exact W.lret hx hb hr (fun t ht hW => ⟨⟨_, (), rfl, rfl, ⟨by rw [ht]; exact hP, va_K.moved hW.alike hK, hD⟩⟩, hS.F ht⟩) hS.2.2 dX4_takeLetters_68
      · replace h := ip hc h
        refine lv_aload_n hx hb dX4_takeLetters_18 rfl (lv_at hl 0 rfl) ?_
        obtain ⟨q1, hc, h⟩ := ib h
        have hF := va_frees hD hS hA
        refine va_calli (va_runV (As := []) (rest := []) ⟨hx, hb, hml, hown, hts⟩ (s_X4_takeByte_92_62 hc) (cwV 0 hts (gV mw_13_28 mw_13_29 mw_14_0 mw_0_8 mw_49_16) rfl rfl rfl (by decide +kernel) ⟨(Nat.le_of_ble_eq_true rfl), (Nat.le_of_ble_eq_true rfl)⟩) (vV (ci := 4) (q0 := 92) hK hP hD hN rfl gA_92) rfl rfl hl.1 rfl (lv_room (Nat.le_of_ble_eq_true rfl)) dX4_takeLetters_19 ⟨(Nat.le_of_ble_eq_true rfl), (Nat.le_of_ble_eq_true rfl)⟩) hS (fun q _ h => hF q h) hF (fun r2 u t H locs ht hvm hw hB _ _ hS => ?_)
        obtain rfl : r2 = q1.1 := hw
        replace hP : va_P (dC, dI) vwCl (wA a k q1.2) H := by rw [← ht]; exact hB.1
        replace hD := hD0 (q1.2)
        clear hB hF
        refine lv_istore (lv' := [(6, .int q1.1), (0, .ref (a 92)), (1, .int x1), (2, .int x2), (3, .long x3), (5, .int x5)]) hx hb dX4_takeLetters_22 hl (by decide) rfl (fun ls hl => ?_)
        refine lv_iload hx hb dX4_takeLetters_24 (lv_at hl 0 rfl) ?_
        refine lv_bipush (v := 97) hx hb dX4_takeLetters_26 (by decide) ?_
        refine lv_icmp_lt (tgt := 38) hx hb dX4_takeLetters_28 (by decide) (fun hc => ?_) (fun hc => ?_)
        · replace h := ip hc h
          exact b_X4_takeLetters_38_92_62 hC ih h _ _ _ hP hD hS (lv_sub hl [1, 2, 3, 4, 5, 0] rfl)
        · replace h := iq hc h
          refine lv_iload hx hb dX4_takeLetters_31 (lv_at hl 0 rfl) ?_
          refine lv_bipush (v := 122) hx hb dX4_takeLetters_33 (by decide) ?_
          refine lv_icmp_le (tgt := 45) hx hb dX4_takeLetters_35 (by decide) (fun hc => ?_) (fun hc => ?_)
          · replace h := ip hc h
            exact b_X4_takeLetters_45_92_62 hC ih h _ _ _ hP hD hS (lv_sub hl [1, 2, 3, 4, 5, 0] rfl)
          · replace h := iq hc h
            exact b_X4_takeLetters_38_92_62 hC ih h _ _ _ hP hD hS (lv_sub hl [1, 2, 3, 4, 5, 0] rfl)

set_option maxRecDepth 100000 in
set_option maxHeartbeats 4000000 in
theorem b_X4_takeLetters_e_92_62 {p : Program} {l : Launch} {e : Env} {s : State} {m : MethodId} {args : Array Value} {below : List Frame} {meth : Method} {c : Code} {dC : Nat → ClassId} {dI : Nat → Nat → Nat} {a : Nat → Nat} {k : Nat → ClassId} {A : Nat → Prop} {q : Int64 × ST} (hC : CxA p s m args meth c dC dI k A cX4_takeLetters RX4 (some .long) 7)   {p0 : Int32} {p1 : Int32} {σ : ST} (h : f_X4_takeLetters 92 62 p0 p1 σ = some q) : GoA p l e ({ frames := 2, cells := 0, slots := 0, locals := 44 } : Room) s m args below meth c (MQ below (qAl dC dI a k A q) args s 0 0 A) dC dI a k A 7 0 σ (lv_args 0 [.ref (a 92), .int p0, .int p1]) [] := by
  have hC0 := hC
  obtain ⟨hx, hb, hr, hml, hown, hts, hlocks, hA, hN, hK⟩ := hC0
  intro H locs ls hP hD hS hl
  have hD0 : ∀ σ1 : ST, va_D A (wA a k σ1) := fun σ1 => wA_D hD
  replace hl : lv_has ls 7 [(0, .ref (a 92)), (1, .int p0), (2, .int p1)] := hl
  unfold f_X4_takeLetters at h
  refine lv_lconst (v := 0) hx hb dX4_takeLetters_0 (by decide) ?_
  refine lv_lstore_n (lv' := [(3, .long 0), (0, .ref (a 92)), (1, .int p0), (2, .int p1)]) hx hb dX4_takeLetters_1 rfl hl (by decide) rfl (fun ls hl => ?_)
  refine lv_iconst (v := 0) hx hb dX4_takeLetters_2 (by decide) ?_
  refine lv_istore (lv' := [(5, .int 0), (3, .long 0), (0, .ref (a 92)), (1, .int p0), (2, .int p1)]) hx hb dX4_takeLetters_3 hl (by decide) rfl (fun ls hl => ?_)
  exact b_X4_takeLetters_5_92_62 hC FU _ _ _ _ _ h _ _ _ hP hD hS (lv_sub hl [2, 3, 4, 1, 0] rfl)

theorem s_X4_takeLetters_92_62 {l : Launch} {dC : Nat → ClassId} {dI : Nat → Nat → Nat} {a : Nat → Nat} {k : Nat → ClassId} {sz : Nat} {p0 : Int32} {p1 : Int32} {σ : ST} {q : Int64 × ST} (h : f_X4_takeLetters 92 62 p0 p1 σ = some q) : Met l yX4_takeLetters (.code yX4_takeLetters cX4_takeLetters 7 (some .long) :: pw) ({ frames := 2, cells := 0, slots := 0, locals := 44 } : Room) (va_Pc [.ref (a 92), .int p0, .int p1] (vPre dC dI (wA a k σ) (tA k) sz)) (qAl dC dI a k (va_A (wA a k σ) sz) q) 0 0 (va_A (wA a k σ) sz) := metA (fun A => qAl dC dI a k A q) (plainFor_of_name (by decide)) (Nat.le_of_ble_eq_true rfl) (fun _ _ _ _ _ _ _ _ hC => b_X4_takeLetters_e_92_62 hC h)

set_option maxRecDepth 100000 in
set_option maxHeartbeats 4000000 in
theorem b_X4_takeLetters_45_92_74 {p : Program} {l : Launch} {e : Env} {s : State} {m : MethodId} {args : Array Value} {below : List Frame} {meth : Method} {c : Code} {dC : Nat → ClassId} {dI : Nat → Nat → Nat} {a : Nat → Nat} {k : Nat → ClassId} {A : Nat → Prop} {q : Int64 × ST} (hC : CxA p s m args meth c dC dI k A cX4_takeLetters RX4 (some .long) 7)  {k5 : Int32 → Int32 → Int64 → Int32 → ST → Option (Int64 × ST)} (hk5 : ∀ (x1 : Int32) (x2 : Int32) (x3 : Int64) (x5 : Int32) (σ : ST), k5 x1 x2 x3 x5 σ = some q → GoA p l e ({ frames := 2, cells := 0, slots := 0, locals := 44 } : Room) s m args below meth c (MQ below (qAl dC dI a k A q) args s 0 0 A) dC dI a k A 7 5 σ [(0, .ref (a 92)), (1, .int x1), (2, .int x2), (3, .long x3), (5, .int x5)] []) {x1 : Int32} {x2 : Int32} {x3 : Int64} {x5 : Int32} {x6 : Int32} {σ : ST} (h : f_X4_takeLetters_45 k5 92 74 x1 x2 x3 x5 x6 σ = some q) : GoA p l e ({ frames := 2, cells := 0, slots := 0, locals := 44 } : Room) s m args below meth c (MQ below (qAl dC dI a k A q) args s 0 0 A) dC dI a k A 7 45 σ [(0, .ref (a 92)), (1, .int x1), (2, .int x2), (3, .long x3), (5, .int x5), (6, .int x6)] [] := by
  have hC0 := hC
  obtain ⟨hx, hb, hr, hml, hown, hts, hlocks, hA, hN, hK⟩ := hC0
  intro H locs ls hP hD hS hl
  have hD0 : ∀ σ1 : ST, va_D A (wA a k σ1) := fun σ1 => wA_D hD
  unfold f_X4_takeLetters_45 at h
  refine lv_lload_n hx hb dX4_takeLetters_45 rfl (lv_at hl 3 rfl) ?_
  refine lv_iload hx hb dX4_takeLetters_46 (lv_at hl 5 rfl) ?_
  refine lv_bipush (v := 97) hx hb dX4_takeLetters_48 (by decide) ?_
  refine lv_isub hx hb dX4_takeLetters_50 ?_
  refine lv_iconst (v := 1) hx hb dX4_takeLetters_51 (by decide) ?_
  refine lv_iadd hx hb dX4_takeLetters_52 ?_
  refine lv_i2l (v := ((x6 - 97) + 1).toInt64) hx hb dX4_takeLetters_53 rfl ?_
  refine lv_iconst (v := 5) hx hb dX4_takeLetters_54 (by decide) ?_
  refine lv_iload hx hb dX4_takeLetters_55 (lv_at hl 4 rfl) ?_
  refine lv_imul hx hb dX4_takeLetters_57 ?_
  refine lv_lshl (v := ((((x6 - 97) + 1).toInt64) <<< ((5 * x5).toInt64 &&& 63))) hx hb dX4_takeLetters_58 rfl ?_
  refine lv_lor hx hb dX4_takeLetters_59 ?_
  obtain ⟨vv1, hs, h⟩ := ib h
  replace hs := Option.some.inj hs
  refine lv_topl (fun y9 e9 => ?_)
  obtain rfl : vv1 = y9 := (e9.trans hs).symm
  clear hs e9
  refine lv_lstore_n (lv' := [(3, .long vv1), (0, .ref (a 92)), (1, .int x1), (2, .int x2), (5, .int x5), (6, .int x6)]) hx hb dX4_takeLetters_60 rfl hl (by decide) rfl (fun ls hl => ?_)
  refine lv_iinc (v := (x5 + 1)) (lv' := [(5, .int (x5 + 1)), (3, .long vv1), (0, .ref (a 92)), (1, .int x1), (2, .int x2), (6, .int x6)]) hx hb dX4_takeLetters_61 hl (k := 4) rfl rfl (by decide) rfl (fun ls hl => ?_)
  refine lv_goto (tgt := 5) hx hb dX4_takeLetters_64 (by decide) ?_
  exact hk5 _ _ _ _ _ h _ _ _ hP hD hS (lv_sub hl [2, 3, 4, 1, 0] rfl)

set_option maxRecDepth 100000 in
set_option maxHeartbeats 4000000 in
theorem b_X4_takeLetters_38_92_74 {p : Program} {l : Launch} {e : Env} {s : State} {m : MethodId} {args : Array Value} {below : List Frame} {meth : Method} {c : Code} {dC : Nat → ClassId} {dI : Nat → Nat → Nat} {a : Nat → Nat} {k : Nat → ClassId} {A : Nat → Prop} {q : Int64 × ST} (hC : CxA p s m args meth c dC dI k A cX4_takeLetters RX4 (some .long) 7)  {k5 : Int32 → Int32 → Int64 → Int32 → ST → Option (Int64 × ST)} (hk5 : ∀ (x1 : Int32) (x2 : Int32) (x3 : Int64) (x5 : Int32) (σ : ST), k5 x1 x2 x3 x5 σ = some q → GoA p l e ({ frames := 2, cells := 0, slots := 0, locals := 44 } : Room) s m args below meth c (MQ below (qAl dC dI a k A q) args s 0 0 A) dC dI a k A 7 5 σ [(0, .ref (a 92)), (1, .int x1), (2, .int x2), (3, .long x3), (5, .int x5)] []) {x1 : Int32} {x2 : Int32} {x3 : Int64} {x5 : Int32} {x6 : Int32} {σ : ST} (h : f_X4_takeLetters_38 k5 92 74 x1 x2 x3 x5 x6 σ = some q) : GoA p l e ({ frames := 2, cells := 0, slots := 0, locals := 44 } : Room) s m args below meth c (MQ below (qAl dC dI a k A q) args s 0 0 A) dC dI a k A 7 38 σ [(0, .ref (a 92)), (1, .int x1), (2, .int x2), (3, .long x3), (5, .int x5), (6, .int x6)] [] := by
  have hC0 := hC
  obtain ⟨hx, hb, hr, hml, hown, hts, hlocks, hA, hN, hK⟩ := hC0
  intro H locs ls hP hD hS hl
  have hD0 : ∀ σ1 : ST, va_D A (wA a k σ1) := fun σ1 => wA_D hD
  unfold f_X4_takeLetters_38 at h
  refine lv_aload_n hx hb dX4_takeLetters_38 rfl (lv_at hl 0 rfl) ?_
  refine lv_bipush (v := 12) hx hb dX4_takeLetters_39 (by decide) ?_
  refine lv_iload_n hx hb dX4_takeLetters_41 rfl (lv_at hl 1 rfl) ?_
  obtain ⟨q1, hc, h⟩ := ib h
  have hF := va_frees hD hS hA
  refine va_callv (va_runV (As := [.int 12, .int x1]) (rest := []) ⟨hx, hb, hml, hown, hts⟩ (s_X4_fail_92_74 hc) (cwV 2 hts (gV mw_11_15 mw_11_16 mw_11_17 mw_0_8 mw_49_2) rfl rfl rfl (by decide +kernel) ⟨(Nat.le_of_ble_eq_true rfl), (Nat.le_of_ble_eq_true rfl)⟩) (vV (ci := 4) (q0 := 92) hK hP hD hN rfl gA_92) rfl rfl hl.1 rfl (lv_room (Nat.le_of_ble_eq_true rfl)) dX4_takeLetters_42 ⟨(Nat.le_of_ble_eq_true rfl), (Nat.le_of_ble_eq_true rfl)⟩) hS (fun q _ h => hF q h) hF (fun u t H locs ht hvm hw hB _ _ hS => ?_)
  replace hP : va_P (dC, dI) vwCl (wA a k q1) H := by rw [← ht]; exact hB.1
  replace hD := hD0 (q1)
  clear hB hF
  exact b_X4_takeLetters_45_92_74 hC hk5 h _ _ _ hP hD hS (lv_sub hl [0, 1, 2, 3, 4, 5] rfl)

set_option maxRecDepth 100000 in
set_option maxHeartbeats 4000000 in
theorem b_X4_takeLetters_5_92_74 {p : Program} {l : Launch} {e : Env} {s : State} {m : MethodId} {args : Array Value} {below : List Frame} {meth : Method} {c : Code} {dC : Nat → ClassId} {dI : Nat → Nat → Nat} {a : Nat → Nat} {k : Nat → ClassId} {A : Nat → Prop} {q : Int64 × ST} (hC : CxA p s m args meth c dC dI k A cX4_takeLetters RX4 (some .long) 7)   : ∀ (n : Nat) (x1 : Int32) (x2 : Int32) (x3 : Int64) (x5 : Int32) (σ : ST), f_X4_takeLetters_5 92 74 n x1 x2 x3 x5 σ = some q → GoA p l e ({ frames := 2, cells := 0, slots := 0, locals := 44 } : Room) s m args below meth c (MQ below (qAl dC dI a k A q) args s 0 0 A) dC dI a k A 7 5 σ [(0, .ref (a 92)), (1, .int x1), (2, .int x2), (3, .long x3), (5, .int x5)] [] := by
  intro n
  induction n with
  | zero =>
    intro x1 x2 x3 x5 σ h
    rw [f_X4_takeLetters_5] at h
    cases h
  | succ n ih =>
    intro x1 x2 x3 x5 σ h
    have hC0 := hC
    obtain ⟨hx, hb, hr, hml, hown, hts, hlocks, hA, hN, hK⟩ := hC0
    intro H locs ls hP hD hS hl
    have hD0 : ∀ σ1 : ST, va_D A (wA a k σ1) := fun σ1 => wA_D hD
    rw [f_X4_takeLetters_5] at h
    refine lv_iload hx hb dX4_takeLetters_5 (lv_at hl 4 rfl) ?_
    refine lv_iload_n hx hb dX4_takeLetters_7 rfl (lv_at hl 2 rfl) ?_
    refine lv_icmp_ge (tgt := 67) hx hb dX4_takeLetters_8 (by decide) (fun hc => ?_) (fun hc => ?_)
    · replace h := ip hc h
      refine lv_lload_n hx hb dX4_takeLetters_67 rfl (lv_at hl 3 rfl) ?_
      obtain rfl := Option.some.inj h
      exact W.lret hx hb hr (fun t ht hW => ⟨⟨_, (), rfl, rfl, ⟨by rw [ht]; exact hP, va_K.moved hW.alike hK, hD⟩⟩, hS.F ht⟩) hS.2.2 dX4_takeLetters_68
    · replace h := iq hc h
      refine lv_aload_n hx hb dX4_takeLetters_11 rfl (lv_at hl 0 rfl) ?_
      refine va_get (D := (dC, dI)) (ci := 4) (C := RX4) (T := TX4) (N := 12) hx hb hts inlX4 hown hK hP 92 gA_92 rfl 7 (by decide) (hts (.fieldLink RX4 21 "ShapeReader$Reading" "failure" "I") mw_10_23) (fun _ h9 => h9) rfl dX4_takeLetters_12 ?_
      refine lv_if_ne (tgt := 67) hx hb dX4_takeLetters_15 (by decide) (fun hc => ?_) (fun hc => ?_)
      · replace h := iq hc h
        refine lv_lload_n hx hb dX4_takeLetters_67 rfl (lv_at hl 3 rfl) ?_
        obtain rfl := Option.some.inj h
        exact W.lret hx hb hr (fun t ht hW => ⟨⟨_, (), rfl, rfl, ⟨by rw [ht]; exact hP, va_K.moved hW.alike hK, hD⟩⟩, hS.F ht⟩) hS.2.2 dX4_takeLetters_68
      · replace h := ip hc h
        refine lv_aload_n hx hb dX4_takeLetters_18 rfl (lv_at hl 0 rfl) ?_
        obtain ⟨q1, hc, h⟩ := ib h
        have hF := va_frees hD hS hA
        refine va_calli (va_runV (As := []) (rest := []) ⟨hx, hb, hml, hown, hts⟩ (s_X4_takeByte_92_74 hc) (cwV 0 hts (gV mw_13_28 mw_13_29 mw_14_0 mw_0_8 mw_49_16) rfl rfl rfl (by decide +kernel) ⟨(Nat.le_of_ble_eq_true rfl), (Nat.le_of_ble_eq_true rfl)⟩) (vV (ci := 4) (q0 := 92) hK hP hD hN rfl gA_92) rfl rfl hl.1 rfl (lv_room (Nat.le_of_ble_eq_true rfl)) dX4_takeLetters_19 ⟨(Nat.le_of_ble_eq_true rfl), (Nat.le_of_ble_eq_true rfl)⟩) hS (fun q _ h => hF q h) hF (fun r2 u t H locs ht hvm hw hB _ _ hS => ?_)
        obtain rfl : r2 = q1.1 := hw
        replace hP : va_P (dC, dI) vwCl (wA a k q1.2) H := by rw [← ht]; exact hB.1
        replace hD := hD0 (q1.2)
        clear hB hF
        refine lv_istore (lv' := [(6, .int q1.1), (0, .ref (a 92)), (1, .int x1), (2, .int x2), (3, .long x3), (5, .int x5)]) hx hb dX4_takeLetters_22 hl (by decide) rfl (fun ls hl => ?_)
        refine lv_iload hx hb dX4_takeLetters_24 (lv_at hl 0 rfl) ?_
        refine lv_bipush (v := 97) hx hb dX4_takeLetters_26 (by decide) ?_
        refine lv_icmp_lt (tgt := 38) hx hb dX4_takeLetters_28 (by decide) (fun hc => ?_) (fun hc => ?_)
        · replace h := ip hc h
          exact b_X4_takeLetters_38_92_74 hC ih h _ _ _ hP hD hS (lv_sub hl [1, 2, 3, 4, 5, 0] rfl)
        · replace h := iq hc h
          refine lv_iload hx hb dX4_takeLetters_31 (lv_at hl 0 rfl) ?_
          refine lv_bipush (v := 122) hx hb dX4_takeLetters_33 (by decide) ?_
          refine lv_icmp_le (tgt := 45) hx hb dX4_takeLetters_35 (by decide) (fun hc => ?_) (fun hc => ?_)
          · replace h := ip hc h
            exact b_X4_takeLetters_45_92_74 hC ih h _ _ _ hP hD hS (lv_sub hl [1, 2, 3, 4, 5, 0] rfl)
          · replace h := iq hc h
            exact b_X4_takeLetters_38_92_74 hC ih h _ _ _ hP hD hS (lv_sub hl [1, 2, 3, 4, 5, 0] rfl)

set_option maxRecDepth 100000 in
set_option maxHeartbeats 4000000 in
theorem b_X4_takeLetters_e_92_74 {p : Program} {l : Launch} {e : Env} {s : State} {m : MethodId} {args : Array Value} {below : List Frame} {meth : Method} {c : Code} {dC : Nat → ClassId} {dI : Nat → Nat → Nat} {a : Nat → Nat} {k : Nat → ClassId} {A : Nat → Prop} {q : Int64 × ST} (hC : CxA p s m args meth c dC dI k A cX4_takeLetters RX4 (some .long) 7)   {p0 : Int32} {p1 : Int32} {σ : ST} (h : f_X4_takeLetters 92 74 p0 p1 σ = some q) : GoA p l e ({ frames := 2, cells := 0, slots := 0, locals := 44 } : Room) s m args below meth c (MQ below (qAl dC dI a k A q) args s 0 0 A) dC dI a k A 7 0 σ (lv_args 0 [.ref (a 92), .int p0, .int p1]) [] := by
  have hC0 := hC
  obtain ⟨hx, hb, hr, hml, hown, hts, hlocks, hA, hN, hK⟩ := hC0
  intro H locs ls hP hD hS hl
  have hD0 : ∀ σ1 : ST, va_D A (wA a k σ1) := fun σ1 => wA_D hD
  replace hl : lv_has ls 7 [(0, .ref (a 92)), (1, .int p0), (2, .int p1)] := hl
  unfold f_X4_takeLetters at h
  refine lv_lconst (v := 0) hx hb dX4_takeLetters_0 (by decide) ?_
  refine lv_lstore_n (lv' := [(3, .long 0), (0, .ref (a 92)), (1, .int p0), (2, .int p1)]) hx hb dX4_takeLetters_1 rfl hl (by decide) rfl (fun ls hl => ?_)
  refine lv_iconst (v := 0) hx hb dX4_takeLetters_2 (by decide) ?_
  refine lv_istore (lv' := [(5, .int 0), (3, .long 0), (0, .ref (a 92)), (1, .int p0), (2, .int p1)]) hx hb dX4_takeLetters_3 hl (by decide) rfl (fun ls hl => ?_)
  exact b_X4_takeLetters_5_92_74 hC FU _ _ _ _ _ h _ _ _ hP hD hS (lv_sub hl [2, 3, 4, 1, 0] rfl)

theorem s_X4_takeLetters_92_74 {l : Launch} {dC : Nat → ClassId} {dI : Nat → Nat → Nat} {a : Nat → Nat} {k : Nat → ClassId} {sz : Nat} {p0 : Int32} {p1 : Int32} {σ : ST} {q : Int64 × ST} (h : f_X4_takeLetters 92 74 p0 p1 σ = some q) : Met l yX4_takeLetters (.code yX4_takeLetters cX4_takeLetters 7 (some .long) :: pw) ({ frames := 2, cells := 0, slots := 0, locals := 44 } : Room) (va_Pc [.ref (a 92), .int p0, .int p1] (vPre dC dI (wA a k σ) (tA k) sz)) (qAl dC dI a k (va_A (wA a k σ) sz) q) 0 0 (va_A (wA a k σ) sz) := metA (fun A => qAl dC dI a k A q) (plainFor_of_name (by decide)) (Nat.le_of_ble_eq_true rfl) (fun _ _ _ _ _ _ _ _ hC => b_X4_takeLetters_e_92_74 hC h)

def f_X4_takeReal_44 (b : Nat) (t : Nat) (x1 : Int64) (y0 : Int32) (σ : ST) : Option (Int64 × ST) := if y0 = 0 then (some (x1, σ)) else (some (9221120237041090560, σ))
def f_X4_takeReal_4 (b : Nat) (t : Nat) : Nat → Int64 → Int32 → ST → Option (Int64 × ST)
  | 0, _, _, _ => none
  | n + 1, x1, x3, σ => if 8 ≤ x3 then (if (lg_cmp (x1 &&& 9223372036854775807) 9218868437227405312) ≤ 0 then (f_X4_takeReal_44 b t x1 0 σ) else (f_X4_takeReal_44 b t x1 1 σ)) else ((f_X4_takeByte b t  σ).bind fun q1 => f_X4_takeReal_4 b t n ((x1 <<< ((8 : Int32).toInt64 &&& 63)) ||| (q1.1.toInt64)) (x3 + 1) q1.2)
def f_X4_takeReal (b : Nat) (t : Nat) (σ : ST) : Option (Int64 × ST) := f_X4_takeReal_4 b t FU 0 0 σ

set_option maxRecDepth 100000 in
set_option maxHeartbeats 4000000 in
theorem b_X4_takeReal_44_89_50 {p : Program} {l : Launch} {e : Env} {s : State} {m : MethodId} {args : Array Value} {below : List Frame} {meth : Method} {c : Code} {dC : Nat → ClassId} {dI : Nat → Nat → Nat} {a : Nat → Nat} {k : Nat → ClassId} {A : Nat → Prop} {q : Int64 × ST} (hC : CxA p s m args meth c dC dI k A cX4_takeReal RX4 (some .long) 4)   {x1 : Int64} {y0 : Int32} {σ : ST} (h : f_X4_takeReal_44 89 50 x1 y0 σ = some q) : GoA p l e ({ frames := 2, cells := 0, slots := 0, locals := 44 } : Room) s m args below meth c (MQ below (qAl dC dI a k A q) args s 0 0 A) dC dI a k A 4 44 σ [(1, .long x1)] [.int y0] := by
  have hC0 := hC
  obtain ⟨hx, hb, hr, hml, hown, hts, hlocks, hA, hN, hK⟩ := hC0
  intro H locs ls hP hD hS hl
  have hD0 : ∀ σ1 : ST, va_D A (wA a k σ1) := fun σ1 => wA_D hD
  unfold f_X4_takeReal_44 at h
  refine lv_istore_n (lv' := [(3, .int y0), (1, .long x1)]) hx hb dX4_takeReal_44 rfl hl (by decide) rfl (fun ls hl => ?_)
  refine lv_iload_n hx hb dX4_takeReal_45 rfl (lv_at hl 0 rfl) ?_
  refine lv_if_eq (tgt := 55) hx hb dX4_takeReal_46 (by decide) (fun hc => ?_) (fun hc => ?_)
  · replace h := ip hc h
    refine lv_lload_n hx hb dX4_takeReal_55 rfl (lv_at hl 1 rfl) ?_
    obtain rfl := Option.some.inj h
    exact W.lret hx hb hr (fun t ht hW => ⟨⟨_, (), rfl, rfl, ⟨by rw [ht]; exact hP, va_K.moved hW.alike hK, hD⟩⟩, hS.F ht⟩) hS.2.2 dX4_takeReal_56
  · replace h := iq hc h
    refine lv_ldc2 (v := 9221120237041090560) hx hb hown (hts (.constantLong RX4 224 (9221120237041090560)) mw_14_15) dX4_takeReal_49 ?_
    refine lv_goto (tgt := 56) hx hb dX4_takeReal_52 (by decide) ?_
    obtain rfl := Option.some.inj h
    exact W.lret hx hb hr (fun t ht hW => ⟨⟨_, (), rfl, rfl, ⟨by rw [ht]; exact hP, va_K.moved hW.alike hK, hD⟩⟩, hS.F ht⟩) hS.2.2 dX4_takeReal_56

set_option maxRecDepth 100000 in
set_option maxHeartbeats 4000000 in
theorem b_X4_takeReal_4_89_50 {p : Program} {l : Launch} {e : Env} {s : State} {m : MethodId} {args : Array Value} {below : List Frame} {meth : Method} {c : Code} {dC : Nat → ClassId} {dI : Nat → Nat → Nat} {a : Nat → Nat} {k : Nat → ClassId} {A : Nat → Prop} {q : Int64 × ST} (hC : CxA p s m args meth c dC dI k A cX4_takeReal RX4 (some .long) 4)   : ∀ (n : Nat) (x1 : Int64) (x3 : Int32) (σ : ST), f_X4_takeReal_4 89 50 n x1 x3 σ = some q → GoA p l e ({ frames := 2, cells := 0, slots := 0, locals := 44 } : Room) s m args below meth c (MQ below (qAl dC dI a k A q) args s 0 0 A) dC dI a k A 4 4 σ [(0, .ref (a 89)), (1, .long x1), (3, .int x3)] [] := by
  intro n
  induction n with
  | zero =>
    intro x1 x3 σ h
    rw [f_X4_takeReal_4] at h
    cases h
  | succ n ih =>
    intro x1 x3 σ h
    have hC0 := hC
    obtain ⟨hx, hb, hr, hml, hown, hts, hlocks, hA, hN, hK⟩ := hC0
    intro H locs ls hP hD hS hl
    have hD0 : ∀ σ1 : ST, va_D A (wA a k σ1) := fun σ1 => wA_D hD
    rw [f_X4_takeReal_4] at h
    refine lv_iload_n hx hb dX4_takeReal_4 rfl (lv_at hl 2 rfl) ?_
    refine lv_bipush (v := 8) hx hb dX4_takeReal_5 (by decide) ?_
    refine lv_icmp_ge (tgt := 27) hx hb dX4_takeReal_7 (by decide) (fun hc => ?_) (fun hc => ?_)
    · replace h := ip hc h
      refine lv_lload_n hx hb dX4_takeReal_27 rfl (lv_at hl 1 rfl) ?_
      refine lv_ldc2 (v := 9223372036854775807) hx hb hown (hts (.constantLong RX4 220 (9223372036854775807)) mw_14_13) dX4_takeReal_28 ?_
      refine lv_land hx hb dX4_takeReal_31 ?_
      refine lv_ldc2 (v := 9218868437227405312) hx hb hown (hts (.constantLong RX4 222 (9218868437227405312)) mw_14_14) dX4_takeReal_32 ?_
      refine W.lcmp hx hb dX4_takeReal_35 ?_
      refine lv_if_le (tgt := 43) hx hb dX4_takeReal_36 (by decide) (fun hc => ?_) (fun hc => ?_)
      · replace h := ip hc h
        refine lv_iconst (v := 0) hx hb dX4_takeReal_43 (by decide) ?_
        exact b_X4_takeReal_44_89_50 hC h _ _ _ hP hD hS (lv_sub hl [1] rfl)
      · replace h := iq hc h
        refine lv_iconst (v := 1) hx hb dX4_takeReal_39 (by decide) ?_
        refine lv_goto (tgt := 44) hx hb dX4_takeReal_40 (by decide) ?_
        exact b_X4_takeReal_44_89_50 hC h _ _ _ hP hD hS (lv_sub hl [1] rfl)
    · replace h := iq hc h
      refine lv_lload_n hx hb dX4_takeReal_10 rfl (lv_at hl 1 rfl) ?_
      refine lv_bipush (v := 8) hx hb dX4_takeReal_11 (by decide) ?_
      refine lv_lshl (v := (x1 <<< ((8 : Int32).toInt64 &&& 63))) hx hb dX4_takeReal_13 rfl ?_
      refine lv_aload_n hx hb dX4_takeReal_14 rfl (lv_at hl 0 rfl) ?_
      obtain ⟨q1, hc, h⟩ := ib h
      have hF := va_frees hD hS hA
      refine va_calli (va_runV (As := []) (rest := [.long (x1 <<< ((8 : Int32).toInt64 &&& 63))]) ⟨hx, hb, hml, hown, hts⟩ (s_X4_takeByte_89_50 hc) (cwV 0 hts (gV mw_13_28 mw_13_29 mw_14_0 mw_0_8 mw_49_16) rfl rfl rfl (by decide +kernel) ⟨(Nat.le_of_ble_eq_true rfl), (Nat.le_of_ble_eq_true rfl)⟩) (vV (ci := 4) (q0 := 89) hK hP hD hN rfl gA_89) rfl rfl hl.1 rfl (lv_room (Nat.le_of_ble_eq_true rfl)) dX4_takeReal_15 ⟨(Nat.le_of_ble_eq_true rfl), (Nat.le_of_ble_eq_true rfl)⟩) hS (fun q _ h => hF q h) hF (fun r2 u t H locs ht hvm hw hB _ _ hS => ?_)
      obtain rfl : r2 = q1.1 := hw
      replace hP : va_P (dC, dI) vwCl (wA a k q1.2) H := by rw [← ht]; exact hB.1
      replace hD := hD0 (q1.2)
      clear hB hF
      refine lv_i2l (v := q1.1.toInt64) hx hb dX4_takeReal_18 rfl ?_
      refine lv_lor hx hb dX4_takeReal_19 ?_
      refine lv_lstore_n (lv' := [(1, .long ((x1 <<< ((8 : Int32).toInt64 &&& 63)) ||| (q1.1.toInt64))), (0, .ref (a 89)), (3, .int x3)]) hx hb dX4_takeReal_20 rfl hl (by decide) rfl (fun ls hl => ?_)
      refine lv_iinc (v := (x3 + 1)) (lv' := [(3, .int (x3 + 1)), (1, .long ((x1 <<< ((8 : Int32).toInt64 &&& 63)) ||| (q1.1.toInt64))), (0, .ref (a 89))]) hx hb dX4_takeReal_21 hl (k := 2) rfl rfl (by decide) rfl (fun ls hl => ?_)
      refine lv_goto (tgt := 4) hx hb dX4_takeReal_24 (by decide) ?_
      exact ih _ _ _ h _ _ _ hP hD hS (lv_sub hl [2, 1, 0] rfl)

set_option maxRecDepth 100000 in
set_option maxHeartbeats 4000000 in
theorem b_X4_takeReal_e_89_50 {p : Program} {l : Launch} {e : Env} {s : State} {m : MethodId} {args : Array Value} {below : List Frame} {meth : Method} {c : Code} {dC : Nat → ClassId} {dI : Nat → Nat → Nat} {a : Nat → Nat} {k : Nat → ClassId} {A : Nat → Prop} {q : Int64 × ST} (hC : CxA p s m args meth c dC dI k A cX4_takeReal RX4 (some .long) 4)    {σ : ST} (h : f_X4_takeReal 89 50  σ = some q) : GoA p l e ({ frames := 2, cells := 0, slots := 0, locals := 44 } : Room) s m args below meth c (MQ below (qAl dC dI a k A q) args s 0 0 A) dC dI a k A 4 0 σ (lv_args 0 [.ref (a 89)]) [] := by
  have hC0 := hC
  obtain ⟨hx, hb, hr, hml, hown, hts, hlocks, hA, hN, hK⟩ := hC0
  intro H locs ls hP hD hS hl
  have hD0 : ∀ σ1 : ST, va_D A (wA a k σ1) := fun σ1 => wA_D hD
  replace hl : lv_has ls 4 [(0, .ref (a 89))] := hl
  unfold f_X4_takeReal at h
  refine lv_lconst (v := 0) hx hb dX4_takeReal_0 (by decide) ?_
  refine lv_lstore_n (lv' := [(1, .long 0), (0, .ref (a 89))]) hx hb dX4_takeReal_1 rfl hl (by decide) rfl (fun ls hl => ?_)
  refine lv_iconst (v := 0) hx hb dX4_takeReal_2 (by decide) ?_
  refine lv_istore_n (lv' := [(3, .int 0), (1, .long 0), (0, .ref (a 89))]) hx hb dX4_takeReal_3 rfl hl (by decide) rfl (fun ls hl => ?_)
  exact b_X4_takeReal_4_89_50 hC FU _ _ _ h _ _ _ hP hD hS (lv_sub hl [2, 1, 0] rfl)

theorem s_X4_takeReal_89_50 {l : Launch} {dC : Nat → ClassId} {dI : Nat → Nat → Nat} {a : Nat → Nat} {k : Nat → ClassId} {sz : Nat}  {σ : ST} {q : Int64 × ST} (h : f_X4_takeReal 89 50  σ = some q) : Met l yX4_takeReal (.code yX4_takeReal cX4_takeReal 4 (some .long) :: pw) ({ frames := 2, cells := 0, slots := 0, locals := 44 } : Room) (va_Pc [.ref (a 89)] (vPre dC dI (wA a k σ) (tA k) sz)) (qAl dC dI a k (va_A (wA a k σ) sz) q) 0 0 (va_A (wA a k σ) sz) := metA (fun A => qAl dC dI a k A q) (plainFor_of_name (by decide)) (Nat.le_of_ble_eq_true rfl) (fun _ _ _ _ _ _ _ _ hC => b_X4_takeReal_e_89_50 hC h)

set_option maxRecDepth 100000 in
set_option maxHeartbeats 4000000 in
theorem b_X4_takeReal_44_92_62 {p : Program} {l : Launch} {e : Env} {s : State} {m : MethodId} {args : Array Value} {below : List Frame} {meth : Method} {c : Code} {dC : Nat → ClassId} {dI : Nat → Nat → Nat} {a : Nat → Nat} {k : Nat → ClassId} {A : Nat → Prop} {q : Int64 × ST} (hC : CxA p s m args meth c dC dI k A cX4_takeReal RX4 (some .long) 4)   {x1 : Int64} {y0 : Int32} {σ : ST} (h : f_X4_takeReal_44 92 62 x1 y0 σ = some q) : GoA p l e ({ frames := 2, cells := 0, slots := 0, locals := 44 } : Room) s m args below meth c (MQ below (qAl dC dI a k A q) args s 0 0 A) dC dI a k A 4 44 σ [(1, .long x1)] [.int y0] := by
  have hC0 := hC
  obtain ⟨hx, hb, hr, hml, hown, hts, hlocks, hA, hN, hK⟩ := hC0
  intro H locs ls hP hD hS hl
  have hD0 : ∀ σ1 : ST, va_D A (wA a k σ1) := fun σ1 => wA_D hD
  unfold f_X4_takeReal_44 at h
  refine lv_istore_n (lv' := [(3, .int y0), (1, .long x1)]) hx hb dX4_takeReal_44 rfl hl (by decide) rfl (fun ls hl => ?_)
  refine lv_iload_n hx hb dX4_takeReal_45 rfl (lv_at hl 0 rfl) ?_
  refine lv_if_eq (tgt := 55) hx hb dX4_takeReal_46 (by decide) (fun hc => ?_) (fun hc => ?_)
  · replace h := ip hc h
    refine lv_lload_n hx hb dX4_takeReal_55 rfl (lv_at hl 1 rfl) ?_
    obtain rfl := Option.some.inj h
    exact W.lret hx hb hr (fun t ht hW => ⟨⟨_, (), rfl, rfl, ⟨by rw [ht]; exact hP, va_K.moved hW.alike hK, hD⟩⟩, hS.F ht⟩) hS.2.2 dX4_takeReal_56
  · replace h := iq hc h
    refine lv_ldc2 (v := 9221120237041090560) hx hb hown (hts (.constantLong RX4 224 (9221120237041090560)) mw_14_15) dX4_takeReal_49 ?_
    refine lv_goto (tgt := 56) hx hb dX4_takeReal_52 (by decide) ?_
    obtain rfl := Option.some.inj h
    exact W.lret hx hb hr (fun t ht hW => ⟨⟨_, (), rfl, rfl, ⟨by rw [ht]; exact hP, va_K.moved hW.alike hK, hD⟩⟩, hS.F ht⟩) hS.2.2 dX4_takeReal_56

set_option maxRecDepth 100000 in
set_option maxHeartbeats 4000000 in
theorem b_X4_takeReal_4_92_62 {p : Program} {l : Launch} {e : Env} {s : State} {m : MethodId} {args : Array Value} {below : List Frame} {meth : Method} {c : Code} {dC : Nat → ClassId} {dI : Nat → Nat → Nat} {a : Nat → Nat} {k : Nat → ClassId} {A : Nat → Prop} {q : Int64 × ST} (hC : CxA p s m args meth c dC dI k A cX4_takeReal RX4 (some .long) 4)   : ∀ (n : Nat) (x1 : Int64) (x3 : Int32) (σ : ST), f_X4_takeReal_4 92 62 n x1 x3 σ = some q → GoA p l e ({ frames := 2, cells := 0, slots := 0, locals := 44 } : Room) s m args below meth c (MQ below (qAl dC dI a k A q) args s 0 0 A) dC dI a k A 4 4 σ [(0, .ref (a 92)), (1, .long x1), (3, .int x3)] [] := by
  intro n
  induction n with
  | zero =>
    intro x1 x3 σ h
    rw [f_X4_takeReal_4] at h
    cases h
  | succ n ih =>
    intro x1 x3 σ h
    have hC0 := hC
    obtain ⟨hx, hb, hr, hml, hown, hts, hlocks, hA, hN, hK⟩ := hC0
    intro H locs ls hP hD hS hl
    have hD0 : ∀ σ1 : ST, va_D A (wA a k σ1) := fun σ1 => wA_D hD
    rw [f_X4_takeReal_4] at h
    refine lv_iload_n hx hb dX4_takeReal_4 rfl (lv_at hl 2 rfl) ?_
    refine lv_bipush (v := 8) hx hb dX4_takeReal_5 (by decide) ?_
    refine lv_icmp_ge (tgt := 27) hx hb dX4_takeReal_7 (by decide) (fun hc => ?_) (fun hc => ?_)
    · replace h := ip hc h
      refine lv_lload_n hx hb dX4_takeReal_27 rfl (lv_at hl 1 rfl) ?_
      refine lv_ldc2 (v := 9223372036854775807) hx hb hown (hts (.constantLong RX4 220 (9223372036854775807)) mw_14_13) dX4_takeReal_28 ?_
      refine lv_land hx hb dX4_takeReal_31 ?_
      refine lv_ldc2 (v := 9218868437227405312) hx hb hown (hts (.constantLong RX4 222 (9218868437227405312)) mw_14_14) dX4_takeReal_32 ?_
      refine W.lcmp hx hb dX4_takeReal_35 ?_
      refine lv_if_le (tgt := 43) hx hb dX4_takeReal_36 (by decide) (fun hc => ?_) (fun hc => ?_)
      · replace h := ip hc h
        refine lv_iconst (v := 0) hx hb dX4_takeReal_43 (by decide) ?_
        exact b_X4_takeReal_44_92_62 hC h _ _ _ hP hD hS (lv_sub hl [1] rfl)
      · replace h := iq hc h
        refine lv_iconst (v := 1) hx hb dX4_takeReal_39 (by decide) ?_
        refine lv_goto (tgt := 44) hx hb dX4_takeReal_40 (by decide) ?_
        exact b_X4_takeReal_44_92_62 hC h _ _ _ hP hD hS (lv_sub hl [1] rfl)
    · replace h := iq hc h
      refine lv_lload_n hx hb dX4_takeReal_10 rfl (lv_at hl 1 rfl) ?_
      refine lv_bipush (v := 8) hx hb dX4_takeReal_11 (by decide) ?_
      refine lv_lshl (v := (x1 <<< ((8 : Int32).toInt64 &&& 63))) hx hb dX4_takeReal_13 rfl ?_
      refine lv_aload_n hx hb dX4_takeReal_14 rfl (lv_at hl 0 rfl) ?_
      obtain ⟨q1, hc, h⟩ := ib h
      have hF := va_frees hD hS hA
      refine va_calli (va_runV (As := []) (rest := [.long (x1 <<< ((8 : Int32).toInt64 &&& 63))]) ⟨hx, hb, hml, hown, hts⟩ (s_X4_takeByte_92_62 hc) (cwV 0 hts (gV mw_13_28 mw_13_29 mw_14_0 mw_0_8 mw_49_16) rfl rfl rfl (by decide +kernel) ⟨(Nat.le_of_ble_eq_true rfl), (Nat.le_of_ble_eq_true rfl)⟩) (vV (ci := 4) (q0 := 92) hK hP hD hN rfl gA_92) rfl rfl hl.1 rfl (lv_room (Nat.le_of_ble_eq_true rfl)) dX4_takeReal_15 ⟨(Nat.le_of_ble_eq_true rfl), (Nat.le_of_ble_eq_true rfl)⟩) hS (fun q _ h => hF q h) hF (fun r2 u t H locs ht hvm hw hB _ _ hS => ?_)
      obtain rfl : r2 = q1.1 := hw
      replace hP : va_P (dC, dI) vwCl (wA a k q1.2) H := by rw [← ht]; exact hB.1
      replace hD := hD0 (q1.2)
      clear hB hF
      refine lv_i2l (v := q1.1.toInt64) hx hb dX4_takeReal_18 rfl ?_
      refine lv_lor hx hb dX4_takeReal_19 ?_
      refine lv_lstore_n (lv' := [(1, .long ((x1 <<< ((8 : Int32).toInt64 &&& 63)) ||| (q1.1.toInt64))), (0, .ref (a 92)), (3, .int x3)]) hx hb dX4_takeReal_20 rfl hl (by decide) rfl (fun ls hl => ?_)
      refine lv_iinc (v := (x3 + 1)) (lv' := [(3, .int (x3 + 1)), (1, .long ((x1 <<< ((8 : Int32).toInt64 &&& 63)) ||| (q1.1.toInt64))), (0, .ref (a 92))]) hx hb dX4_takeReal_21 hl (k := 2) rfl rfl (by decide) rfl (fun ls hl => ?_)
      refine lv_goto (tgt := 4) hx hb dX4_takeReal_24 (by decide) ?_
      exact ih _ _ _ h _ _ _ hP hD hS (lv_sub hl [2, 1, 0] rfl)

set_option maxRecDepth 100000 in
set_option maxHeartbeats 4000000 in
theorem b_X4_takeReal_e_92_62 {p : Program} {l : Launch} {e : Env} {s : State} {m : MethodId} {args : Array Value} {below : List Frame} {meth : Method} {c : Code} {dC : Nat → ClassId} {dI : Nat → Nat → Nat} {a : Nat → Nat} {k : Nat → ClassId} {A : Nat → Prop} {q : Int64 × ST} (hC : CxA p s m args meth c dC dI k A cX4_takeReal RX4 (some .long) 4)    {σ : ST} (h : f_X4_takeReal 92 62  σ = some q) : GoA p l e ({ frames := 2, cells := 0, slots := 0, locals := 44 } : Room) s m args below meth c (MQ below (qAl dC dI a k A q) args s 0 0 A) dC dI a k A 4 0 σ (lv_args 0 [.ref (a 92)]) [] := by
  have hC0 := hC
  obtain ⟨hx, hb, hr, hml, hown, hts, hlocks, hA, hN, hK⟩ := hC0
  intro H locs ls hP hD hS hl
  have hD0 : ∀ σ1 : ST, va_D A (wA a k σ1) := fun σ1 => wA_D hD
  replace hl : lv_has ls 4 [(0, .ref (a 92))] := hl
  unfold f_X4_takeReal at h
  refine lv_lconst (v := 0) hx hb dX4_takeReal_0 (by decide) ?_
  refine lv_lstore_n (lv' := [(1, .long 0), (0, .ref (a 92))]) hx hb dX4_takeReal_1 rfl hl (by decide) rfl (fun ls hl => ?_)
  refine lv_iconst (v := 0) hx hb dX4_takeReal_2 (by decide) ?_
  refine lv_istore_n (lv' := [(3, .int 0), (1, .long 0), (0, .ref (a 92))]) hx hb dX4_takeReal_3 rfl hl (by decide) rfl (fun ls hl => ?_)
  exact b_X4_takeReal_4_92_62 hC FU _ _ _ h _ _ _ hP hD hS (lv_sub hl [2, 1, 0] rfl)

theorem s_X4_takeReal_92_62 {l : Launch} {dC : Nat → ClassId} {dI : Nat → Nat → Nat} {a : Nat → Nat} {k : Nat → ClassId} {sz : Nat}  {σ : ST} {q : Int64 × ST} (h : f_X4_takeReal 92 62  σ = some q) : Met l yX4_takeReal (.code yX4_takeReal cX4_takeReal 4 (some .long) :: pw) ({ frames := 2, cells := 0, slots := 0, locals := 44 } : Room) (va_Pc [.ref (a 92)] (vPre dC dI (wA a k σ) (tA k) sz)) (qAl dC dI a k (va_A (wA a k σ) sz) q) 0 0 (va_A (wA a k σ) sz) := metA (fun A => qAl dC dI a k A q) (plainFor_of_name (by decide)) (Nat.le_of_ble_eq_true rfl) (fun _ _ _ _ _ _ _ _ hC => b_X4_takeReal_e_92_62 hC h)

set_option maxRecDepth 100000 in
set_option maxHeartbeats 4000000 in
theorem b_X4_takeReal_44_92_74 {p : Program} {l : Launch} {e : Env} {s : State} {m : MethodId} {args : Array Value} {below : List Frame} {meth : Method} {c : Code} {dC : Nat → ClassId} {dI : Nat → Nat → Nat} {a : Nat → Nat} {k : Nat → ClassId} {A : Nat → Prop} {q : Int64 × ST} (hC : CxA p s m args meth c dC dI k A cX4_takeReal RX4 (some .long) 4)   {x1 : Int64} {y0 : Int32} {σ : ST} (h : f_X4_takeReal_44 92 74 x1 y0 σ = some q) : GoA p l e ({ frames := 2, cells := 0, slots := 0, locals := 44 } : Room) s m args below meth c (MQ below (qAl dC dI a k A q) args s 0 0 A) dC dI a k A 4 44 σ [(1, .long x1)] [.int y0] := by
  have hC0 := hC
  obtain ⟨hx, hb, hr, hml, hown, hts, hlocks, hA, hN, hK⟩ := hC0
  intro H locs ls hP hD hS hl
  have hD0 : ∀ σ1 : ST, va_D A (wA a k σ1) := fun σ1 => wA_D hD
  unfold f_X4_takeReal_44 at h
  refine lv_istore_n (lv' := [(3, .int y0), (1, .long x1)]) hx hb dX4_takeReal_44 rfl hl (by decide) rfl (fun ls hl => ?_)
  refine lv_iload_n hx hb dX4_takeReal_45 rfl (lv_at hl 0 rfl) ?_
  refine lv_if_eq (tgt := 55) hx hb dX4_takeReal_46 (by decide) (fun hc => ?_) (fun hc => ?_)
  · replace h := ip hc h
    refine lv_lload_n hx hb dX4_takeReal_55 rfl (lv_at hl 1 rfl) ?_
    obtain rfl := Option.some.inj h
    exact W.lret hx hb hr (fun t ht hW => ⟨⟨_, (), rfl, rfl, ⟨by rw [ht]; exact hP, va_K.moved hW.alike hK, hD⟩⟩, hS.F ht⟩) hS.2.2 dX4_takeReal_56
  · replace h := iq hc h
    refine lv_ldc2 (v := 9221120237041090560) hx hb hown (hts (.constantLong RX4 224 (9221120237041090560)) mw_14_15) dX4_takeReal_49 ?_
    refine lv_goto (tgt := 56) hx hb dX4_takeReal_52 (by decide) ?_
    obtain rfl := Option.some.inj h
    exact W.lret hx hb hr (fun t ht hW => ⟨⟨_, (), rfl, rfl, ⟨by rw [ht]; exact hP, va_K.moved hW.alike hK, hD⟩⟩, hS.F ht⟩) hS.2.2 dX4_takeReal_56

set_option maxRecDepth 100000 in
set_option maxHeartbeats 4000000 in
theorem b_X4_takeReal_4_92_74 {p : Program} {l : Launch} {e : Env} {s : State} {m : MethodId} {args : Array Value} {below : List Frame} {meth : Method} {c : Code} {dC : Nat → ClassId} {dI : Nat → Nat → Nat} {a : Nat → Nat} {k : Nat → ClassId} {A : Nat → Prop} {q : Int64 × ST} (hC : CxA p s m args meth c dC dI k A cX4_takeReal RX4 (some .long) 4)   : ∀ (n : Nat) (x1 : Int64) (x3 : Int32) (σ : ST), f_X4_takeReal_4 92 74 n x1 x3 σ = some q → GoA p l e ({ frames := 2, cells := 0, slots := 0, locals := 44 } : Room) s m args below meth c (MQ below (qAl dC dI a k A q) args s 0 0 A) dC dI a k A 4 4 σ [(0, .ref (a 92)), (1, .long x1), (3, .int x3)] [] := by
  intro n
  induction n with
  | zero =>
    intro x1 x3 σ h
    rw [f_X4_takeReal_4] at h
    cases h
  | succ n ih =>
    intro x1 x3 σ h
    have hC0 := hC
    obtain ⟨hx, hb, hr, hml, hown, hts, hlocks, hA, hN, hK⟩ := hC0
    intro H locs ls hP hD hS hl
    have hD0 : ∀ σ1 : ST, va_D A (wA a k σ1) := fun σ1 => wA_D hD
    rw [f_X4_takeReal_4] at h
    refine lv_iload_n hx hb dX4_takeReal_4 rfl (lv_at hl 2 rfl) ?_
    refine lv_bipush (v := 8) hx hb dX4_takeReal_5 (by decide) ?_
    refine lv_icmp_ge (tgt := 27) hx hb dX4_takeReal_7 (by decide) (fun hc => ?_) (fun hc => ?_)
    · replace h := ip hc h
      refine lv_lload_n hx hb dX4_takeReal_27 rfl (lv_at hl 1 rfl) ?_
      refine lv_ldc2 (v := 9223372036854775807) hx hb hown (hts (.constantLong RX4 220 (9223372036854775807)) mw_14_13) dX4_takeReal_28 ?_
      refine lv_land hx hb dX4_takeReal_31 ?_
      refine lv_ldc2 (v := 9218868437227405312) hx hb hown (hts (.constantLong RX4 222 (9218868437227405312)) mw_14_14) dX4_takeReal_32 ?_
      refine W.lcmp hx hb dX4_takeReal_35 ?_
      refine lv_if_le (tgt := 43) hx hb dX4_takeReal_36 (by decide) (fun hc => ?_) (fun hc => ?_)
      · replace h := ip hc h
        refine lv_iconst (v := 0) hx hb dX4_takeReal_43 (by decide) ?_
        exact b_X4_takeReal_44_92_74 hC h _ _ _ hP hD hS (lv_sub hl [1] rfl)
      · replace h := iq hc h
        refine lv_iconst (v := 1) hx hb dX4_takeReal_39 (by decide) ?_
        refine lv_goto (tgt := 44) hx hb dX4_takeReal_40 (by decide) ?_
        exact b_X4_takeReal_44_92_74 hC h _ _ _ hP hD hS (lv_sub hl [1] rfl)
    · replace h := iq hc h
      refine lv_lload_n hx hb dX4_takeReal_10 rfl (lv_at hl 1 rfl) ?_
      refine lv_bipush (v := 8) hx hb dX4_takeReal_11 (by decide) ?_
      refine lv_lshl (v := (x1 <<< ((8 : Int32).toInt64 &&& 63))) hx hb dX4_takeReal_13 rfl ?_
      refine lv_aload_n hx hb dX4_takeReal_14 rfl (lv_at hl 0 rfl) ?_
      obtain ⟨q1, hc, h⟩ := ib h
      have hF := va_frees hD hS hA
      refine va_calli (va_runV (As := []) (rest := [.long (x1 <<< ((8 : Int32).toInt64 &&& 63))]) ⟨hx, hb, hml, hown, hts⟩ (s_X4_takeByte_92_74 hc) (cwV 0 hts (gV mw_13_28 mw_13_29 mw_14_0 mw_0_8 mw_49_16) rfl rfl rfl (by decide +kernel) ⟨(Nat.le_of_ble_eq_true rfl), (Nat.le_of_ble_eq_true rfl)⟩) (vV (ci := 4) (q0 := 92) hK hP hD hN rfl gA_92) rfl rfl hl.1 rfl (lv_room (Nat.le_of_ble_eq_true rfl)) dX4_takeReal_15 ⟨(Nat.le_of_ble_eq_true rfl), (Nat.le_of_ble_eq_true rfl)⟩) hS (fun q _ h => hF q h) hF (fun r2 u t H locs ht hvm hw hB _ _ hS => ?_)
      obtain rfl : r2 = q1.1 := hw
      replace hP : va_P (dC, dI) vwCl (wA a k q1.2) H := by rw [← ht]; exact hB.1
      replace hD := hD0 (q1.2)
      clear hB hF
      refine lv_i2l (v := q1.1.toInt64) hx hb dX4_takeReal_18 rfl ?_
      refine lv_lor hx hb dX4_takeReal_19 ?_
      refine lv_lstore_n (lv' := [(1, .long ((x1 <<< ((8 : Int32).toInt64 &&& 63)) ||| (q1.1.toInt64))), (0, .ref (a 92)), (3, .int x3)]) hx hb dX4_takeReal_20 rfl hl (by decide) rfl (fun ls hl => ?_)
      refine lv_iinc (v := (x3 + 1)) (lv' := [(3, .int (x3 + 1)), (1, .long ((x1 <<< ((8 : Int32).toInt64 &&& 63)) ||| (q1.1.toInt64))), (0, .ref (a 92))]) hx hb dX4_takeReal_21 hl (k := 2) rfl rfl (by decide) rfl (fun ls hl => ?_)
      refine lv_goto (tgt := 4) hx hb dX4_takeReal_24 (by decide) ?_
      exact ih _ _ _ h _ _ _ hP hD hS (lv_sub hl [2, 1, 0] rfl)

set_option maxRecDepth 100000 in
set_option maxHeartbeats 4000000 in
theorem b_X4_takeReal_e_92_74 {p : Program} {l : Launch} {e : Env} {s : State} {m : MethodId} {args : Array Value} {below : List Frame} {meth : Method} {c : Code} {dC : Nat → ClassId} {dI : Nat → Nat → Nat} {a : Nat → Nat} {k : Nat → ClassId} {A : Nat → Prop} {q : Int64 × ST} (hC : CxA p s m args meth c dC dI k A cX4_takeReal RX4 (some .long) 4)    {σ : ST} (h : f_X4_takeReal 92 74  σ = some q) : GoA p l e ({ frames := 2, cells := 0, slots := 0, locals := 44 } : Room) s m args below meth c (MQ below (qAl dC dI a k A q) args s 0 0 A) dC dI a k A 4 0 σ (lv_args 0 [.ref (a 92)]) [] := by
  have hC0 := hC
  obtain ⟨hx, hb, hr, hml, hown, hts, hlocks, hA, hN, hK⟩ := hC0
  intro H locs ls hP hD hS hl
  have hD0 : ∀ σ1 : ST, va_D A (wA a k σ1) := fun σ1 => wA_D hD
  replace hl : lv_has ls 4 [(0, .ref (a 92))] := hl
  unfold f_X4_takeReal at h
  refine lv_lconst (v := 0) hx hb dX4_takeReal_0 (by decide) ?_
  refine lv_lstore_n (lv' := [(1, .long 0), (0, .ref (a 92))]) hx hb dX4_takeReal_1 rfl hl (by decide) rfl (fun ls hl => ?_)
  refine lv_iconst (v := 0) hx hb dX4_takeReal_2 (by decide) ?_
  refine lv_istore_n (lv' := [(3, .int 0), (1, .long 0), (0, .ref (a 92))]) hx hb dX4_takeReal_3 rfl hl (by decide) rfl (fun ls hl => ?_)
  exact b_X4_takeReal_4_92_74 hC FU _ _ _ h _ _ _ hP hD hS (lv_sub hl [2, 1, 0] rfl)

theorem s_X4_takeReal_92_74 {l : Launch} {dC : Nat → ClassId} {dI : Nat → Nat → Nat} {a : Nat → Nat} {k : Nat → ClassId} {sz : Nat}  {σ : ST} {q : Int64 × ST} (h : f_X4_takeReal 92 74  σ = some q) : Met l yX4_takeReal (.code yX4_takeReal cX4_takeReal 4 (some .long) :: pw) ({ frames := 2, cells := 0, slots := 0, locals := 44 } : Room) (va_Pc [.ref (a 92)] (vPre dC dI (wA a k σ) (tA k) sz)) (qAl dC dI a k (va_A (wA a k σ) sz) q) 0 0 (va_A (wA a k σ) sz) := metA (fun A => qAl dC dI a k A q) (plainFor_of_name (by decide)) (Nat.le_of_ble_eq_true rfl) (fun _ _ _ _ _ _ _ _ hC => b_X4_takeReal_e_92_74 hC h)
